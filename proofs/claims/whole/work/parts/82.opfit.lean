/-! the first that fit -/
def farF (F : List Fr) (s : Nat → Int) (i : Nat) : Nat → Option Nat
  | 0 => none
  | j + 1 => if i < j + 1 ∧ okB F s i (j + 1) = true then some (j + 1) else farF F s i j
theorem farF_b {F : List Fr} {s : Nat → Int} {i : Nat} : ∀ j x, farF F s i j = some x → i < x ∧ x ≤ j
  | 0, _, h => by cases h
  | j + 1, x, h => by
    unfold farF at h
    by_cases q : i < j + 1 ∧ okB F s i (j + 1) = true
    · rw [if_pos q] at h; cases h; exact ⟨q.1, Nat.le_refl _⟩
    · rw [if_neg q] at h
      have := farF_b j x h
      omega
theorem farF_flat {F : List Fr} {s : Nat → Int} {i j : Nat} : ∀ d, (∀ t, j < t → t ≤ j + d → okB F s i t = false) → farF F s i (j + d) = farF F s i j
  | 0, _ => rfl
  | d + 1, h => by
    show (if i < j + d + 1 ∧ okB F s i (j + d + 1) = true then some (j + d + 1) else farF F s i (j + d)) = _
    rw [if_neg (fun e => by rw [h (j + d + 1) (by omega) (by omega)] at e; cases e.2), farF_flat d (fun t h1 h2 => h t h1 (by omega))]
def oI (m : Int) (t : Option Nat) : Int := match t with
  | some j => (j : Int)
  | none => m
theorem c_farL {F : List Fr} (hk : okFs F) {s : Nat → Int} (hs : okS s) {i : Nat} : ∀ (d f j : Nat) (M : Mem), j + d = F.length → i ≤ j → d < f → nfB F i (j + 1) = true → cFr M F → cMs M s → cLn M F s i j →
    ∃ M', lq3 f_X6_farthestFrom_L14 f (iz (oI (-1) (farF F s i j))) (iz ((j + 1 : Nat) : Int)) M = some (iz (oI (-1) (farF F s i F.length)), M') ∧ cMs M' s ∧ sameOn (fun a => a ≠ 127) M M' := by
  have hl := hk.1
  intro d
  induction d with
  | zero =>
    intro f j M e1 e2 e3 e4 hF hm hL
    obtain ⟨f, rfl⟩ : ∃ g, f = g + 1 := ⟨f - 1, by omega⟩
    refine ⟨M, ?_, hm, sameOn.rf⟩
    rw [lq3_s]
    generalize lq3 f_X6_farthestFrom_L14 f = K
    unfold f_X6_farthestFrom_L14
    rw [hF.1, if_pos ((iz_cnt (by omega) (by omega)).1.mpr (by omega)), show F.length = j by omega]
  | succ d ih =>
    intro f j M e1 e2 e3 e4 hF hm hL
    obtain ⟨f, rfl⟩ : ∃ g, f = g + 1 := ⟨f - 1, by omega⟩
    have hj1 : j + 1 ≤ F.length := by omega
    obtain ⟨M1, g1, g2, g3, g4⟩ := c_grow hs hk hF hm e2 (by omega) hL
    have hF1 : cFr M1 F := hF.same (g4.mono (fun a ha => by omega))
    have efit := g2.fit hs hk g3 (by omega) hj1
    have efull := g2.full hs hk g3 (by omega) hj1
    have hok : okB F s i (j + 1) = fitV F s i (j + 1) := by unfold okB; rw [e4, Bool.and_true]
    have hnew : bq1 (if (if fitV F s i (j + 1) = true then (1 : Int32) else 0) = 0 then (some (iz (oI (-1) (farF F s i j)))) else (some (iz ((j + 1 : Nat) : Int)))) = (fun (g : Int32 → Option (Int32 × Mem)) => g (iz (oI (-1) (farF F s i (j + 1))))) := by
      funext g
      have e : farF F s i (j + 1) = (if i < j + 1 ∧ okB F s i (j + 1) = true then some (j + 1) else farF F s i j) := rfl
      rw [e, hok]
      by_cases q : fitV F s i (j + 1) = true
      · rw [if_pos q, if_neg (by decide), if_pos ⟨by omega, q⟩]; rfl
      · rw [if_neg q, if_pos rfl, if_neg (fun t => q t.2)]; rfl
    rw [lq3_s]
    by_cases hfu : fullB F s i (j + 1) = true
    · refine ⟨M1, ?_, g3, g4⟩
      generalize lq3 f_X6_farthestFrom_L14 f = K
      unfold f_X6_farthestFrom_L14
      rw [hF.1, if_neg (fun e => by have := (iz_cnt (n := F.length) (m := j + 1) (by omega) (by omega)).1.mp e; omega), g1, b_s1, efit, b_s1, hnew]
      show bq1 (f_X2_isFull M1) _ = _
      rw [efull, b_s1, if_pos hfu, if_neg (by decide)]
      have := farF_flat (F := F) (s := s) (i := i) (j := j + 1) (F.length - (j + 1)) (fun t h1 h2 => full_no hk hs (by omega) h1 (by omega) hfu)
      rw [show j + 1 + (F.length - (j + 1)) = F.length by omega] at this
      rw [this]
    · have hnf : nfB F i (j + 1 + 1) = true := by
        rw [nfB_iff]
        intro t h1 h2
        by_cases q : t = j + 1
        · rw [q]; exact fun e => hfu (fullB_iff.mpr (Or.inl e))
        · exact (nfB_iff (j + 1)).mp e4 t h1 (by omega)
      obtain ⟨M', r1, r2, r3⟩ := ih f (j + 1) M1 (by omega) (by omega) (by omega) hnf hF1 g3 g2
      refine ⟨M', ?_, r2, g4.tr r3⟩
      generalize lq3 f_X6_farthestFrom_L14 f = K at r1 ⊢
      unfold f_X6_farthestFrom_L14
      rw [hF.1, if_neg (fun e => by have := (iz_cnt (n := F.length) (m := j + 1) (by omega) (by omega)).1.mp e; omega), g1, b_s1, efit, b_s1, hnew]
      show bq1 (f_X2_isFull M1) _ = _
      rw [efull, b_s1, if_neg hfu, if_pos rfl, nmq_q, iz_s]; exact r1
theorem c_far {F : List Fr} (hk : okFs F) {s : Nat → Int} (hs : okS s) {i : Nat} (hi : i ≤ F.length) {M : Mem} (hF : cFr M F) (hm : cMs M s) : ∃ M', f_X6_farthestFrom (iz (i : Int)) M = some (iz (oI (-1) (farF F s i F.length)), M') ∧ cMs M' s ∧ sameOn (fun a => a ≠ 127) M M' := by
  have hl := hk.1
  obtain ⟨M1, b1, b2, b3, b4⟩ := c_begin (i := i) hF hm hl hi
  obtain ⟨M', r1, r2, r3⟩ := c_farL hk hs (F.length - i) FU i M1 (by omega) (Nat.le_refl _) (by rw [FU_eq]; omega) (by rw [nfB_iff]; intro t h1 h2; omega) (hF.same (b4.mono (fun a ha => by omega))) b3 b2
  have e0 : farF F s i i = none := by
    cases h : farF F s i i with
    | none => rfl
    | some x => have := farF_b i x h; omega
  rw [e0] at r1
  rw [show iz (oI (-1) none) = (-1 : Int32) from iz_minus1] at r1
  refine ⟨M', ?_, r2, b4.tr r3⟩
  unfold f_X6_farthestFrom
  rw [b1, b_s1, nmq_q, iz_s]; exact r1
def grd (F : List Fr) (s : Nat → Int) : Nat → Nat → Nat → Int
  | 0, _, _ => -9
  | f + 1, i, m => if F.length ≤ i then (m : Int) else match farF F s i F.length with
    | none => -9
    | some j => grd F s f j (m + 1)
theorem c_grdL {F : List Fr} (hk : okFs F) {s : Nat → Int} (hs : okS s) : ∀ (n i m f : Nat) (M : Mem), F.length - i < n → m ≤ i → i ≤ F.length → n ≤ f → cFr M F → cMs M s →
    ∃ M', lq3 f_X6_greedyLines_L12 f (iz (i : Int)) (iz (m : Int)) M = some (iz (grd F s n i m), M') ∧ sameOn (fun a => a ≠ 127) M M' := by
  have hl := hk.1
  intro n
  induction n with
  | zero => intro i m f M h; omega
  | succ n ih =>
    intro i m f M e1 e2 e3 e4 hF hm
    obtain ⟨f, rfl⟩ : ∃ g, f = g + 1 := ⟨f - 1, by omega⟩
    have e192 : ¬ (192 : Int32) ≤ iz (m : Int) := nle_cnt (n := 192) (by omega) (by omega)
    rw [lq3_s]
    show ∃ M', _ = some (iz (if F.length ≤ i then (m : Int) else match farF F s i F.length with | none => -9 | some j => grd F s n j (m + 1)), M') ∧ _
    by_cases q : F.length ≤ i
    · refine ⟨M, ?_, sameOn.rf⟩
      generalize lq3 f_X6_greedyLines_L12 f = K
      unfold f_X6_greedyLines_L12
      rw [if_neg e192, hF.1, if_pos (le_cnt q (by omega)), if_pos q]
    · obtain ⟨M1, r1, r2, r3⟩ := c_far hk hs e3 hF hm
      rw [if_neg q]
      cases hfar : farF F s i F.length with
      | none =>
        rw [hfar] at r1
        refine ⟨M1, ?_, r3⟩
        generalize lq3 f_X6_greedyLines_L12 f = K
        unfold f_X6_greedyLines_L12
        rw [if_neg e192, hF.1, if_neg (nle_cnt (by omega) (by omega)), r1, b_s2, if_neg (show ¬ (0 : Int32) ≤ iz (oI (-1) none) by decide)]; rfl
      | some j =>
        rw [hfar] at r1
        have hb := farF_b _ _ hfar
        obtain ⟨M', q1, q2⟩ := ih j (m + 1) f M1 (by omega) (by omega) hb.2 (by omega) (hF.same (r3.mono (fun a ha => by omega))) r2
        refine ⟨M', ?_, r3.tr q2⟩
        generalize lq3 f_X6_greedyLines_L12 f = K at q1 ⊢
        unfold f_X6_greedyLines_L12
        rw [if_neg e192, hF.1, if_neg (nle_cnt (by omega) (by omega)), r1, b_s2, if_pos (show (0 : Int32) ≤ iz (oI (-1) (some j)) from le_cnt (n := 0) (by omega) (by omega)), nmq_q, iz_s]; exact q1
theorem m_farL {v : PV} (hv : okV v) {F : List Fr} (hk : okFs F) {M : Mem} (hm : mPar (rdNow M) v) (hF : mFr M F) {i : Nat} : ∀ (d f j : Nat), j + d = F.length → i ≤ j → d < f → nfB F i (j + 1) = true →
    lq3 (f_X9_farthestFrom_L10 (iz (i : Int)) M) f (iz (oI (-9) (farF F v.2.2.2 i j))) (1 : Int32) (iz ((j + 1 : Nat) : Int)) = some (iz (oI (-9) (farF F v.2.2.2 i F.length))) := by
  have hl := hk.1
  intro d
  induction d with
  | zero =>
    intro f j e1 e2 e3 e4
    obtain ⟨f, rfl⟩ : ∃ g, f = g + 1 := ⟨f - 1, by omega⟩
    rw [lq3_s]
    generalize lq3 (f_X9_farthestFrom_L10 (iz (i : Int)) M) f = K
    unfold f_X9_farthestFrom_L10
    rw [hF.1, if_pos ((iz_cnt (by omega) (by omega)).1.mpr (by omega)), show F.length = j by omega]
  | succ d ih =>
    intro f j e1 e2 e3 e4
    obtain ⟨f, rfl⟩ : ∃ g, f = g + 1 := ⟨f - 1, by omega⟩
    have hj1 : j + 1 ≤ F.length := by omega
    have efit := hF.fit hv hm hk (i := i) (j := j + 1) (by omega) hj1
    have hok : okB F v.2.2.2 i (j + 1) = fitV F v.2.2.2 i (j + 1) := by unfold okB; rw [e4, Bool.and_true]
    have e5 := (hF.2.2 j (by omega)).1
    have hb5 := fw_b hk j
    have hnew : (if (if fitV F v.2.2.2 i (j + 1) = true then (1 : Int32) else 0) = 0 then (iz (oI (-9) (farF F v.2.2.2 i j))) else (iz ((j + 1 : Nat) : Int))) = iz (oI (-9) (farF F v.2.2.2 i (j + 1))) := by
      have e : farF F v.2.2.2 i (j + 1) = (if i < j + 1 ∧ okB F v.2.2.2 i (j + 1) = true then some (j + 1) else farF F v.2.2.2 i j) := rfl
      rw [e, hok]
      by_cases q : fitV F v.2.2.2 i (j + 1) = true
      · rw [if_pos q, if_neg (by decide), if_pos ⟨by omega, q⟩]; rfl
      · rw [if_neg q, if_pos rfl, if_neg (fun t => q t.2)]
    have em : iz ((j + 1 : Nat) : Int) - (1 : Int32) = iz (j : Int) := by rw [iz_m1n (by omega)]; rfl
    rw [lq3_s]
    by_cases q2 : fe F j = 2
    · obtain ⟨f, rfl⟩ : ∃ g, f = g + 1 := ⟨f - 1, by omega⟩
      generalize hK : lq3 (f_X9_farthestFrom_L10 (iz (i : Int)) M) (f + 1) = K
      unfold f_X9_farthestFrom_L10
      rw [hF.1, if_neg (fun e => by have := (iz_cnt (n := F.length) (m := j + 1) (by omega) (by omega)).1.mp e; omega), if_neg (by decide), efit, b_s1, nmq_q, hnew, em, g_t (inB_n (by omega) (by omega)), clN (by omega), e5, if_pos (show iz (fe F j : Int) = (2 : Int32) by rw [q2]; rfl), nmq_q, ← hK, lq3_s]
      generalize lq3 (f_X9_farthestFrom_L10 (iz (i : Int)) M) f = K
      have hflat := farF_flat (F := F) (s := v.2.2.2) (i := i) (j := j + 1) (F.length - (j + 1)) (fun t h1 h2 => by
        unfold okB
        have : nfB F i t = false := by
          cases hh : nfB F i t with
          | false => rfl
          | true => exact absurd q2 ((nfB_iff t).mp hh (j + 1) (by omega) h1)
        rw [this, Bool.and_false])
      rw [show j + 1 + (F.length - (j + 1)) = F.length by omega] at hflat
      rw [hflat]
      unfold f_X9_farthestFrom_L10
      by_cases q3 : gi M 139 25 < iz ((j + 1 : Nat) : Int) + (1 : Int32)
      · rw [if_pos q3]
      · rw [if_neg q3, if_pos rfl]
    · have hnf : nfB F i (j + 1 + 1) = true := by
        rw [nfB_iff]
        intro t h1 h2
        by_cases q : t = j + 1
        · rw [q]; exact q2
        · exact (nfB_iff (j + 1)).mp e4 t h1 (by omega)
      have r1 := ih f (j + 1) (by omega) (by omega) (by omega) hnf
      generalize lq3 (f_X9_farthestFrom_L10 (iz (i : Int)) M) f = K at r1 ⊢
      unfold f_X9_farthestFrom_L10
      rw [hF.1, if_neg (fun e => by have := (iz_cnt (n := F.length) (m := j + 1) (by omega) (by omega)).1.mp e; omega), if_neg (by decide), efit, b_s1, nmq_q, hnew, em, g_t (inB_n (by omega) (by omega)), clN (by omega), e5, if_neg (show ¬ iz (fe F j : Int) = (2 : Int32) from ne_cnt (i := 2) q2 (by omega) (by omega)), nmq_q, iz_s]; exact r1
theorem m_far {v : PV} (hv : okV v) {F : List Fr} (hk : okFs F) {M : Mem} (hm : mPar (rdNow M) v) (hF : mFr M F) {i : Nat} (hi : i ≤ F.length) : f_X9_farthestFrom (iz (i : Int)) M = some (iz (oI (-9) (farF F v.2.2.2 i F.length))) := by
  have hl := hk.1
  have r1 := m_farL hv hk hm hF (F.length - i) FU i (by omega) (Nat.le_refl _) (by rw [FU_eq]; omega) (by rw [nfB_iff]; intro t h1 h2; omega)
  have e0 : farF F v.2.2.2 i i = none := by
    cases h : farF F v.2.2.2 i i with
    | none => rfl
    | some x => have := farF_b i x h; omega
  rw [e0] at r1
  unfold f_X9_farthestFrom
  rw [show iz (oI (-9) none) = (-9 : Int32) by decide] at r1
  rw [nmq_q, iz_s, r1, b_s1]
theorem m_grdL {v : PV} (hv : okV v) {F : List Fr} (hk : okFs F) {M : Mem} (hm : mPar (rdNow M) v) (hF : mFr M F) : ∀ (n i m f : Nat), F.length - i < n → m ≤ i → i ≤ F.length → n < f →
    ∃ a b : Int32, lq2 (f_X9_firstFit_L8 M) f (iz (m : Int)) (iz (i : Int)) = some (a, b) ∧ (if 0 ≤ b then a else (-9 : Int32)) = iz (grd F v.2.2.2 n i m) := by
  have hl := hk.1
  intro n
  induction n with
  | zero => intro i m f h; omega
  | succ n ih =>
    intro i m f e1 e2 e3 e4
    obtain ⟨f, rfl⟩ : ∃ g, f = g + 1 := ⟨f - 1, by omega⟩
    rw [lq2_s]
    show ∃ a b : Int32, _ = some (a, b) ∧ _ = iz (if F.length ≤ i then (m : Int) else match farF F v.2.2.2 i F.length with | none => -9 | some j => grd F v.2.2.2 n j (m + 1))
    by_cases q : F.length ≤ i
    · refine ⟨iz (m : Int), iz (i : Int), ?_, ?_⟩
      · generalize lq2 (f_X9_firstFit_L8 M) f = K
        unfold f_X9_firstFit_L8
        rw [if_neg (not_neg i (by omega)), hF.1, if_pos (le_cnt q (by omega))]
      · rw [if_pos (show (0 : Int32) ≤ iz (i : Int) from le_cnt (n := 0) (by omega) (by omega)), if_pos q]
    · have r1 := m_far hv hk hm hF e3
      rw [if_neg q]
      cases hfar : farF F v.2.2.2 i F.length with
      | none =>
        rw [hfar] at r1
        obtain ⟨f, rfl⟩ : ∃ g, f = g + 1 := ⟨f - 1, by omega⟩
        refine ⟨iz ((m + 1 : Nat) : Int), (-9 : Int32), ?_, by rw [if_neg (by decide)]; show (-9 : Int32) = iz (-9 : Int); decide⟩
        generalize hK : lq2 (f_X9_firstFit_L8 M) (f + 1) = K
        unfold f_X9_firstFit_L8
        rw [if_neg (not_neg i (by omega)), hF.1, if_neg (nle_cnt (by omega) (by omega)), r1, b_s1, nmq_q, iz_s, ← hK, lq2_s]
        generalize lq2 (f_X9_firstFit_L8 M) f = K
        unfold f_X9_firstFit_L8
        show (if (-9 : Int32) < 0 then some (iz ((m + 1 : Nat) : Int), (-9 : Int32)) else _) = _
        rw [if_pos (by decide)]
      | some j =>
        rw [hfar] at r1
        have hb := farF_b _ _ hfar
        obtain ⟨a, b, q1, q2⟩ := ih j (m + 1) f (by omega) (by omega) hb.2 (by omega)
        refine ⟨a, b, ?_, q2⟩
        generalize lq2 (f_X9_firstFit_L8 M) f = K at q1 ⊢
        unfold f_X9_firstFit_L8
        rw [if_neg (not_neg i (by omega)), hF.1, if_neg (nle_cnt (by omega) (by omega)), r1, b_s1, nmq_q, iz_s]; exact q1
theorem op_firstFit {M : Mem} (hI : Inv M) : both M f_X8_firstFit f_X9_firstFit := by
  have hI' := hI
  obtain ⟨now, img, st, ct, hist, ls, rw_, R, hg, hC, hM⟩ := hI
  have hv := hg.1.1
  have hk : okFs (frs now 0 now.1) := frs_okFs hv (fun q hq => hq) (Nat.le_refl _)
  have hl := hk.1
  refine both_ask hI' (r := iz (grd (frs now 0 now.1) now.2.2.2 161 0 0)) ?_ (fun M' hs' => ?_)
  · obtain ⟨M1, r1, r2, r3⟩ := c_cut (p := 1) (Or.inl rfl) hv hC.1 (g := 0) (by omega)
    rw [leftW_0] at r2
    obtain ⟨M2, m1, m2, m3⟩ := c_measure (Or.inl rfl) hv (par_cut (Or.inl rfl) hC.1 r3)
    obtain ⟨M3, q1, q2⟩ := c_grdL hk hv.2.2.2.2.2 161 0 0 FU M2 (by omega) (Nat.le_refl _) (Nat.zero_le _) (by rw [FU_eq]; omega) (r2.same (m3.mono (fun a ha => by omega))) m2
    refine ⟨M3, keepC.of (((r3.mono (fun a ha => by omega)).tr (m3.mono (fun a ha => by omega))).tr (q2.mono (fun a ha => by omega))), ?_⟩
    unfold f_X8_firstFit
    have r1' : f_X0_cut 1 (0 : Int32) M = some M1 := r1
    have q1' : lq3 f_X6_greedyLines_L12 FU (0 : Int32) (0 : Int32) M2 = _ := q1
    have e : f_X6_greedyLines 1 M1 = some (iz (grd (frs now 0 now.1) now.2.2.2 161 0 0), M3) := by
      unfold f_X6_greedyLines
      rw [m1, b_s1]; exact q1'
    rw [r1', b_s1, b2_id, e]
  · have hm := (hM.same hg hs').1
    obtain ⟨M1, f1, f2, f3⟩ := m_findF hv hm
    obtain ⟨a, b, q1, q2⟩ := m_grdL hv hk (f3.par hv hm) f2 161 0 0 FU (by omega) (Nat.le_refl _) (Nat.zero_le _) (by rw [FU_eq]; omega)
    refine ⟨M1, f3.keep, ?_⟩
    unfold f_X9_firstFit
    have q1' : lq2 (f_X9_firstFit_L8 M1) FU (0 : Int32) (0 : Int32) = some (a, b) := q1
    rw [f1, b_s1, q1', b_s2, ← q2]
    by_cases c : (0 : Int32) ≤ b
    · rw [if_pos c, if_pos c]
    · rw [if_neg c, if_neg c]
