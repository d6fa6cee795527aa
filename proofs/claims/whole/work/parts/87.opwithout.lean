/-! without, worst -/
def totB (t : Option (UInt32 × Nat)) : Int32 := match t with
  | some x => x.1.toInt32
  | none => 0
theorem c_botT {F : List Fr} (hk : okFs F) {s : Nat → Int} (hs : okS s) : f_X8_bitsOfTotal (oV (bst F s F.length)) = some (totB (bst F s F.length)) := by
  obtain ⟨n1, n2⟩ := oV_neg (F := F) (H := bst F s) (fun j x hj hx => bst_ok hk hs j j (Nat.le_refl _) hj x hx) (j := F.length) (Nat.le_refl _)
  unfold f_X8_bitsOfTotal
  rw [(fc_val n1 (nn_ne c_0.1)).1, c_0.2.2]
  cases hb : bst F s F.length with
  | none =>
    have := n2.mpr hb
    rw [hb] at this
    rw [if_neg (fun e => by have := cmp3_ge.mp e; omega)]; rfl
  | some x =>
    have ht := bst_ok hk hs F.length F.length (Nat.le_refl _) (Nat.le_refl _) x hb
    have hz : zv (oV (some x)) = (uz x.1 : Int) := zv_nn ht.1
    rw [if_pos (cmp3_ge.mpr (by omega))]
    show bq1 (f_X8_bitsOf x.1) _ = some x.1.toInt32
    by_cases q : F.length = 0
    · rw [q, bst_0] at hb
      cases hb
      rw [c_bits0, b_s1, bits_0]
    · have h2 := ht.2.2 (by omega)
      rw [c_bitsP ht.1 (Nat.le_trans (Nat.pow_le_pow_right (by omega) (by omega)) h2), b_s1]
theorem m_botT {M : Mem} {F : List Fr} {s : Nat → Int} (hk : okFs F) (hs : okS s) (hF : mFr M F) (hS : mSol M F s) : (if (0 : Int32) ≤ iz (cntV F s) then (bq1 (f_X9_totalNow M) (fun (x11 : UInt32) => bq1 (f_Jxf58ca_floatToIntBits_5c35a x11) (fun (x13 : Int32) => some (x13, M)))) else some ((0 : Int32), M)) = some (totB (bst F s F.length), M) := by
  have hb := cntV_b hk (s := s)
  obtain ⟨x, t1, t2⟩ := m_total hk hF hS
  cases hbs : bst F s F.length with
  | none =>
    have hc := hb.2.2.mpr hbs
    rw [hc, if_neg (by decide)]; rfl
  | some y =>
    rw [hbs] at t2
    have t2 : x = y.1 := t2 rfl
    have hc : ¬ cntV F s = -9 := fun e => by have := hb.2.2.mp e; rw [hbs] at this; cases this
    have ht := bst_ok hk hs F.length F.length (Nat.le_refl _) (Nat.le_refl _) y hbs
    rw [if_pos (show (0 : Int32) ≤ iz (cntV F s) from le_iz (a := 0) (by omega) (by omega) (by omega) (by omega) (by omega)), t1, b_s1, t2, m_bits (nn_ne ht.1), b_s1]; rfl
theorem op_without {M : Mem} (hI : Inv M) (p p' : Int32) : both M (f_X8_without p p') (f_X9_without p p') := by
  have hI' := hI
  obtain ⟨now, img, st, ct, hist, ls, rw_, R, hg, hC, hM⟩ := hI
  obtain ⟨z, z1, z2, rfl⟩ := iz_ex p
  obtain ⟨y, y1, y2, rfl⟩ := iz_ex p'
  have hv := hg.1.1
  have hf1 := c_has hC.1.1.1 hg.1.1.1 z1 z2
  have hg1 : ∀ M', gi M' 139 9 = gi M 139 9 → f_X9_isWord (iz z) M' = _ := fun M' e => m_isWord (e.trans hM.1.count) hg.1.1.1 z1 z2
  have eo : f_X8_isOther (iz y) (2 : Int32) = _ := c_isOther (z := y) (n := 2) y1 y2 (by omega) (by omega)
  have ei : f_X9_isIn (iz y) (0 : Int32) (1 : Int32) = _ := m_isIn (z := y) (lo := 0) (hi := 1) y1 y2 (by omega) (by omega) (by omega) (by omega)
  have kn : ∀ M', f_X9_no (-1 : Int32) M' = f_X9_no (iz (-((1 : Nat) : Int))) M' := fun _ => rfl
  have kc : ∀ M', f_X8_refuse (-1 : Int32) M' = f_X8_refuse (iz (-((1 : Nat) : Int))) M' := fun _ => rfl
  have kn2 : ∀ M', f_X9_no (-2 : Int32) M' = f_X9_no (iz (-((2 : Nat) : Int))) M' := fun _ => rfl
  have kc2 : ∀ M', f_X8_refuse (-2 : Int32) M' = f_X8_refuse (iz (-((2 : Nat) : Int))) M' := fun _ => rfl
  by_cases q : 0 ≤ z ∧ z < now.1.length
  case neg =>
    rw [if_neg q] at hf1
    refine both_no' hI' (v := 1) (by omega) ?_ (fun M' hs => ?_)
    · simp (decide := true) only [f_X8_without, hf1, b_s1, if_true, b2_id]; exact kc _
    · have h1 := hg1 M' (by rw [(hs 139 (by omega)).1])
      rw [if_neg q] at h1
      simp (decide := true) only [f_X9_without, h1, b_s1, if_true, if_false, b2_id]; exact kn _
  rw [if_pos q] at hf1
  by_cases q3 : 0 ≤ y ∧ y < 2
  case neg =>
    rw [if_neg q3] at eo
    rw [if_neg (show ¬ (0 ≤ y ∧ y ≤ 1) by omega)] at ei
    refine both_no' hI' (v := 2) (by omega) ?_ (fun M' hs => ?_)
    · simp (decide := true) only [f_X8_without, hf1, eo, b_s1, if_false, b2_id]; exact kc2 _
    · have h1 := hg1 M' (by rw [(hs 139 (by omega)).1])
      rw [if_pos q] at h1
      simp (decide := true) only [f_X9_without, h1, ei, b_s1, if_true, if_false, b2_id]; exact kn2 _
  rw [if_pos q3] at eo
  rw [if_pos (show 0 ≤ y ∧ y ≤ 1 by omega)] at ei
  obtain ⟨w, rfl⟩ : ∃ w : Nat, z = (w : Int) := ⟨z.toNat, by omega⟩
  have h16 := hv.1
  have hw : w < now.1.length := by omega
  have hk : okFs (frs now 0 (now.1.eraseIdx w)) := frs_okFs hv (fun q hq => List.mem_of_mem_eraseIdx hq) (by rw [List.length_eraseIdx_of_lt hw]; omega)
  have hs := hv.2.2.2.2.2
  refine both_askR hI' (r := if iz y = 0 then iz (cntV (frs now 0 (now.1.eraseIdx w)) now.2.2.2) else totB (bst (frs now 0 (now.1.eraseIdx w)) now.2.2.2 (frs now 0 (now.1.eraseIdx w)).length)) ?_ (fun M' hs' => ?_)
  · have hp16 : (2 : Nat) ^ w < 65536 := Nat.lt_of_lt_of_le (Nat.pow_lt_pow_right (by omega) (show w < 16 by omega)) (by decide)
    obtain ⟨M1, r1, r2, r3, -, r5⟩ := c_set (p := 1) (Or.inl rfl) hv hC.1 (g := 2 ^ w) hp16
    rw [leftW_one] at r1 r2 r3
    have esh : ishl_ (1 : Int32) (iz (w : Int)) = iz ((2 ^ w : Nat) : Int) := shl1 ⟨w, by omega⟩
    refine ⟨M1, keepC.of (r5.mono (fun a ha => by omega)), ?_⟩
    unfold f_X8_without
    have hf1 : f_X7_has 3 (iz (w : Int)) M = some (1 : Int32) := hf1
    rw [hf1, b_s1, if_neg (by decide), eo, b_s1, if_pos rfl, esh, r1, b_s2]
    by_cases c : iz y = 0
    · rw [if_pos c, if_pos c]
    · rw [if_neg c, if_neg c, c_least hk r3 r2, b_s1, c_botT hk hs, b_s1]
  · have h1 := hg1 M' (by rw [(hs' 139 (by omega)).1])
    rw [if_pos q] at h1
    have hm := (hM.same hg hs').1
    obtain ⟨M8, e, k, s1, s2⟩ := m_without hv hm hw
    refine ⟨M8, k, ?_⟩
    unfold f_X9_without
    rw [h1, b_s1, if_neg (by decide), ei, b_s1, if_neg (by decide), b_s1, if_pos rfl, e, b_s2]
    by_cases c : iz y = 0
    · rw [if_pos c, if_pos c]
    · rw [if_neg c, if_neg c]; exact m_botT hk hs s2 s1
/-- the best so far that is less, and whose -/
def wrF (T : Nat → Option (UInt32 × Nat)) (t0 : Option (UInt32 × Nat)) : Nat → Option (UInt32 × Nat) × Int
  | 0 => (t0, -9)
  | k + 1 => if lessT (T k) (wrF T t0 k).1 = true then (T k, (k : Int)) else wrF T t0 k
theorem wrF_nn {T : Nat → Option (UInt32 × Nat)} {t0 : Option (UInt32 × Nat)} (h0 : ∀ x, t0 = some x → nn x.1) {n : Nat} (hT : ∀ k, k < n → ∀ x, T k = some x → nn x.1) : ∀ k, k ≤ n → ∀ x, (wrF T t0 k).1 = some x → nn x.1
  | 0, _, x, h => h0 x h
  | k + 1, hk, x, h => by
    unfold wrF at h
    by_cases q : lessT (T k) (wrF T t0 k).1 = true
    · rw [if_pos q] at h; exact hT k (by omega) x h
    · rw [if_neg q] at h; exact wrF_nn h0 hT k (by omega) x h
theorem c_wrL {v : PV} (hv : okV v) {t0 : Option (UInt32 × Nat)} (h0 : ∀ x, t0 = some x → nn x.1) : ∀ (d f k : Nat) (M : Mem), k + d = v.1.length → d < f → cPar M 1 v →
    ∃ M', lq4 f_X8_worst_L26 f (oV (wrF (fun w => bst (frs v 0 (v.1.eraseIdx w)) v.2.2.2 (frs v 0 (v.1.eraseIdx w)).length) t0 k).1) (iz (wrF (fun w => bst (frs v 0 (v.1.eraseIdx w)) v.2.2.2 (frs v 0 (v.1.eraseIdx w)).length) t0 k).2) (iz (k : Int)) M = some (iz (wrF (fun w => bst (frs v 0 (v.1.eraseIdx w)) v.2.2.2 (frs v 0 (v.1.eraseIdx w)).length) t0 v.1.length).2, M') ∧ sameOn (fun a => a < 126 ∨ a = 134 ∨ a = 135 ∨ 137 ≤ a) M M' := by
  have h16 := hv.1
  have hs := hv.2.2.2.2.2
  have hkk : ∀ w, w < v.1.length → okFs (frs v 0 (v.1.eraseIdx w)) := fun w hw => frs_okFs hv (fun q hq => List.mem_of_mem_eraseIdx hq) (by rw [List.length_eraseIdx_of_lt hw]; omega)
  have hTn : ∀ w, w < v.1.length → ∀ x, bst (frs v 0 (v.1.eraseIdx w)) v.2.2.2 (frs v 0 (v.1.eraseIdx w)).length = some x → nn x.1 := fun w hw x hx => (bst_ok (hkk w hw) hs _ _ (Nat.le_refl _) (Nat.le_refl _) x hx).1
  intro d
  induction d with
  | zero =>
    intro f k M e1 e2 hc
    obtain ⟨f, rfl⟩ : ∃ g, f = g + 1 := ⟨f - 1, by omega⟩
    refine ⟨M, ?_, sameOn.rf⟩
    rw [lq4_s]
    generalize lq4 f_X8_worst_L26 f = K
    unfold f_X8_worst_L26
    have h3 : gi M 3 3 = iz (v.1.length : Int) := hc.1.1
    rw [h3, if_pos (le_cnt (by omega) (by omega)), show k = v.1.length by omega]
  | succ d ih =>
    intro f k M e1 e2 hc
    obtain ⟨f, rfl⟩ : ∃ g, f = g + 1 := ⟨f - 1, by omega⟩
    have hkw := hkk k (by omega)
    have hp16 : (2 : Nat) ^ k < 65536 := Nat.lt_of_lt_of_le (Nat.pow_lt_pow_right (by omega) (show k < 16 by omega)) (by decide)
    obtain ⟨M1, r1, r2, r3, -, r5⟩ := c_set (p := 1) (Or.inl rfl) hv hc (g := 2 ^ k) hp16
    rw [leftW_one] at r1 r2 r3
    have esh : ishl_ (1 : Int32) (iz (k : Int)) = iz ((2 ^ k : Nat) : Int) := shl1 ⟨k, by omega⟩
    have ihs := ih f (k + 1) M1 (by omega) (by omega) (hc.same (r5.mono (fun a ha => by omega)))
    have eS : wrF (fun w => bst (frs v 0 (v.1.eraseIdx w)) v.2.2.2 (frs v 0 (v.1.eraseIdx w)).length) t0 (k + 1) = (if lessT (bst (frs v 0 (v.1.eraseIdx k)) v.2.2.2 (frs v 0 (v.1.eraseIdx k)).length) (wrF (fun w => bst (frs v 0 (v.1.eraseIdx w)) v.2.2.2 (frs v 0 (v.1.eraseIdx w)).length) t0 k).1 = true then (bst (frs v 0 (v.1.eraseIdx k)) v.2.2.2 (frs v 0 (v.1.eraseIdx k)).length, (k : Int)) else wrF (fun w => bst (frs v 0 (v.1.eraseIdx w)) v.2.2.2 (frs v 0 (v.1.eraseIdx w)).length) t0 k) := rfl
    have hcn := wrF_nn (T := fun w => bst (frs v 0 (v.1.eraseIdx w)) v.2.2.2 (frs v 0 (v.1.eraseIdx w)).length) h0 (n := v.1.length) hTn k (by omega)
    have hl := c_isLess (hTn k (by omega)) hcn
    rw [eS] at ihs
    generalize wrF (fun w => bst (frs v 0 (v.1.eraseIdx w)) v.2.2.2 (frs v 0 (v.1.eraseIdx w)).length) t0 k = cur at ihs hl ⊢
    obtain ⟨M', q1, q2⟩ := ihs
    refine ⟨M', ?_, r5.tr q2⟩
    rw [lq4_s]
    generalize lq4 f_X8_worst_L26 f = K at q1 ⊢
    unfold f_X8_worst_L26
    have h3 : gi M 3 3 = iz (v.1.length : Int) := hc.1.1
    rw [h3, if_neg (nle_cnt (by omega) (by omega)), esh, r1, b_s2, c_least hkw r3 r2, b_s1, hl, b_s1, nmq_q, nmq_q, iz_s]
    by_cases q : lessT (bst (frs v 0 (v.1.eraseIdx k)) v.2.2.2 (frs v 0 (v.1.eraseIdx k)).length) cur.1 = true
    · rw [if_pos q] at q1
      rw [if_pos q, if_neg (by decide)]; exact q1
    · rw [if_neg q] at q1
      rw [if_neg q, if_pos rfl]; exact q1
theorem lq5_s {A B C D E R : Type} (F : (A → B → C → D → E → Option R) → A → B → C → D → E → Option R) (n : Nat) (a : A) (b : B) (c : C) (d : D) (e : E) : lq5 F (n + 1) a b c d e = F (lq5 F n) a b c d e := rfl
theorem m_wrL {v : PV} (hv : okV v) {t0 : Option (UInt32 × Nat)} (h0 : ∀ x, t0 = some x → nn x.1) : ∀ (d f k : Nat) (M : Mem) (x : UInt32), k + d = v.1.length → d < f → mPar (rdNow M) v → ((wrF (fun w => bst (frs v 0 (v.1.eraseIdx w)) v.2.2.2 (frs v 0 (v.1.eraseIdx w)).length) t0 k).1.isSome = true → x = oV (wrF (fun w => bst (frs v 0 (v.1.eraseIdx w)) v.2.2.2 (frs v 0 (v.1.eraseIdx w)).length) t0 k).1) →
    ∃ M', lq5 f_X9_worst_L24 f (if (wrF (fun w => bst (frs v 0 (v.1.eraseIdx w)) v.2.2.2 (frs v 0 (v.1.eraseIdx w)).length) t0 k).1.isSome = true then (1 : Int32) else 0) x (iz (wrF (fun w => bst (frs v 0 (v.1.eraseIdx w)) v.2.2.2 (frs v 0 (v.1.eraseIdx w)).length) t0 k).2) (iz (k : Int)) M = some (iz (wrF (fun w => bst (frs v 0 (v.1.eraseIdx w)) v.2.2.2 (frs v 0 (v.1.eraseIdx w)).length) t0 v.1.length).2, M') ∧ keepR M M' := by
  have h16 := hv.1
  have hs := hv.2.2.2.2.2
  have hkk : ∀ w, w < v.1.length → okFs (frs v 0 (v.1.eraseIdx w)) := fun w hw => frs_okFs hv (fun q hq => List.mem_of_mem_eraseIdx hq) (by rw [List.length_eraseIdx_of_lt hw]; omega)
  have hTn : ∀ w, w < v.1.length → ∀ x, bst (frs v 0 (v.1.eraseIdx w)) v.2.2.2 (frs v 0 (v.1.eraseIdx w)).length = some x → nn x.1 := fun w hw x hx => (bst_ok (hkk w hw) hs _ _ (Nat.le_refl _) (Nat.le_refl _) x hx).1
  intro d
  induction d with
  | zero =>
    intro f k M x e1 e2 hm hx
    obtain ⟨f, rfl⟩ : ∃ g, f = g + 1 := ⟨f - 1, by omega⟩
    refine ⟨M, ?_, keepR.rf⟩
    rw [lq5_s]
    generalize lq5 f_X9_worst_L24 f = K
    unfold f_X9_worst_L24
    rw [hm.count, if_pos (le_cnt (by omega) (by omega)), show k = v.1.length by omega]
  | succ d ih =>
    intro f k M x e1 e2 hm hx
    obtain ⟨f, rfl⟩ : ∃ g, f = g + 1 := ⟨f - 1, by omega⟩
    have hkw := hkk k (by omega)
    obtain ⟨M1, r1, r2, r3, r4⟩ := m_without hv hm (w := k) (by omega)
    obtain ⟨y, t1, t2⟩ := m_total hkw r4 r3
    have hneg := cnt_neg hkw (s := v.2.2.2)
    have hm1 := r2.par hv hm
    have eS : wrF (fun w => bst (frs v 0 (v.1.eraseIdx w)) v.2.2.2 (frs v 0 (v.1.eraseIdx w)).length) t0 (k + 1) = (if lessT (bst (frs v 0 (v.1.eraseIdx k)) v.2.2.2 (frs v 0 (v.1.eraseIdx k)).length) (wrF (fun w => bst (frs v 0 (v.1.eraseIdx w)) v.2.2.2 (frs v 0 (v.1.eraseIdx w)).length) t0 k).1 = true then (bst (frs v 0 (v.1.eraseIdx k)) v.2.2.2 (frs v 0 (v.1.eraseIdx k)).length, (k : Int)) else wrF (fun w => bst (frs v 0 (v.1.eraseIdx w)) v.2.2.2 (frs v 0 (v.1.eraseIdx w)).length) t0 k) := rfl
    have hcn := wrF_nn (T := fun w => bst (frs v 0 (v.1.eraseIdx w)) v.2.2.2 (frs v 0 (v.1.eraseIdx w)).length) h0 (n := v.1.length) hTn k (by omega)
    have hTk := hTn k (by omega)
    have ihs := ih f (k + 1) M1
    rw [eS] at ihs
    generalize wrF (fun w => bst (frs v 0 (v.1.eraseIdx w)) v.2.2.2 (frs v 0 (v.1.eraseIdx w)).length) t0 k = cur at ihs hcn hx ⊢
    generalize bst (frs v 0 (v.1.eraseIdx k)) v.2.2.2 (frs v 0 (v.1.eraseIdx k)).length = T at ihs t2 hneg hTk
    have hun : ∀ K, f_X9_worst_L24 K (if cur.1.isSome = true then (1 : Int32) else 0) x (iz cur.2) (iz (k : Int)) M = (if iz (cntV (frs v 0 (v.1.eraseIdx k)) v.2.2.2) < 0 then K (if cur.1.isSome = true then (1 : Int32) else 0) x (iz cur.2) (iz ((k + 1 : Nat) : Int)) M1 else if (if cur.1.isSome = true then (1 : Int32) else 0) = 0 then K (1 : Int32) y (iz (k : Int)) (iz ((k + 1 : Nat) : Int)) M1 else if fcl y x < 0 then K (1 : Int32) y (iz (k : Int)) (iz ((k + 1 : Nat) : Int)) M1 else K (if cur.1.isSome = true then (1 : Int32) else 0) x (iz cur.2) (iz ((k + 1 : Nat) : Int)) M1) := fun K => by
      unfold f_X9_worst_L24
      rw [hm.count, if_neg (nle_cnt (by omega) (by omega)), r1, b_s2, nmq_q, iz_s, jq_q, t1]
      simp only [b_s1, nmq, iz_s]
    rw [lq5_s, hun]
    cases T with
    | none =>
      have hle : lessT none cur.1 = false := rfl
      rw [hle, if_neg (by decide)] at ihs
      obtain ⟨M', q1, q2⟩ := ihs x (by omega) (by omega) hm1 hx
      refine ⟨M', ?_, r2.tr q2⟩
      rw [if_pos (hneg.mpr rfl)]; exact q1
    | some a =>
      have ha := hTk a rfl
      have ey : y = a.1 := t2 rfl
      rw [if_neg (fun e => by have := hneg.mp e; cases this)]
      cases hc : cur.1 with
      | none =>
        rw [hc] at ihs
        have hle : lessT (some a) none = true := rfl
        rw [if_pos hle] at ihs
        obtain ⟨M', q1, q2⟩ := ihs y (by omega) (by omega) hm1 (fun _ => ey)
        refine ⟨M', ?_, r2.tr q2⟩
        rw [if_pos (show (if (none : Option (UInt32 × Nat)).isSome = true then (1 : Int32) else 0) = 0 from rfl)]; exact q1
      | some b =>
        have hb := hcn b hc
        have ex : x = b.1 := by rw [hc] at hx; exact hx rfl
        rw [hc] at ihs
        have hle : lessT (some a) (some b) = decide (zv a.1 < zv b.1) := rfl
        rw [hle] at ihs
        rw [if_neg (show ¬ (if (some b : Option (UInt32 × Nat)).isSome = true then (1 : Int32) else 0) = 0 by show ¬ (1 : Int32) = 0; decide), ey, ex, (fc_val (nn_ne ha) (nn_ne hb)).2]
        by_cases q : zv a.1 < zv b.1
        · rw [if_pos (decide_eq_true q)] at ihs
          obtain ⟨M', q1, q2⟩ := ihs a.1 (by omega) (by omega) hm1 (fun _ => rfl)
          refine ⟨M', ?_, r2.tr q2⟩
          rw [if_pos (cmp3_lt.mpr q)]; exact q1
        · rw [if_neg (by rw [decide_eq_false q]; decide)] at ihs
          obtain ⟨M', q1, q2⟩ := ihs b.1 (by omega) (by omega) hm1 (fun _ => by rw [hc]; rfl)
          refine ⟨M', ?_, r2.tr q2⟩
          rw [if_neg (fun e => q (cmp3_lt.mp e))]
          rw [hc] at q1; exact q1
theorem op_worst {M : Mem} (hI : Inv M) : both M f_X8_worst f_X9_worst := by
  have hI' := hI
  obtain ⟨now, img, st, ct, hist, ls, rw_, R, hg, hC, hM⟩ := hI
  have hv := hg.1.1
  have h16 := hv.1
  have hs := hv.2.2.2.2.2
  have hk : okFs (frs now 0 now.1) := frs_okFs hv (fun q hq => hq) (Nat.le_refl _)
  have h0 : ∀ x, bst (frs now 0 now.1) now.2.2.2 (frs now 0 now.1).length = some x → nn x.1 := fun x hx => (bst_ok hk hs _ _ (Nat.le_refl _) (Nat.le_refl _) x hx).1
  refine both_askR hI' (r := iz (wrF (fun w => bst (frs now 0 (now.1.eraseIdx w)) now.2.2.2 (frs now 0 (now.1.eraseIdx w)).length) (bst (frs now 0 now.1) now.2.2.2 (frs now 0 now.1).length) now.1.length).2) ?_ (fun M' hs' => ?_)
  · obtain ⟨M1, r1, r2, r3, -, r5⟩ := c_set (p := 1) (Or.inl rfl) hv hC.1 (g := 0) (by omega)
    rw [leftW_0] at r1 r2 r3
    obtain ⟨M2, q1, q2⟩ := c_wrL hv h0 now.1.length FU 0 M1 (by omega) (by rw [FU_eq]; omega) (hC.1.same (r5.mono (fun a ha => by omega)))
    refine ⟨M2, keepC.of ((r5.mono (fun a ha => by omega)).tr (q2.mono (fun a ha => by omega))), ?_⟩
    unfold f_X8_worst
    have r1' : f_X6_set 1 (0 : Int32) M = _ := r1
    have q1' : lq4 f_X8_worst_L26 FU (oV (bst (frs now 0 now.1) now.2.2.2 (frs now 0 now.1).length)) (-9 : Int32) (0 : Int32) M1 = _ := q1
    rw [r1', b_s2, c_least hk r3 r2, b_s1, b2_id]; exact q1'
  · have hm := (hM.same hg hs').1
    obtain ⟨M1, f1, f2, f3, f4⟩ := m_find hv hm
    obtain ⟨x, t1, t2⟩ := m_total hk f3 f2
    obtain ⟨M2, q1, q2⟩ := m_wrL hv h0 now.1.length FU 0 M1 x (by omega) (by rw [FU_eq]; omega) (f4.par hv hm) t2
    refine ⟨M2, f4.keep.toR.tr q2, ?_⟩
    have hneg := cnt_neg hk (s := now.2.2.2)
    have eAny : (if iz (cntV (frs now 0 now.1) now.2.2.2) < 0 then ((0 : Int32)) else ((1 : Int32))) = (if (bst (frs now 0 now.1) now.2.2.2 (frs now 0 now.1).length).isSome = true then (1 : Int32) else 0) := by
      cases hb : bst (frs now 0 now.1) now.2.2.2 (frs now 0 now.1).length with
      | none => rw [if_pos (hneg.mpr hb)]; rfl
      | some a => rw [if_neg (fun e => by have := hneg.mp e; rw [hb] at this; cases this)]; rfl
    have q1' : lq5 f_X9_worst_L24 FU (if (bst (frs now 0 now.1) now.2.2.2 (frs now 0 now.1).length).isSome = true then (1 : Int32) else 0) x (-9 : Int32) (0 : Int32) M1 = _ := q1
    unfold f_X9_worst
    rw [f1, b_s2, nmq_q, t1, b_s1, eAny, b2_id]; exact q1'
