theorem cl_RX8_280 {R : Room} {s : State} {args : Array Value} (ht : ∀ w ∈ lw_all, w.before args s = true) (hR : 0 + 1 ≤ R.frames ∧ 8 + (2 + 11) + 0 ≤ R.locals) : CallW R s args RX8 RX2 280 yX2_badnessOfLine cX2_badnessOfLine 2 (some .float) (wsq yX2_badnessOfLine cX2_badnessOfLine 2 (some .float)) (rmq 0 0) 0 0 0 := cwV 0 ht (goodV wd4_169 wd4_91 wd4_92 wd1_8 wd4_93) rfl rfl rfl (by decide +kernel) hR
def f_X8_badness (p1 : Int32) (M : Mem) : Option (Int32 × Mem) := (bq2 (f_X8_showLine p1 M) (fun (x1 : Int32) (M2 : Mem) => (if x1 = 0 then some ((0 : Int32), M2) else (bq1 (f_X2_badnessOfLine M2) (fun (x5 : UInt32) => bq1 (f_X8_bitsOf x5) (fun (x7 : Int32) => some (x7, M2)))))))
set_option maxHeartbeats 4000000 in
set_option maxRecDepth 100000 in
theorem ct_X8_badness (l : Launch) (G : GG) {p1 : Int32} {M : Mem} {r : Int32} {Mr : Mem}  (hf : f_X8_badness p1 M = some (r, Mr)) : Met l yX8_badness (wsq yX8_badness cX8_badness 2 (some .int)) (rmq 6 151) (va_Pc [.ref (G.2.2.1 0), .int p1] (World G M)) (Qi G r Mr) 0 0 (adA G) := by
  refine x_start (plainFor_of_name (by decide)) (Nat.le_of_ble_eq_true rfl) ?_
  intro p e s m args below meth c hB hr hlk hW hS ls hl
  have hx := hB.x
  have hb := hB.b
  have hl : lv_has ls 2 [(0, .ref (G.2.2.1 0)), (1, .int p1)] := hl
  unfold f_X8_badness at hf
  refine lv_aload_n hx hb dX8_badness_0 rfl (lv_at hl 0 rfl) ?_
  refine lv_iload_n hx hb dX8_badness_1 rfl (lv_at hl 1 rfl) ?_
  obtain ⟨x1, M2, hg3, hf⟩ := b_o2 hf
  refine x_ci hB (x_rv hB hW hS (As := [.int p1]) (rest := []) (ct_X8_showLine l G hg3) (cl_RX8_250 hB.2.2.2.2.1 ⟨Nat.le_of_ble_eq_true rfl, Nat.le_of_ble_eq_true rfl⟩) tl0 (by decide) rfl rfl hl.1 rfl (Nat.le_of_ble_eq_true rfl) dX8_badness_2 ⟨Nat.le_refl _, Nat.le_refl _⟩) hS (fun H locs hW hS => ?_)
  refine lv_if_eq (tgt := 24) hx hb dX8_badness_5 (by decide) (fun c4 => ?_) (fun c4 => ?_)
  · have hf := i_t hf c4
    refine lv_iconst (v := (0 : Int32)) hx hb dX8_badness_24 (by decide) ?_
    exact e_i hB hW hS hr hlk (s_1 hf) (s_2 hf) dX8_badness_25
  · have hf := i_f hf c4
    refine lv_aload_n hx hb dX8_badness_8 rfl (lv_at hl 0 rfl) ?_
    refine fg8_5 hB hW tl0 wd2_96 dX8_badness_9 ?_
    refine fg6_1 hB hW tl126 wd2_64 dX8_badness_12 ?_
    obtain ⟨x5, hg6, hf⟩ := b_o1 hf
    refine x_cf hB (x_rv hB hW hS (As := []) (rest := []) (ct_X2_badnessOfLine l G hg6) (cl_RX8_280 hB.2.2.2.2.1 ⟨Nat.le_of_ble_eq_true rfl, Nat.le_of_ble_eq_true rfl⟩) tl127 (by decide) rfl rfl hl.1 rfl (Nat.le_of_ble_eq_true rfl) dX8_badness_15 ⟨Nat.le_refl _, Nat.le_refl _⟩) hS (fun H locs hW hS => ?_)
    obtain ⟨x7, hg8, hf⟩ := b_o1 hf
    refine x_ci hB (x_rs hB hW hS (As := [.float x5]) (rest := []) (ct_X8_bitsOf l G hg8) (cl_RX8_276 hB.2.2.2.2.1 ⟨Nat.le_of_ble_eq_true rfl, Nat.le_of_ble_eq_true rfl⟩) rfl hl.1 rfl (Nat.le_of_ble_eq_true rfl) dX8_badness_18 ⟨Nat.le_refl _, Nat.le_refl _⟩) hS (fun H locs hW hS => ?_)
    refine lv_goto (tgt := 25) hx hb dX8_badness_21 (by decide) ?_
    exact e_i hB hW hS hr hlk (s_1 hf) (s_2 hf) dX8_badness_25
theorem cl_RX8_284 {R : Room} {s : State} {args : Array Value} (ht : ∀ w ∈ lw_all, w.before args s = true) (hR : 1 + 1 ≤ R.frames ∧ 8 + (3 + 11) + 23 ≤ R.locals) : CallW R s args RX8 RX2 284 yX2_demeritsOfLine cX2_demeritsOfLine 3 (some .float) (wsq yX2_demeritsOfLine cX2_demeritsOfLine 3 (some .float)) (rmq 1 23) 0 0 0 := cwV 0 ht (goodV wd4_174 wd4_87 wd4_88 wd1_8 wd4_89) rfl rfl rfl (by decide +kernel) hR
def f_X8_demerits (p1 : Int32) (M : Mem) : Option (Int32 × Mem) := (bq2 (f_X8_showLine p1 M) (fun (x1 : Int32) (M2 : Mem) => (if x1 = 0 then some ((0 : Int32), M2) else (bq1 (f_X2_demeritsOfLine M2) (fun (x5 : UInt32) => bq1 (f_X8_bitsOf x5) (fun (x7 : Int32) => some (x7, M2)))))))
set_option maxHeartbeats 4000000 in
set_option maxRecDepth 100000 in
theorem ct_X8_demerits (l : Launch) (G : GG) {p1 : Int32} {M : Mem} {r : Int32} {Mr : Mem}  (hf : f_X8_demerits p1 M = some (r, Mr)) : Met l yX8_demerits (wsq yX8_demerits cX8_demerits 2 (some .int)) (rmq 6 151) (va_Pc [.ref (G.2.2.1 0), .int p1] (World G M)) (Qi G r Mr) 0 0 (adA G) := by
  refine x_start (plainFor_of_name (by decide)) (Nat.le_of_ble_eq_true rfl) ?_
  intro p e s m args below meth c hB hr hlk hW hS ls hl
  have hx := hB.x
  have hb := hB.b
  have hl : lv_has ls 2 [(0, .ref (G.2.2.1 0)), (1, .int p1)] := hl
  unfold f_X8_demerits at hf
  refine lv_aload_n hx hb dX8_demerits_0 rfl (lv_at hl 0 rfl) ?_
  refine lv_iload_n hx hb dX8_demerits_1 rfl (lv_at hl 1 rfl) ?_
  obtain ⟨x1, M2, hg3, hf⟩ := b_o2 hf
  refine x_ci hB (x_rv hB hW hS (As := [.int p1]) (rest := []) (ct_X8_showLine l G hg3) (cl_RX8_250 hB.2.2.2.2.1 ⟨Nat.le_of_ble_eq_true rfl, Nat.le_of_ble_eq_true rfl⟩) tl0 (by decide) rfl rfl hl.1 rfl (Nat.le_of_ble_eq_true rfl) dX8_demerits_2 ⟨Nat.le_refl _, Nat.le_refl _⟩) hS (fun H locs hW hS => ?_)
  refine lv_if_eq (tgt := 24) hx hb dX8_demerits_5 (by decide) (fun c4 => ?_) (fun c4 => ?_)
  · have hf := i_t hf c4
    refine lv_iconst (v := (0 : Int32)) hx hb dX8_demerits_24 (by decide) ?_
    exact e_i hB hW hS hr hlk (s_1 hf) (s_2 hf) dX8_demerits_25
  · have hf := i_f hf c4
    refine lv_aload_n hx hb dX8_demerits_8 rfl (lv_at hl 0 rfl) ?_
    refine fg8_5 hB hW tl0 wd2_96 dX8_demerits_9 ?_
    refine fg6_1 hB hW tl126 wd2_64 dX8_demerits_12 ?_
    obtain ⟨x5, hg6, hf⟩ := b_o1 hf
    refine x_cf hB (x_rv hB hW hS (As := []) (rest := []) (ct_X2_demeritsOfLine l G hg6) (cl_RX8_284 hB.2.2.2.2.1 ⟨Nat.le_of_ble_eq_true rfl, Nat.le_of_ble_eq_true rfl⟩) tl127 (by decide) rfl rfl hl.1 rfl (Nat.le_of_ble_eq_true rfl) dX8_demerits_15 ⟨Nat.le_refl _, Nat.le_refl _⟩) hS (fun H locs hW hS => ?_)
    obtain ⟨x7, hg8, hf⟩ := b_o1 hf
    refine x_ci hB (x_rs hB hW hS (As := [.float x5]) (rest := []) (ct_X8_bitsOf l G hg8) (cl_RX8_276 hB.2.2.2.2.1 ⟨Nat.le_of_ble_eq_true rfl, Nat.le_of_ble_eq_true rfl⟩) rfl hl.1 rfl (Nat.le_of_ble_eq_true rfl) dX8_demerits_18 ⟨Nat.le_refl _, Nat.le_refl _⟩) hS (fun H locs hW hS => ?_)
    refine lv_goto (tgt := 25) hx hb dX8_demerits_21 (by decide) ?_
    exact e_i hB hW hS hr hlk (s_1 hf) (s_2 hf) dX8_demerits_25
theorem cl_RX6_85 {R : Room} {s : State} {args : Array Value} (ht : ∀ w ∈ lw_all, w.before args s = true) (hR : 0 + 1 ≤ R.frames ∧ 8 + (2 + 11) + 0 ≤ R.locals) : CallB R s args RX6 85 yJ9_min_7cf53 cJ9_min_7cf53 2 (some .int) (wsq yJ9_min_7cf53 cJ9_min_7cf53 2 (some .int)) (rmq 0 0) 0 0 2 ∧ (Cond.static yJ9_min_7cf53).before args s = true := va_cwS 2 ht (goodS wd4_184 wd2_192 wd1_11 wd2_193) rfl rfl rfl (by decide +kernel) hR
def f_X6_totalBy_L34  (K19 : Int32 → Mem → Option (Mem)) (x17 : Int32) (M18 : Mem) : Option (Mem) := (if (gi M18 128 3) ≤ x17 then (some (M18)) else (bq1 (f_X6_reachFrom x17 134 135 M18) (fun (M30 : Mem) => nmq (x17 + (1 : Int32)) (fun (x32 : Int32) => (K19 x32 M30)))))
def f_X6_totalBy_L17 (p2 : Int32) (K7 : Int32 → Mem → Option (Mem)) (x5 : Int32) (M6 : Mem) : Option (Mem) := (if p2 ≤ x5 then (some (M6)) else (bq1 (f_J7_fill_e525d 135 (3212836864 : UInt32) M6) (fun (M15 : Mem) => (bq1 (lq2 f_X6_totalBy_L34 FU (0 : Int32) M15) (fun (M21 : Mem) => (bq1 (f_J9_min_7cf53 (193 : Int32) (193 : Int32)) (fun (x22 : Int32) => gq (cpB (0 : Int32) (0 : Int32) x22 193 193) (nmq (srf M21 134 (va_cpy (gf M21 135) (gf M21 134) ((0 : Int32) : Int32).toNatClampNeg ((0 : Int32) : Int32).toNatClampNeg (x22 : Int32).toNatClampNeg)) (fun (M25 : Mem) => nmq (x5 + (1 : Int32)) (fun (x26 : Int32) => (K7 x26 M25)))))))))))
def f_X6_totalBy (k1 : Nat) (p2 : Int32) (M : Mem) : Option (UInt32 × Mem) := (bq1 (f_X2_measureBy k1 M) (fun (M1 : Mem) => bq1 (f_X6_beginBests 134 M1) (fun (M3 : Mem) => (bq1 (lq2 (f_X6_totalBy_L17 p2) FU (0 : Int32) M3) (fun (M9 : Mem) => (bq1 (f_X6_bestAt 134 (gi M9 128 3) M9) (fun (x10 : UInt32) => some (x10, M9))))))))
set_option maxHeartbeats 4000000 in
set_option maxRecDepth 100000 in
theorem ct_X6_totalBy (l : Launch) (G : GG) {k1 : Nat} {p2 : Int32} {M : Mem} {r : UInt32} {Mr : Mem} (hk1 : isT 3 k1) (hf : f_X6_totalBy k1 p2 M = some (r, Mr)) : Met l yX6_totalBy (wsq yX6_totalBy cX6_totalBy 5 (some .float)) (rmq 3 71) (va_Pc [.ref (G.2.2.1 126), .ref (G.2.2.1 k1), .int p2] (World G M)) (Qf G r Mr) 0 0 (adA G) := by
  refine x_start (plainFor_of_name (by decide)) (Nat.le_of_ble_eq_true rfl) ?_
  intro p e s m args below meth c hB hr hlk hW hS ls hl
  have hx := hB.x
  have hb := hB.b
  have hl : lv_has ls 5 [(0, .ref (G.2.2.1 126)), (1, .ref (G.2.2.1 k1)), (2, .int p2)] := hl
  unfold f_X6_totalBy at hf
  refine lv_aload_n hx hb dX6_totalBy_0 rfl (lv_at hl 0 rfl) ?_
  refine fg6_1 hB hW tl126 wd2_63 dX6_totalBy_1 ?_
  refine lv_aload_n hx hb dX6_totalBy_4 rfl (lv_at hl 1 rfl) ?_
  obtain ⟨M1, hg2, hf⟩ := b_o1 hf
  refine x_cv hB (x_rv hB hW hS (As := [.ref (G.2.2.1 k1)]) (rest := []) (ct_X2_measureBy l G hk1 hg2) (cl_RX6_50 hB.2.2.2.2.1 ⟨Nat.le_of_ble_eq_true rfl, Nat.le_of_ble_eq_true rfl⟩) tl127 (by decide) rfl rfl hl.1 rfl (Nat.le_of_ble_eq_true rfl) dX6_totalBy_5 ⟨Nat.le_refl _, Nat.le_refl _⟩) hS (fun H locs hW hS => ?_)
  refine lv_aload_n hx hb dX6_totalBy_8 rfl (lv_at hl 0 rfl) ?_
  refine fg6_5 hB hW tl126 wd2_70 dX6_totalBy_9 ?_
  obtain ⟨M3, hg4, hf⟩ := b_o1 hf
  refine x_cv hB (x_rs hB hW hS (As := [.ref (G.2.2.1 134)]) (rest := []) (ct_X6_beginBests l G tl134 hg4) (cl_RX6_54 hB.2.2.2.2.1 ⟨Nat.le_of_ble_eq_true rfl, Nat.le_of_ble_eq_true rfl⟩) rfl hl.1 rfl (Nat.le_of_ble_eq_true rfl) dX6_totalBy_12 ⟨Nat.le_refl _, Nat.le_refl _⟩) hS (fun H locs hW hS => ?_)
  refine lv_iconst (v := (0 : Int32)) hx hb dX6_totalBy_15 (by decide) ?_
  refine lv_istore_n (lv' := [(3, .int (0 : Int32)), (0, .ref (G.2.2.1 126)), (1, .ref (G.2.2.1 k1)), (2, .int p2)]) hx hb dX6_totalBy_16 rfl hl (by decide) rfl (fun ls hl => ?_)
  obtain ⟨M12, hL, hf⟩ := b_o1 hf
  have main13 : ∀ (M9 : Mem) (H : Heap) (locs : List Loc) (ls : Array Slot), Wd G M9 H → va_S (adA G) s.heap H locs → lv_has ls 5 [(0, .ref (G.2.2.1 126))] → some (M9) = some (M12) → W p l e (rmq 3 71) s m args below meth c H locs 0 0 (MQ below (Qf G r Mr) args s 0 0 (adA G)) (F0 m 98 ls []) := by
    intro M9 H locs ls hW hS hl hE
    cases hE
    refine lv_aload_n hx hb dX6_totalBy_98 rfl (lv_at hl 0 rfl) ?_
    refine fg6_5 hB hW tl126 wd2_70 dX6_totalBy_99 ?_
    refine lv_aload_n hx hb dX6_totalBy_102 rfl (lv_at hl 0 rfl) ?_
    refine fg6_0 hB hW tl126 wd2_61 dX6_totalBy_103 ?_
    refine fg0_3 hB hW tl128 wd1_225 dX6_totalBy_106 ?_
    obtain ⟨x10, hg11, hf⟩ := b_o1 hf
    refine x_cf hB (x_rs hB hW hS (As := [.ref (G.2.2.1 134), .int (gi M12 128 3)]) (rest := []) (ct_X6_bestAt l G tl134 hg11) (cl_RX6_74 hB.2.2.2.2.1 ⟨Nat.le_of_ble_eq_true rfl, Nat.le_of_ble_eq_true rfl⟩) rfl hl.1 rfl (Nat.le_of_ble_eq_true rfl) dX6_totalBy_109 ⟨Nat.le_refl _, Nat.le_refl _⟩) hS (fun H locs hW hS => ?_)
    exact e_f hB hW hS hr hlk (s_1 hf) (s_2 hf) dX6_totalBy_112
  have loop8 : ∀ (n : Nat) (x5 : Int32) (M6 : Mem) (H : Heap) (locs : List Loc) (ls : Array Slot), Wd G M6 H → va_S (adA G) s.heap H locs → lv_has ls 5 [(0, .ref (G.2.2.1 126)), (2, .int p2), (3, .int x5)] → lq2 (f_X6_totalBy_L17 p2) n x5 M6 = some (M12) → W p l e (rmq 3 71) s m args below meth c H locs 0 0 (MQ below (Qf G r Mr) args s 0 0 (adA G)) (F0 m 17 ls []) := by
    intro n
    induction n with
    | zero => intro x5 M6 H locs ls hW hS hl hf; exact (l_z2 hf).elim
    | succ n ih =>
      intro x5 M6 H locs ls hW hS hl hf
      have hf := l_s2 hf
      generalize lq2 (f_X6_totalBy_L17 p2) n = K7 at ih hf
      unfold f_X6_totalBy_L17 at hf
      refine lv_iload_n hx hb dX6_totalBy_17 rfl (lv_at hl 2 rfl) ?_
      refine lv_iload_n hx hb dX6_totalBy_18 rfl (lv_at hl 1 rfl) ?_
      refine lv_icmp_ge (tgt := 98) hx hb dX6_totalBy_19 (by decide) (fun c14 => ?_) (fun c14 => ?_)
      · have hf := i_t hf c14
        exact main13 M6 _ _ ls hW hS (lv_sub hl [0] rfl) hf
      · have hf := i_f hf c14
        refine lv_aload_n hx hb dX6_totalBy_22 rfl (lv_at hl 0 rfl) ?_
        refine fg6_6 hB hW tl126 wd2_71 dX6_totalBy_23 ?_
        refine lv_ldcf (v := (3212836864 : UInt32)) hx hb hB.ow (hB.w wd4_55) dX6_totalBy_26 ?_
        obtain ⟨M15, hg16, hf⟩ := b_o1 hf
        refine x_cv hB (x_rs hB hW hS (As := [.ref (G.2.2.1 135), .float (3212836864 : UInt32)]) (rest := []) (ct_J7_fill_e525d l G tl135 hg16) (cl_RX6_79 hB.2.2.2.2.1 ⟨Nat.le_of_ble_eq_true rfl, Nat.le_of_ble_eq_true rfl⟩) rfl hl.1 rfl (Nat.le_of_ble_eq_true rfl) dX6_totalBy_28 ⟨Nat.le_refl _, Nat.le_refl _⟩) hS (fun H locs hW hS => ?_)
        refine lv_iconst (v := (0 : Int32)) hx hb dX6_totalBy_31 (by decide) ?_
        refine lv_istore (lv' := [(4, .int (0 : Int32)), (0, .ref (G.2.2.1 126)), (2, .int p2), (3, .int x5)]) hx hb dX6_totalBy_32 hl (by decide) rfl (fun ls hl => ?_)
        obtain ⟨M27, hL, hf⟩ := b_o1 hf
        have main28 : ∀ (M21 : Mem) (H : Heap) (locs : List Loc) (ls : Array Slot), Wd G M21 H → va_S (adA G) s.heap H locs → lv_has ls 5 [(0, .ref (G.2.2.1 126)), (2, .int p2), (3, .int x5)] → some (M21) = some (M27) → W p l e (rmq 3 71) s m args below meth c H locs 0 0 (MQ below (Qf G r Mr) args s 0 0 (adA G)) (F0 m 66 ls []) := by
          intro M21 H locs ls hW hS hl hE
          cases hE
          refine lv_aload_n hx hb dX6_totalBy_66 rfl (lv_at hl 0 rfl) ?_
          refine fg6_6 hB hW tl126 wd2_71 dX6_totalBy_67 ?_
          refine lv_iconst (v := (0 : Int32)) hx hb dX6_totalBy_70 (by decide) ?_
          refine lv_aload_n hx hb dX6_totalBy_71 rfl (lv_at hl 0 rfl) ?_
          refine fg6_5 hB hW tl126 wd2_70 dX6_totalBy_72 ?_
          refine lv_iconst (v := (0 : Int32)) hx hb dX6_totalBy_75 (by decide) ?_
          refine lv_aload_n hx hb dX6_totalBy_76 rfl (lv_at hl 0 rfl) ?_
          refine fg6_6 hB hW tl126 wd2_71 dX6_totalBy_77 ?_
          refine x_alen hB hW tl135 (by decide) al135 (v := (193 : Int32)) rfl dX6_totalBy_80 ?_
          refine lv_aload_n hx hb dX6_totalBy_81 rfl (lv_at hl 0 rfl) ?_
          refine fg6_5 hB hW tl126 wd2_70 dX6_totalBy_82 ?_
          refine x_alen hB hW tl134 (by decide) al134 (v := (193 : Int32)) rfl dX6_totalBy_85 ?_
          obtain ⟨x22, hg23, hf⟩ := b_o1 hf
          refine x_ci hB (x_rs hB hW hS (As := [.int (193 : Int32), .int (193 : Int32)]) (rest := [.int (0 : Int32), .ref (G.2.2.1 134), .int (0 : Int32), .ref (G.2.2.1 135)]) (ct_J9_min_7cf53 l G hg23) (cl_RX6_85 hB.2.2.2.2.1 ⟨Nat.le_of_ble_eq_true rfl, Nat.le_of_ble_eq_true rfl⟩) rfl hl.1 rfl (Nat.le_of_ble_eq_true rfl) dX6_totalBy_86 ⟨Nat.le_refl _, Nat.le_refl _⟩) hS (fun H locs hW hS => ?_)
          obtain ⟨h24, hf⟩ := g_o hf
          refine x_copyf hB hW hS tl135 al135 tl134 al134 h24 hl.1 wd4_185 (Nat.le_of_ble_eq_true rfl) (Nat.le_of_ble_eq_true rfl) dX6_totalBy_89 (fun H locs M25 eM25 hW hS => ?_)
          have hf := nm_o hf eM25
          obtain ⟨x26, ex26⟩ : ∃ y : Int32, y = x5 + (1 : Int32) := ⟨_, rfl⟩
          have hf := nm_o hf ex26
          refine lv_iinc (v := x26) (lv' := [(3, .int x26), (0, .ref (G.2.2.1 126)), (2, .int p2)]) hx hb dX6_totalBy_92 hl (k := 2) rfl (by rw [ex26]; rfl) (by decide) rfl (fun ls hl => ?_)
          refine lv_goto (tgt := 17) hx hb dX6_totalBy_95 (by decide) ?_
          exact ih x26 M25 _ _ ls hW hS (lv_sub hl [1, 2, 0] rfl) hf
        have loop20 : ∀ (n : Nat) (x17 : Int32) (M18 : Mem) (H : Heap) (locs : List Loc) (ls : Array Slot), Wd G M18 H → va_S (adA G) s.heap H locs → lv_has ls 5 [(0, .ref (G.2.2.1 126)), (2, .int p2), (3, .int x5), (4, .int x17)] → lq2 f_X6_totalBy_L34 n x17 M18 = some (M27) → W p l e (rmq 3 71) s m args below meth c H locs 0 0 (MQ below (Qf G r Mr) args s 0 0 (adA G)) (F0 m 34 ls []) := by
          intro n
          induction n with
          | zero => intro x17 M18 H locs ls hW hS hl hf; exact (l_z2 hf).elim
          | succ n ih =>
            intro x17 M18 H locs ls hW hS hl hf
            have hf := l_s2 hf
            generalize lq2 f_X6_totalBy_L34 n = K19 at ih hf
            unfold f_X6_totalBy_L34 at hf
            refine lv_iload hx hb dX6_totalBy_34 (lv_at hl 3 rfl) ?_
            refine lv_aload_n hx hb dX6_totalBy_36 rfl (lv_at hl 0 rfl) ?_
            refine fg6_0 hB hW tl126 wd2_61 dX6_totalBy_37 ?_
            refine fg0_3 hB hW tl128 wd1_225 dX6_totalBy_40 ?_
            refine lv_icmp_ge (tgt := 66) hx hb dX6_totalBy_43 (by decide) (fun c29 => ?_) (fun c29 => ?_)
            · have hf := i_t hf c29
              exact main28 M18 _ _ ls hW hS (lv_sub hl [0, 1, 2] rfl) hf
            · have hf := i_f hf c29
              refine lv_aload_n hx hb dX6_totalBy_46 rfl (lv_at hl 0 rfl) ?_
              refine lv_iload hx hb dX6_totalBy_47 (lv_at hl 3 rfl) ?_
              refine lv_aload_n hx hb dX6_totalBy_49 rfl (lv_at hl 0 rfl) ?_
              refine fg6_5 hB hW tl126 wd2_70 dX6_totalBy_50 ?_
              refine lv_aload_n hx hb dX6_totalBy_53 rfl (lv_at hl 0 rfl) ?_
              refine fg6_6 hB hW tl126 wd2_71 dX6_totalBy_54 ?_
              obtain ⟨M30, hg31, hf⟩ := b_o1 hf
              refine x_cv hB (x_rv hB hW hS (As := [.int x17, .ref (G.2.2.1 134), .ref (G.2.2.1 135)]) (rest := []) (ct_X6_reachFrom l G tl134 tl135 hg31) (cl_RX6_62 hB.2.2.2.2.1 ⟨Nat.le_of_ble_eq_true rfl, Nat.le_of_ble_eq_true rfl⟩) tl126 (by decide) rfl rfl hl.1 rfl (Nat.le_of_ble_eq_true rfl) dX6_totalBy_57 ⟨Nat.le_refl _, Nat.le_refl _⟩) hS (fun H locs hW hS => ?_)
              obtain ⟨x32, ex32⟩ : ∃ y : Int32, y = x17 + (1 : Int32) := ⟨_, rfl⟩
              have hf := nm_o hf ex32
              refine lv_iinc (v := x32) (lv' := [(4, .int x32), (0, .ref (G.2.2.1 126)), (2, .int p2), (3, .int x5)]) hx hb dX6_totalBy_60 hl (k := 3) rfl (by rw [ex32]; rfl) (by decide) rfl (fun ls hl => ?_)
              refine lv_goto (tgt := 34) hx hb dX6_totalBy_63 (by decide) ?_
              exact ih x32 M30 _ _ ls hW hS (lv_sub hl [1, 2, 3, 0] rfl) hf
        exact loop20 FU (0 : Int32) M15 _ _ ls hW hS (lv_sub hl [1, 2, 3, 0] rfl) hL
  exact loop8 FU (0 : Int32) M3 _ _ ls hW hS (lv_sub hl [1, 3, 0] rfl) hL
def f_X8_bitsOfTotal (p1 : UInt32) : Option Int32 := (if 0 ≤ (fcg p1 FP.fconst0) then (bq1 (f_X8_bitsOf p1) (fun (x2 : Int32) => some x2)) else some (0 : Int32))
set_option maxHeartbeats 4000000 in
set_option maxRecDepth 100000 in
theorem ct_X8_bitsOfTotal (l : Launch) (G : GG) {p1 : UInt32} {M : Mem} {r : Int32}  (hf : f_X8_bitsOfTotal p1 = some r) : Met l yX8_bitsOfTotal (wsq yX8_bitsOfTotal cX8_bitsOfTotal 1 (some .int)) (rmq 1 23) (va_Pc [.float p1] (World G M)) (Qi G r M) 0 0 (adA G) := by
  refine x_start (plainFor_of_name (by decide)) (Nat.le_of_ble_eq_true rfl) ?_
  intro p e s m args below meth c hB hr hlk hW hS ls hl
  have hx := hB.x
  have hb := hB.b
  have hl : lv_has ls 1 [(0, .float p1)] := hl
  unfold f_X8_bitsOfTotal at hf
  refine lv_fload_n hx hb dX8_bitsOfTotal_0 rfl (lv_at hl 0 rfl) ?_
  refine lv_fconst0 hx hb dX8_bitsOfTotal_1 ?_
  refine lv_fcmp hx hb dX8_bitsOfTotal_2 ?_
  refine lv_if_ge (tgt := 10) hx hb dX8_bitsOfTotal_3 (by decide) (fun c1 => ?_) (fun c1 => ?_)
  · have hf := i_t hf c1
    refine lv_fload_n hx hb dX8_bitsOfTotal_10 rfl (lv_at hl 0 rfl) ?_
    obtain ⟨x2, hg3, hf⟩ := b_o1 hf
    refine x_ci hB (x_rs hB hW hS (As := [.float p1]) (rest := []) (ct_X8_bitsOf l G hg3) (cl_RX8_276 hB.2.2.2.2.1 ⟨Nat.le_of_ble_eq_true rfl, Nat.le_of_ble_eq_true rfl⟩) rfl hl.1 rfl (Nat.le_of_ble_eq_true rfl) dX8_bitsOfTotal_11 ⟨Nat.le_refl _, Nat.le_refl _⟩) hS (fun H locs hW hS => ?_)
    exact e_i hB hW hS hr hlk (Option.some.inj hf) rfl dX8_bitsOfTotal_14
  · have hf := i_f hf c1
    refine lv_iconst (v := (0 : Int32)) hx hb dX8_bitsOfTotal_6 (by decide) ?_
    refine lv_goto (tgt := 14) hx hb dX8_bitsOfTotal_7 (by decide) ?_
    exact e_i hB hW hS hr hlk (Option.some.inj hf) rfl dX8_bitsOfTotal_14
theorem cl_RX8_287 {R : Room} {s : State} {args : Array Value} (ht : ∀ w ∈ lw_all, w.before args s = true) (hR : 1 + 1 ≤ R.frames ∧ 8 + (1 + 11) + 21 ≤ R.locals) : CallW R s args RX8 RX6 287 yX6_leastTotal cX6_leastTotal 1 (some .float) (wsq yX6_leastTotal cX6_leastTotal 1 (some .float)) (rmq 1 21) 0 0 0 := cwV 0 ht (goodV wd4_179 wd4_115 wd4_116 wd1_7 wd4_117) rfl rfl rfl (by decide +kernel) hR
theorem cl_RX8_290 {R : Room} {s : State} {args : Array Value} (ht : ∀ w ∈ lw_all, w.before args s = true) (hR : 3 + 1 ≤ R.frames ∧ 8 + (5 + 11) + 71 ≤ R.locals) : CallW R s args RX8 RX6 290 yX6_totalBy cX6_totalBy 5 (some .float) (wsq yX6_totalBy cX6_totalBy 5 (some .float)) (rmq 3 71) 0 0 2 := cwV 2 ht (goodV wd4_180 wd4_181 wd4_182 wd1_7 wd4_183) rfl rfl rfl (by decide +kernel) hR
theorem cl_RX8_294 {R : Room} {s : State} {args : Array Value} (ht : ∀ w ∈ lw_all, w.before args s = true) (hR : 1 + 1 ≤ R.frames ∧ 8 + (1 + 11) + 23 ≤ R.locals) : CallB R s args RX8 294 yX8_bitsOfTotal cX8_bitsOfTotal 1 (some .int) (wsq yX8_bitsOfTotal cX8_bitsOfTotal 1 (some .int)) (rmq 1 23) 0 0 1 ∧ (Cond.static yX8_bitsOfTotal).before args s = true := va_cwS 1 ht (goodS wd4_186 wd4_187 wd1_1 wd4_188) rfl rfl rfl (by decide +kernel) hR
def f_X8_total (p1 : Int32) (M : Mem) : Option (Int32 × Mem) := (if p1 < 0 then some ((0 : Int32), M) else (if p1 ≤ (20 : Int32) then (bq2 (f_X6_set 1 (0 : Int32) M) (fun (x3 : Int32) (M4 : Mem) => (bq2 ((if p1 = 0 then (bq1 (f_X6_leastTotal M4) (fun (x17 : UInt32) => (some (x17, M4)))) else (bq2 (f_X6_totalBy 1 p1 M4) (fun (x14 : UInt32) (M15 : Mem) => (some (x14, M15))))) : Option (UInt32 × Mem)) (fun (x6 : UInt32) (M7 : Mem) => (bq1 (f_X8_bitsOfTotal x6) (fun (x9 : Int32) => some (x9, M7))))))) else some ((0 : Int32), M)))
set_option maxHeartbeats 4000000 in
set_option maxRecDepth 100000 in
theorem ct_X8_total (l : Launch) (G : GG) {p1 : Int32} {M : Mem} {r : Int32} {Mr : Mem}  (hf : f_X8_total p1 M = some (r, Mr)) : Met l yX8_total (wsq yX8_total cX8_total 2 (some .int)) (rmq 6 152) (va_Pc [.ref (G.2.2.1 0), .int p1] (World G M)) (Qi G r Mr) 0 0 (adA G) := by
  refine x_start (plainFor_of_name (by decide)) (Nat.le_of_ble_eq_true rfl) ?_
  intro p e s m args below meth c hB hr hlk hW hS ls hl
  have hx := hB.x
  have hb := hB.b
  have hl : lv_has ls 2 [(0, .ref (G.2.2.1 0)), (1, .int p1)] := hl
  unfold f_X8_total at hf
  refine lv_iload_n hx hb dX8_total_0 rfl (lv_at hl 1 rfl) ?_
  refine lv_if_lt (tgt := 10) hx hb dX8_total_1 (by decide) (fun c1 => ?_) (fun c1 => ?_)
  · have hf := i_t hf c1
    refine lv_iconst (v := (0 : Int32)) hx hb dX8_total_10 (by decide) ?_
    exact e_i hB hW hS hr hlk (s_1 hf) (s_2 hf) dX8_total_11
  · have hf := i_f hf c1
    refine lv_iload_n hx hb dX8_total_4 rfl (lv_at hl 1 rfl) ?_
    refine lv_bipush (v := (20 : Int32)) hx hb dX8_total_5 (by decide) ?_
    refine lv_icmp_le (tgt := 12) hx hb dX8_total_7 (by decide) (fun c2 => ?_) (fun c2 => ?_)
    · have hf := i_t hf c2
      refine lv_aload_n hx hb dX8_total_12 rfl (lv_at hl 0 rfl) ?_
      refine fg8_5 hB hW tl0 wd2_96 dX8_total_13 ?_
      refine lv_aload_n hx hb dX8_total_16 rfl (lv_at hl 0 rfl) ?_
      refine fg8_0 hB hW tl0 wd2_91 dX8_total_17 ?_
      refine lv_iconst (v := (0 : Int32)) hx hb dX8_total_20 (by decide) ?_
      obtain ⟨x3, M4, hg5, hf⟩ := b_o2 hf
      refine x_ci hB (x_rv hB hW hS (As := [.ref (G.2.2.1 1), .int (0 : Int32)]) (rest := []) (ct_X6_set l G tl1 hg5) (cl_RX8_229 hB.2.2.2.2.1 ⟨Nat.le_of_ble_eq_true rfl, Nat.le_of_ble_eq_true rfl⟩) tl126 (by decide) rfl rfl hl.1 rfl (Nat.le_of_ble_eq_true rfl) dX8_total_21 ⟨Nat.le_refl _, Nat.le_refl _⟩) hS (fun H locs hW hS => ?_)
      refine lv_pop hx hb dX8_total_24 rfl ?_
      refine lv_iload_n hx hb dX8_total_25 rfl (lv_at hl 1 rfl) ?_
      obtain ⟨y11, M12, hR, hf⟩ := b_o2 hf
      have main8 : ∀ (x6 : UInt32) (M7 : Mem) (H : Heap) (locs : List Loc) (ls : Array Slot), Wd G M7 H → va_S (adA G) s.heap H locs → lv_has ls 2 [] → some (x6, M7) = some (y11, M12) → W p l e (rmq 6 152) s m args below meth c H locs 0 0 (MQ below (Qi G r Mr) args s 0 0 (adA G)) (F0 m 51 ls [.float x6]) := by
        intro x6 M7 H locs ls hW hS hl hE
        cases hE
        obtain ⟨x9, hg10, hf⟩ := b_o1 hf
        refine x_ci hB (x_rs hB hW hS (As := [.float y11]) (rest := []) (ct_X8_bitsOfTotal l G hg10) (cl_RX8_294 hB.2.2.2.2.1 ⟨Nat.le_of_ble_eq_true rfl, Nat.le_of_ble_eq_true rfl⟩) rfl hl.1 rfl (Nat.le_of_ble_eq_true rfl) dX8_total_51 ⟨Nat.le_refl _, Nat.le_refl _⟩) hS (fun H locs hW hS => ?_)
        exact e_i hB hW hS hr hlk (s_1 hf) (s_2 hf) dX8_total_54
      have hf := hR
      refine lv_if_ne (tgt := 39) hx hb dX8_total_26 (by decide) (fun c13 => ?_) (fun c13 => ?_)
      · have hf := i_f hf c13
        refine lv_aload_n hx hb dX8_total_39 rfl (lv_at hl 0 rfl) ?_
        refine fg8_5 hB hW tl0 wd2_96 dX8_total_40 ?_
        refine lv_aload_n hx hb dX8_total_43 rfl (lv_at hl 0 rfl) ?_
        refine fg8_0 hB hW tl0 wd2_91 dX8_total_44 ?_
        refine lv_iload_n hx hb dX8_total_47 rfl (lv_at hl 1 rfl) ?_
        obtain ⟨x14, M15, hg16, hf⟩ := b_o2 hf
        refine x_cf hB (x_rv hB hW hS (As := [.ref (G.2.2.1 1), .int p1]) (rest := []) (ct_X6_totalBy l G tl1 hg16) (cl_RX8_290 hB.2.2.2.2.1 ⟨Nat.le_of_ble_eq_true rfl, Nat.le_of_ble_eq_true rfl⟩) tl126 (by decide) rfl rfl hl.1 rfl (Nat.le_of_ble_eq_true rfl) dX8_total_48 ⟨Nat.le_refl _, Nat.le_refl _⟩) hS (fun H locs hW hS => ?_)
        exact main8 x14 M15 _ _ ls hW hS (lv_sub hl [] rfl) hf
      · have hf := i_t hf c13
        refine lv_aload_n hx hb dX8_total_29 rfl (lv_at hl 0 rfl) ?_
        refine fg8_5 hB hW tl0 wd2_96 dX8_total_30 ?_
        obtain ⟨x17, hg18, hf⟩ := b_o1 hf
        refine x_cf hB (x_rv hB hW hS (As := []) (rest := []) (ct_X6_leastTotal l G hg18) (cl_RX8_287 hB.2.2.2.2.1 ⟨Nat.le_of_ble_eq_true rfl, Nat.le_of_ble_eq_true rfl⟩) tl126 (by decide) rfl rfl hl.1 rfl (Nat.le_of_ble_eq_true rfl) dX8_total_33 ⟨Nat.le_refl _, Nat.le_refl _⟩) hS (fun H locs hW hS => ?_)
        refine lv_goto (tgt := 51) hx hb dX8_total_36 (by decide) ?_
        exact main8 x17 M4 _ _ ls hW hS (lv_sub hl [] rfl) hf
    · have hf := i_f hf c2
      refine lv_iconst (v := (0 : Int32)) hx hb dX8_total_10 (by decide) ?_
      exact e_i hB hW hS hr hlk (s_1 hf) (s_2 hf) dX8_total_11
def f_X6_farthestFrom_L14  (K7 : Int32 → Int32 → Mem → Option (Int32 × Mem)) (x4 : Int32) (x5 : Int32) (M6 : Mem) : Option (Int32 × Mem) := (if (gi M6 128 3) < x5 then some (x4, M6) else (bq1 (f_X2_grow M6) (fun (M10 : Mem) => bq1 (f_X2_fits M10) (fun (x12 : Int32) => (bq1 ((if x12 = 0 then (some (x4)) else (some (x5))) : Option (Int32)) (fun (x14 : Int32) => (bq1 (f_X2_isFull M10) (fun (x16 : Int32) => (if x16 = 0 then (nmq (x5 + (1 : Int32)) (fun (x19 : Int32) => (K7 x14 x19 M10))) else some (x14, M10))))))))))
def f_X6_farthestFrom (p1 : Int32) (M : Mem) : Option (Int32 × Mem) := (bq1 (f_X2_beginAt p1 M) (fun (M1 : Mem) => nmq ((p1 + (1 : Int32))) (fun (x3 : Int32) => (lq3 f_X6_farthestFrom_L14 FU (-1 : Int32) x3 M1))))
set_option maxHeartbeats 4000000 in
set_option maxRecDepth 100000 in
theorem ct_X6_farthestFrom (l : Launch) (G : GG) {p1 : Int32} {M : Mem} {r : Int32} {Mr : Mem}  (hf : f_X6_farthestFrom p1 M = some (r, Mr)) : Met l yX6_farthestFrom (wsq yX6_farthestFrom cX6_farthestFrom 4 (some .int)) (rmq 2 42) (va_Pc [.ref (G.2.2.1 126), .int p1] (World G M)) (Qi G r Mr) 0 0 (adA G) := by
  refine x_start (plainFor_of_name (by decide)) (Nat.le_of_ble_eq_true rfl) ?_
  intro p e s m args below meth c hB hr hlk hW hS ls hl
  have hx := hB.x
  have hb := hB.b
  have hl : lv_has ls 4 [(0, .ref (G.2.2.1 126)), (1, .int p1)] := hl
  unfold f_X6_farthestFrom at hf
  refine lv_iconst (v := (-1 : Int32)) hx hb dX6_farthestFrom_0 (by decide) ?_
  refine lv_istore_n (lv' := [(2, .int (-1 : Int32)), (0, .ref (G.2.2.1 126)), (1, .int p1)]) hx hb dX6_farthestFrom_1 rfl hl (by decide) rfl (fun ls hl => ?_)
  refine lv_aload_n hx hb dX6_farthestFrom_2 rfl (lv_at hl 1 rfl) ?_
  refine fg6_1 hB hW tl126 wd2_63 dX6_farthestFrom_3 ?_
  refine lv_iload_n hx hb dX6_farthestFrom_6 rfl (lv_at hl 2 rfl) ?_
  obtain ⟨M1, hg2, hf⟩ := b_o1 hf
  refine x_cv hB (x_rv hB hW hS (As := [.int p1]) (rest := []) (ct_X2_beginAt l G hg2) (cl_RX6_105 hB.2.2.2.2.1 ⟨Nat.le_of_ble_eq_true rfl, Nat.le_of_ble_eq_true rfl⟩) tl127 (by decide) rfl rfl hl.1 rfl (Nat.le_of_ble_eq_true rfl) dX6_farthestFrom_7 ⟨Nat.le_refl _, Nat.le_refl _⟩) hS (fun H locs hW hS => ?_)
  refine lv_iload_n hx hb dX6_farthestFrom_10 rfl (lv_at hl 2 rfl) ?_
  refine lv_iconst (v := (1 : Int32)) hx hb dX6_farthestFrom_11 (by decide) ?_
  refine lv_iadd hx hb dX6_farthestFrom_12 ?_
  refine lv_topi (fun x3 ex3 => ?_)
  have hf := nm_o hf ex3
  refine lv_istore_n (lv' := [(3, .int x3), (2, .int (-1 : Int32)), (0, .ref (G.2.2.1 126)), (1, .int p1)]) hx hb dX6_farthestFrom_13 rfl hl (by decide) rfl (fun ls hl => ?_)
  have loop8 : ∀ (n : Nat) (x4 : Int32) (x5 : Int32) (M6 : Mem) (H : Heap) (locs : List Loc) (ls : Array Slot), Wd G M6 H → va_S (adA G) s.heap H locs → lv_has ls 4 [(0, .ref (G.2.2.1 126)), (2, .int x4), (3, .int x5)] → lq3 f_X6_farthestFrom_L14 n x4 x5 M6 = some (r, Mr) → W p l e (rmq 2 42) s m args below meth c H locs 0 0 (MQ below (Qi G r Mr) args s 0 0 (adA G)) (F0 m 14 ls []) := by
    intro n
    induction n with
    | zero => intro x4 x5 M6 H locs ls hW hS hl hf; exact (l_z3 hf).elim
    | succ n ih =>
      intro x4 x5 M6 H locs ls hW hS hl hf
      have hf := l_s3 hf
      generalize lq3 f_X6_farthestFrom_L14 n = K7 at ih hf
      unfold f_X6_farthestFrom_L14 at hf
      refine lv_iload_n hx hb dX6_farthestFrom_14 rfl (lv_at hl 2 rfl) ?_
      refine lv_aload_n hx hb dX6_farthestFrom_15 rfl (lv_at hl 0 rfl) ?_
      refine fg6_0 hB hW tl126 wd2_61 dX6_farthestFrom_16 ?_
      refine fg0_3 hB hW tl128 wd1_225 dX6_farthestFrom_19 ?_
      refine lv_icmp_gt (tgt := 62) hx hb dX6_farthestFrom_22 (by decide) (fun c9 => ?_) (fun c9 => ?_)
      · have hf := i_t hf c9
        refine lv_iload_n hx hb dX6_farthestFrom_62 rfl (lv_at hl 1 rfl) ?_
        exact e_i hB hW hS hr hlk (s_1 hf) (s_2 hf) dX6_farthestFrom_63
      · have hf := i_f hf c9
        refine lv_aload_n hx hb dX6_farthestFrom_25 rfl (lv_at hl 0 rfl) ?_
        refine fg6_1 hB hW tl126 wd2_63 dX6_farthestFrom_26 ?_
        obtain ⟨M10, hg11, hf⟩ := b_o1 hf
        refine x_cv hB (x_rv hB hW hS (As := []) (rest := []) (ct_X2_grow l G hg11) (cl_RX6_112 hB.2.2.2.2.1 ⟨Nat.le_of_ble_eq_true rfl, Nat.le_of_ble_eq_true rfl⟩) tl127 (by decide) rfl rfl hl.1 rfl (Nat.le_of_ble_eq_true rfl) dX6_farthestFrom_29 ⟨Nat.le_refl _, Nat.le_refl _⟩) hS (fun H locs hW hS => ?_)
        refine lv_aload_n hx hb dX6_farthestFrom_32 rfl (lv_at hl 0 rfl) ?_
        refine fg6_1 hB hW tl126 wd2_63 dX6_farthestFrom_33 ?_
        obtain ⟨x12, hg13, hf⟩ := b_o1 hf
        refine x_ci hB (x_rv hB hW hS (As := []) (rest := []) (ct_X2_fits l G hg13) (cl_RX6_132 hB.2.2.2.2.1 ⟨Nat.le_of_ble_eq_true rfl, Nat.le_of_ble_eq_true rfl⟩) tl127 (by decide) rfl rfl hl.1 rfl (Nat.le_of_ble_eq_true rfl) dX6_farthestFrom_36 ⟨Nat.le_refl _, Nat.le_refl _⟩) hS (fun H locs hW hS => ?_)
        obtain ⟨y20, hR, hf⟩ := b_o1 hf
        have main15 : ∀ (x14 : Int32) (H : Heap) (locs : List Loc) (ls : Array Slot), Wd G M10 H → va_S (adA G) s.heap H locs → lv_has ls 4 [(0, .ref (G.2.2.1 126)), (2, .int x14), (3, .int x5)] → some (x14) = some (y20) → W p l e (rmq 2 42) s m args below meth c H locs 0 0 (MQ below (Qi G r Mr) args s 0 0 (adA G)) (F0 m 44 ls []) := by
          intro x14 H locs ls hW hS hl hE
          cases hE
          refine lv_aload_n hx hb dX6_farthestFrom_44 rfl (lv_at hl 0 rfl) ?_
          refine fg6_1 hB hW tl126 wd2_63 dX6_farthestFrom_45 ?_
          obtain ⟨x16, hg17, hf⟩ := b_o1 hf
          refine x_ci hB (x_rv hB hW hS (As := []) (rest := []) (ct_X2_isFull l G hg17) (cl_RX6_142 hB.2.2.2.2.1 ⟨Nat.le_of_ble_eq_true rfl, Nat.le_of_ble_eq_true rfl⟩) tl127 (by decide) rfl rfl hl.1 rfl (Nat.le_of_ble_eq_true rfl) dX6_farthestFrom_48 ⟨Nat.le_refl _, Nat.le_refl _⟩) hS (fun H locs hW hS => ?_)
          refine lv_if_eq (tgt := 56) hx hb dX6_farthestFrom_51 (by decide) (fun c18 => ?_) (fun c18 => ?_)
          · have hf := i_t hf c18
            obtain ⟨x19, ex19⟩ : ∃ y : Int32, y = x5 + (1 : Int32) := ⟨_, rfl⟩
            have hf := nm_o hf ex19
            refine lv_iinc (v := x19) (lv' := [(3, .int x19), (0, .ref (G.2.2.1 126)), (2, .int y20)]) hx hb dX6_farthestFrom_56 hl (k := 2) rfl (by rw [ex19]; rfl) (by decide) rfl (fun ls hl => ?_)
            refine lv_goto (tgt := 14) hx hb dX6_farthestFrom_59 (by decide) ?_
            exact ih y20 x19 M10 _ _ ls hW hS (lv_sub hl [1, 2, 0] rfl) hf
          · have hf := i_f hf c18
            refine lv_iload_n hx hb dX6_farthestFrom_54 rfl (lv_at hl 1 rfl) ?_
            exact e_i hB hW hS hr hlk (s_1 hf) (s_2 hf) dX6_farthestFrom_55
        have hf := hR
        refine lv_if_eq (tgt := 44) hx hb dX6_farthestFrom_39 (by decide) (fun c21 => ?_) (fun c21 => ?_)
        · have hf := i_t hf c21
          exact main15 x4 _ _ ls hW hS (lv_sub hl [0, 1, 2] rfl) hf
        · have hf := i_f hf c21
          refine lv_iload_n hx hb dX6_farthestFrom_42 rfl (lv_at hl 2 rfl) ?_
          refine lv_istore_n (lv' := [(2, .int x5), (0, .ref (G.2.2.1 126)), (3, .int x5)]) hx hb dX6_farthestFrom_43 rfl hl (by decide) rfl (fun ls hl => ?_)
          exact main15 x5 _ _ ls hW hS (lv_sub hl [1, 0, 2] rfl) hf
  exact loop8 FU (-1 : Int32) x3 M1 _ _ ls hW hS (lv_sub hl [2, 1, 0] rfl) hf
theorem cl_RX6_97 {R : Room} {s : State} {args : Array Value} (ht : ∀ w ∈ lw_all, w.before args s = true) (hR : 2 + 1 ≤ R.frames ∧ 8 + (4 + 11) + 42 ≤ R.locals) : CallW R s args RX6 RX6 97 yX6_farthestFrom cX6_farthestFrom 4 (some .int) (wsq yX6_farthestFrom cX6_farthestFrom 4 (some .int)) (rmq 2 42) 0 0 1 := cwV 1 ht (goodV wd4_197 wd4_199 wsel_29 wd1_7 wd4_200) rfl rfl rfl (by decide +kernel) hR
def f_X6_greedyLines_L12  (K6 : Int32 → Int32 → Mem → Option (Int32 × Mem)) (x3 : Int32) (x4 : Int32) (M5 : Mem) : Option (Int32 × Mem) := (if (192 : Int32) ≤ x4 then some (x4, M5) else (if (gi M5 128 3) ≤ x3 then some (x4, M5) else (bq2 (f_X6_farthestFrom x3 M5) (fun (x10 : Int32) (M11 : Mem) => (if 0 ≤ x10 then (nmq (x4 + (1 : Int32)) (fun (x14 : Int32) => (K6 x10 x14 M11))) else some ((-9 : Int32), M11))))))
def f_X6_greedyLines (k1 : Nat) (M : Mem) : Option (Int32 × Mem) := (bq1 (f_X2_measureBy k1 M) (fun (M1 : Mem) => (lq3 f_X6_greedyLines_L12 FU (0 : Int32) (0 : Int32) M1)))
set_option maxHeartbeats 4000000 in
set_option maxRecDepth 100000 in
theorem ct_X6_greedyLines (l : Launch) (G : GG) {k1 : Nat} {M : Mem} {r : Int32} {Mr : Mem} (hk1 : isT 3 k1) (hf : f_X6_greedyLines k1 M = some (r, Mr)) : Met l yX6_greedyLines (wsq yX6_greedyLines cX6_greedyLines 4 (some .int)) (rmq 3 65) (va_Pc [.ref (G.2.2.1 126), .ref (G.2.2.1 k1)] (World G M)) (Qi G r Mr) 0 0 (adA G) := by
  refine x_start (plainFor_of_name (by decide)) (Nat.le_of_ble_eq_true rfl) ?_
  intro p e s m args below meth c hB hr hlk hW hS ls hl
  have hx := hB.x
  have hb := hB.b
  have hl : lv_has ls 4 [(0, .ref (G.2.2.1 126)), (1, .ref (G.2.2.1 k1))] := hl
  unfold f_X6_greedyLines at hf
  refine lv_aload_n hx hb dX6_greedyLines_0 rfl (lv_at hl 0 rfl) ?_
  refine fg6_1 hB hW tl126 wd2_63 dX6_greedyLines_1 ?_
  refine lv_aload_n hx hb dX6_greedyLines_4 rfl (lv_at hl 1 rfl) ?_
  obtain ⟨M1, hg2, hf⟩ := b_o1 hf
  refine x_cv hB (x_rv hB hW hS (As := [.ref (G.2.2.1 k1)]) (rest := []) (ct_X2_measureBy l G hk1 hg2) (cl_RX6_50 hB.2.2.2.2.1 ⟨Nat.le_of_ble_eq_true rfl, Nat.le_of_ble_eq_true rfl⟩) tl127 (by decide) rfl rfl hl.1 rfl (Nat.le_of_ble_eq_true rfl) dX6_greedyLines_5 ⟨Nat.le_refl _, Nat.le_refl _⟩) hS (fun H locs hW hS => ?_)
  refine lv_iconst (v := (0 : Int32)) hx hb dX6_greedyLines_8 (by decide) ?_
  refine lv_istore_n (lv' := [(2, .int (0 : Int32)), (0, .ref (G.2.2.1 126)), (1, .ref (G.2.2.1 k1))]) hx hb dX6_greedyLines_9 rfl hl (by decide) rfl (fun ls hl => ?_)
  refine lv_iconst (v := (0 : Int32)) hx hb dX6_greedyLines_10 (by decide) ?_
  refine lv_istore_n (lv' := [(3, .int (0 : Int32)), (2, .int (0 : Int32)), (0, .ref (G.2.2.1 126)), (1, .ref (G.2.2.1 k1))]) hx hb dX6_greedyLines_11 rfl hl (by decide) rfl (fun ls hl => ?_)
  have loop7 : ∀ (n : Nat) (x3 : Int32) (x4 : Int32) (M5 : Mem) (H : Heap) (locs : List Loc) (ls : Array Slot), Wd G M5 H → va_S (adA G) s.heap H locs → lv_has ls 4 [(0, .ref (G.2.2.1 126)), (2, .int x3), (3, .int x4)] → lq3 f_X6_greedyLines_L12 n x3 x4 M5 = some (r, Mr) → W p l e (rmq 3 65) s m args below meth c H locs 0 0 (MQ below (Qi G r Mr) args s 0 0 (adA G)) (F0 m 12 ls []) := by
    intro n
    induction n with
    | zero => intro x3 x4 M5 H locs ls hW hS hl hf; exact (l_z3 hf).elim
    | succ n ih =>
      intro x3 x4 M5 H locs ls hW hS hl hf
      have hf := l_s3 hf
      generalize lq3 f_X6_greedyLines_L12 n = K6 at ih hf
      unfold f_X6_greedyLines_L12 at hf
      refine lv_iload_n hx hb dX6_greedyLines_12 rfl (lv_at hl 2 rfl) ?_
      refine lv_sipush (v := (192 : Int32)) hx hb dX6_greedyLines_13 (by decide) ?_
      refine lv_icmp_ge (tgt := 49) hx hb dX6_greedyLines_16 (by decide) (fun c8 => ?_) (fun c8 => ?_)
      · have hf := i_t hf c8
        refine lv_iload_n hx hb dX6_greedyLines_49 rfl (lv_at hl 2 rfl) ?_
        exact e_i hB hW hS hr hlk (s_1 hf) (s_2 hf) dX6_greedyLines_50
      · have hf := i_f hf c8
        refine lv_iload_n hx hb dX6_greedyLines_19 rfl (lv_at hl 1 rfl) ?_
        refine lv_aload_n hx hb dX6_greedyLines_20 rfl (lv_at hl 0 rfl) ?_
        refine fg6_0 hB hW tl126 wd2_61 dX6_greedyLines_21 ?_
        refine fg0_3 hB hW tl128 wd1_225 dX6_greedyLines_24 ?_
        refine lv_icmp_ge (tgt := 49) hx hb dX6_greedyLines_27 (by decide) (fun c9 => ?_) (fun c9 => ?_)
        · have hf := i_t hf c9
          refine lv_iload_n hx hb dX6_greedyLines_49 rfl (lv_at hl 2 rfl) ?_
          exact e_i hB hW hS hr hlk (s_1 hf) (s_2 hf) dX6_greedyLines_50
        · have hf := i_f hf c9
          refine lv_aload_n hx hb dX6_greedyLines_30 rfl (lv_at hl 0 rfl) ?_
          refine lv_iload_n hx hb dX6_greedyLines_31 rfl (lv_at hl 1 rfl) ?_
          obtain ⟨x10, M11, hg12, hf⟩ := b_o2 hf
          refine x_ci hB (x_rv hB hW hS (As := [.int x3]) (rest := []) (ct_X6_farthestFrom l G hg12) (cl_RX6_97 hB.2.2.2.2.1 ⟨Nat.le_of_ble_eq_true rfl, Nat.le_of_ble_eq_true rfl⟩) tl126 (by decide) rfl rfl hl.1 rfl (Nat.le_of_ble_eq_true rfl) dX6_greedyLines_32 ⟨Nat.le_refl _, Nat.le_refl _⟩) hS (fun H locs hW hS => ?_)
          refine lv_istore_n (lv' := [(2, .int x10), (0, .ref (G.2.2.1 126)), (3, .int x4)]) hx hb dX6_greedyLines_35 rfl hl (by decide) rfl (fun ls hl => ?_)
          refine lv_iload_n hx hb dX6_greedyLines_36 rfl (lv_at hl 0 rfl) ?_
          refine lv_if_ge (tgt := 43) hx hb dX6_greedyLines_37 (by decide) (fun c13 => ?_) (fun c13 => ?_)
          · have hf := i_t hf c13
            obtain ⟨x14, ex14⟩ : ∃ y : Int32, y = x4 + (1 : Int32) := ⟨_, rfl⟩
            have hf := nm_o hf ex14
            refine lv_iinc (v := x14) (lv' := [(3, .int x14), (2, .int x10), (0, .ref (G.2.2.1 126))]) hx hb dX6_greedyLines_43 hl (k := 2) rfl (by rw [ex14]; rfl) (by decide) rfl (fun ls hl => ?_)
            refine lv_goto (tgt := 12) hx hb dX6_greedyLines_46 (by decide) ?_
            exact ih x10 x14 M11 _ _ ls hW hS (lv_sub hl [2, 1, 0] rfl) hf
          · have hf := i_f hf c13
            refine lv_bipush (v := (-9 : Int32)) hx hb dX6_greedyLines_40 (by decide) ?_
            exact e_i hB hW hS hr hlk (s_1 hf) (s_2 hf) dX6_greedyLines_42
  exact loop7 FU (0 : Int32) (0 : Int32) M1 _ _ ls hW hS (lv_sub hl [2, 1, 0] rfl) hf
theorem cl_RX8_301 {R : Room} {s : State} {args : Array Value} (ht : ∀ w ∈ lw_all, w.before args s = true) (hR : 3 + 1 ≤ R.frames ∧ 8 + (4 + 11) + 65 ≤ R.locals) : CallW R s args RX8 RX6 301 yX6_greedyLines cX6_greedyLines 4 (some .int) (wsq yX6_greedyLines cX6_greedyLines 4 (some .int)) (rmq 3 65) 0 0 1 := cwV 1 ht (goodV wd4_193 wd4_194 wd4_195 wd1_7 wd4_196) rfl rfl rfl (by decide +kernel) hR
def f_X8_firstFit (M : Mem) : Option (Int32 × Mem) := (bq1 (f_X0_cut 1 (0 : Int32) M) (fun (M1 : Mem) => bq2 (f_X6_greedyLines 1 M1) (fun (x3 : Int32) (M4 : Mem) => some (x3, M4))))
set_option maxHeartbeats 4000000 in
set_option maxRecDepth 100000 in
theorem ct_X8_firstFit (l : Launch) (G : GG)  {M : Mem} {r : Int32} {Mr : Mem}  (hf : f_X8_firstFit M = some (r, Mr)) : Met l yX8_firstFit (wsq yX8_firstFit cX8_firstFit 1 (some .int)) (rmq 5 130) (va_Pc [.ref (G.2.2.1 0)] (World G M)) (Qi G r Mr) 0 0 (adA G) := by
  refine x_start (plainFor_of_name (by decide)) (Nat.le_of_ble_eq_true rfl) ?_
  intro p e s m args below meth c hB hr hlk hW hS ls hl
  have hx := hB.x
  have hb := hB.b
  have hl : lv_has ls 1 [(0, .ref (G.2.2.1 0))] := hl
  unfold f_X8_firstFit at hf
  refine lv_aload_n hx hb dX8_firstFit_0 rfl (lv_at hl 0 rfl) ?_
  refine fg8_5 hB hW tl0 wd2_96 dX8_firstFit_1 ?_
  refine fg6_0 hB hW tl126 wd2_62 dX8_firstFit_4 ?_
  refine lv_aload_n hx hb dX8_firstFit_7 rfl (lv_at hl 0 rfl) ?_
  refine fg8_0 hB hW tl0 wd2_91 dX8_firstFit_8 ?_
  refine lv_iconst (v := (0 : Int32)) hx hb dX8_firstFit_11 (by decide) ?_
  obtain ⟨M1, hg2, hf⟩ := b_o1 hf
  refine x_cv hB (x_rv hB hW hS (As := [.ref (G.2.2.1 1), .int (0 : Int32)]) (rest := []) (ct_X0_cut l G tl1 hg2) (cl_RX8_297 hB.2.2.2.2.1 ⟨Nat.le_of_ble_eq_true rfl, Nat.le_of_ble_eq_true rfl⟩) tl128 (by decide) rfl rfl hl.1 rfl (Nat.le_of_ble_eq_true rfl) dX8_firstFit_12 ⟨Nat.le_refl _, Nat.le_refl _⟩) hS (fun H locs hW hS => ?_)
  refine lv_aload_n hx hb dX8_firstFit_15 rfl (lv_at hl 0 rfl) ?_
  refine fg8_5 hB hW tl0 wd2_96 dX8_firstFit_16 ?_
  refine lv_aload_n hx hb dX8_firstFit_19 rfl (lv_at hl 0 rfl) ?_
  refine fg8_0 hB hW tl0 wd2_91 dX8_firstFit_20 ?_
  obtain ⟨x3, M4, hg5, hf⟩ := b_o2 hf
  refine x_ci hB (x_rv hB hW hS (As := [.ref (G.2.2.1 1)]) (rest := []) (ct_X6_greedyLines l G tl1 hg5) (cl_RX8_301 hB.2.2.2.2.1 ⟨Nat.le_of_ble_eq_true rfl, Nat.le_of_ble_eq_true rfl⟩) tl126 (by decide) rfl rfl hl.1 rfl (Nat.le_of_ble_eq_true rfl) dX8_firstFit_23 ⟨Nat.le_refl _, Nat.le_refl _⟩) hS (fun H locs hW hS => ?_)
  exact e_i hB hW hS hr hlk (s_1 hf) (s_2 hf) dX8_firstFit_26
def f_X8_beginTrial (M : Mem) : Option Mem := (bq1 (f_X3_become 12 1 M) (fun (M1 : Mem) => bq1 (f_X0_cut 12 (0 : Int32) M1) (fun (M3 : Mem) => some M3)))
set_option maxHeartbeats 4000000 in
set_option maxRecDepth 100000 in
theorem ct_X8_beginTrial (l : Launch) (G : GG)  {M : Mem} {Mr : Mem}  (hf : f_X8_beginTrial M = some Mr) : Met l yX8_beginTrial (wsq yX8_beginTrial cX8_beginTrial 1 none) (rmq 5 130) (va_Pc [.ref (G.2.2.1 0)] (World G M)) (Qv G Mr) 0 0 (adA G) := by
  refine x_start (plainFor_of_name (by decide)) (Nat.le_of_ble_eq_true rfl) ?_
  intro p e s m args below meth c hB hr hlk hW hS ls hl
  have hx := hB.x
  have hb := hB.b
  have hl : lv_has ls 1 [(0, .ref (G.2.2.1 0))] := hl
  unfold f_X8_beginTrial at hf
  refine lv_aload_n hx hb dX8_beginTrial_0 rfl (lv_at hl 0 rfl) ?_
  refine fg8_1 hB hW tl0 wd2_92 dX8_beginTrial_1 ?_
  refine lv_aload_n hx hb dX8_beginTrial_4 rfl (lv_at hl 0 rfl) ?_
  refine fg8_0 hB hW tl0 wd2_91 dX8_beginTrial_5 ?_
  obtain ⟨M1, hg2, hf⟩ := b_o1 hf
  refine x_cv hB (x_rv hB hW hS (As := [.ref (G.2.2.1 1)]) (rest := []) (ct_X3_become l G tl12 tl1 hg2) (cl_RX8_65 hB.2.2.2.2.1 ⟨Nat.le_of_ble_eq_true rfl, Nat.le_of_ble_eq_true rfl⟩) tl12 (by decide) rfl rfl hl.1 rfl (Nat.le_of_ble_eq_true rfl) dX8_beginTrial_8 ⟨Nat.le_refl _, Nat.le_refl _⟩) hS (fun H locs hW hS => ?_)
  refine lv_aload_n hx hb dX8_beginTrial_11 rfl (lv_at hl 0 rfl) ?_
  refine fg8_5 hB hW tl0 wd2_96 dX8_beginTrial_12 ?_
  refine fg6_0 hB hW tl126 wd2_62 dX8_beginTrial_15 ?_
  refine lv_aload_n hx hb dX8_beginTrial_18 rfl (lv_at hl 0 rfl) ?_
  refine fg8_1 hB hW tl0 wd2_92 dX8_beginTrial_19 ?_
  refine lv_iconst (v := (0 : Int32)) hx hb dX8_beginTrial_22 (by decide) ?_
  obtain ⟨M3, hg4, hf⟩ := b_o1 hf
  refine x_cv hB (x_rv hB hW hS (As := [.ref (G.2.2.1 12), .int (0 : Int32)]) (rest := []) (ct_X0_cut l G tl12 hg4) (cl_RX8_297 hB.2.2.2.2.1 ⟨Nat.le_of_ble_eq_true rfl, Nat.le_of_ble_eq_true rfl⟩) tl128 (by decide) rfl rfl hl.1 rfl (Nat.le_of_ble_eq_true rfl) dX8_beginTrial_23 ⟨Nat.le_refl _, Nat.le_refl _⟩) hS (fun H locs hW hS => ?_)
  exact e_v hB hW hS hr hlk (Option.some.inj hf) dX8_beginTrial_26
def f_X8_linesWith (p1 : Int32) (M : Mem) : Option (Int32 × Mem) := (nmq (si M 12 3 p1) (fun (M1 : Mem) => bq2 (f_X6_solve 12 M1) (fun (x2 : Int32) (M3 : Mem) => some (x2, M3))))
set_option maxHeartbeats 4000000 in
set_option maxRecDepth 100000 in
theorem ct_X8_linesWith (l : Launch) (G : GG) {p1 : Int32} {M : Mem} {r : Int32} {Mr : Mem}  (hf : f_X8_linesWith p1 M = some (r, Mr)) : Met l yX8_linesWith (wsq yX8_linesWith cX8_linesWith 2 (some .int)) (rmq 4 93) (va_Pc [.ref (G.2.2.1 0), .int p1] (World G M)) (Qi G r Mr) 0 0 (adA G) := by
  refine x_start (plainFor_of_name (by decide)) (Nat.le_of_ble_eq_true rfl) ?_
  intro p e s m args below meth c hB hr hlk hW hS ls hl
  have hx := hB.x
  have hb := hB.b
  have hl : lv_has ls 2 [(0, .ref (G.2.2.1 0)), (1, .int p1)] := hl
  unfold f_X8_linesWith at hf
  refine lv_aload_n hx hb dX8_linesWith_0 rfl (lv_at hl 0 rfl) ?_
  refine fg8_1 hB hW tl0 wd2_92 dX8_linesWith_1 ?_
  refine lv_iload_n hx hb dX8_linesWith_4 rfl (lv_at hl 1 rfl) ?_
  refine fp3_3 hB hW hS tl12 wd1_102 dX8_linesWith_5 (fun H locs M1 eM1 hW hS => ?_)
  have hf := nm_o hf eM1
  refine lv_aload_n hx hb dX8_linesWith_8 rfl (lv_at hl 0 rfl) ?_
  refine fg8_5 hB hW tl0 wd2_96 dX8_linesWith_9 ?_
  refine lv_aload_n hx hb dX8_linesWith_12 rfl (lv_at hl 0 rfl) ?_
  refine fg8_1 hB hW tl0 wd2_92 dX8_linesWith_13 ?_
  obtain ⟨x2, M3, hg4, hf⟩ := b_o2 hf
  refine x_ci hB (x_rv hB hW hS (As := [.ref (G.2.2.1 12)]) (rest := []) (ct_X6_solve l G tl12 hg4) (cl_RX8_315 hB.2.2.2.2.1 ⟨Nat.le_of_ble_eq_true rfl, Nat.le_of_ble_eq_true rfl⟩) tl126 (by decide) rfl rfl hl.1 rfl (Nat.le_of_ble_eq_true rfl) dX8_linesWith_16 ⟨Nat.le_refl _, Nat.le_refl _⟩) hS (fun H locs hW hS => ?_)
  exact e_i hB hW hS hr hlk (s_1 hf) (s_2 hf) dX8_linesWith_19
theorem cl_RX8_304 {R : Room} {s : State} {args : Array Value} (ht : ∀ w ∈ lw_all, w.before args s = true) (hR : 5 + 1 ≤ R.frames ∧ 8 + (1 + 11) + 130 ≤ R.locals) : CallW R s args RX8 RX8 304 yX8_beginTrial cX8_beginTrial 1 none (wsq yX8_beginTrial cX8_beginTrial 1 none) (rmq 5 130) 0 0 0 := cwV 0 ht (goodV wd4_205 wd4_207 wsel_30 wd1_1 wd4_208) rfl rfl rfl (by decide +kernel) hR
theorem cl_RX8_307 {R : Room} {s : State} {args : Array Value} (ht : ∀ w ∈ lw_all, w.before args s = true) (hR : 4 + 1 ≤ R.frames ∧ 8 + (2 + 11) + 93 ≤ R.locals) : CallW R s args RX8 RX8 307 yX8_linesWith cX8_linesWith 2 (some .int) (wsq yX8_linesWith cX8_linesWith 2 (some .int)) (rmq 4 93) 0 0 1 := cwV 1 ht (goodV wd4_209 wd4_211 wsel_31 wd1_1 wd4_212) rfl rfl rfl (by decide +kernel) hR
def f_X8_with (p1 : Int32) (M : Mem) : Option (Int32 × Mem) := (bq1 (f_X8_outside p1 (10 : Int32) (60 : Int32)) (fun (x1 : Int32) => (if x1 = 0 then (bq1 (f_X8_beginTrial M) (fun (M4 : Mem) => bq2 (f_X8_linesWith p1 M4) (fun (x6 : Int32) (M7 : Mem) => some (x6, M7)))) else (bq2 (f_X8_refuse x1 M) (fun (x9 : Int32) (M10 : Mem) => some (x9, M10))))))
set_option maxHeartbeats 4000000 in
set_option maxRecDepth 100000 in
theorem ct_X8_with (l : Launch) (G : GG) {p1 : Int32} {M : Mem} {r : Int32} {Mr : Mem}  (hf : f_X8_with p1 M = some (r, Mr)) : Met l yX8_with (wsq yX8_with cX8_with 3 (some .int)) (rmq 6 150) (va_Pc [.ref (G.2.2.1 0), .int p1] (World G M)) (Qi G r Mr) 0 0 (adA G) := by
  refine x_start (plainFor_of_name (by decide)) (Nat.le_of_ble_eq_true rfl) ?_
  intro p e s m args below meth c hB hr hlk hW hS ls hl
  have hx := hB.x
  have hb := hB.b
  have hl : lv_has ls 3 [(0, .ref (G.2.2.1 0)), (1, .int p1)] := hl
  unfold f_X8_with at hf
  refine lv_iload_n hx hb dX8_with_0 rfl (lv_at hl 1 rfl) ?_
  refine lv_bipush (v := (10 : Int32)) hx hb dX8_with_1 (by decide) ?_
  refine lv_bipush (v := (60 : Int32)) hx hb dX8_with_3 (by decide) ?_
  obtain ⟨x1, hg2, hf⟩ := b_o1 hf
  refine x_ci hB (x_rs hB hW hS (As := [.int p1, .int (10 : Int32), .int (60 : Int32)]) (rest := []) (ct_X8_outside l G hg2) (cl_RX8_85 hB.2.2.2.2.1 ⟨Nat.le_of_ble_eq_true rfl, Nat.le_of_ble_eq_true rfl⟩) rfl hl.1 rfl (Nat.le_of_ble_eq_true rfl) dX8_with_5 ⟨Nat.le_refl _, Nat.le_refl _⟩) hS (fun H locs hW hS => ?_)
  refine lv_istore_n (lv' := [(2, .int x1), (0, .ref (G.2.2.1 0)), (1, .int p1)]) hx hb dX8_with_8 rfl hl (by decide) rfl (fun ls hl => ?_)
  refine lv_iload_n hx hb dX8_with_9 rfl (lv_at hl 0 rfl) ?_
  refine lv_if_eq (tgt := 19) hx hb dX8_with_10 (by decide) (fun c3 => ?_) (fun c3 => ?_)
  · have hf := i_t hf c3
    refine lv_aload_n hx hb dX8_with_19 rfl (lv_at hl 1 rfl) ?_
    obtain ⟨M4, hg5, hf⟩ := b_o1 hf
    refine x_cv hB (x_rv hB hW hS (As := []) (rest := []) (ct_X8_beginTrial l G hg5) (cl_RX8_304 hB.2.2.2.2.1 ⟨Nat.le_of_ble_eq_true rfl, Nat.le_of_ble_eq_true rfl⟩) tl0 (by decide) rfl rfl hl.1 rfl (Nat.le_of_ble_eq_true rfl) dX8_with_20 ⟨Nat.le_refl _, Nat.le_refl _⟩) hS (fun H locs hW hS => ?_)
    refine lv_aload_n hx hb dX8_with_23 rfl (lv_at hl 1 rfl) ?_
    refine lv_iload_n hx hb dX8_with_24 rfl (lv_at hl 2 rfl) ?_
    obtain ⟨x6, M7, hg8, hf⟩ := b_o2 hf
    refine x_ci hB (x_rv hB hW hS (As := [.int p1]) (rest := []) (ct_X8_linesWith l G hg8) (cl_RX8_307 hB.2.2.2.2.1 ⟨Nat.le_of_ble_eq_true rfl, Nat.le_of_ble_eq_true rfl⟩) tl0 (by decide) rfl rfl hl.1 rfl (Nat.le_of_ble_eq_true rfl) dX8_with_25 ⟨Nat.le_refl _, Nat.le_refl _⟩) hS (fun H locs hW hS => ?_)
    exact e_i hB hW hS hr hlk (s_1 hf) (s_2 hf) dX8_with_28
  · have hf := i_f hf c3
    refine lv_aload_n hx hb dX8_with_13 rfl (lv_at hl 1 rfl) ?_
    refine lv_iload_n hx hb dX8_with_14 rfl (lv_at hl 0 rfl) ?_
    obtain ⟨x9, M10, hg11, hf⟩ := b_o2 hf
    refine x_ci hB (x_rv hB hW hS (As := [.int x1]) (rest := []) (ct_X8_refuse l G hg11) (cl_RX8_50 hB.2.2.2.2.1 ⟨Nat.le_of_ble_eq_true rfl, Nat.le_of_ble_eq_true rfl⟩) tl0 (by decide) rfl rfl hl.1 rfl (Nat.le_of_ble_eq_true rfl) dX8_with_15 ⟨Nat.le_refl _, Nat.le_refl _⟩) hS (fun H locs hW hS => ?_)
    exact e_i hB hW hS hr hlk (s_1 hf) (s_2 hf) dX8_with_18
def f_X8_narrowest_L25 (p1 : Int32) (K8 : Int32 → Mem → Option (Int32 × Mem)) (x6 : Int32) (M7 : Mem) : Option (Int32 × Mem) := (if (60 : Int32) < x6 then some ((-9 : Int32), M7) else (bq2 (f_X8_linesWith x6 M7) (fun (x11 : Int32) (M12 : Mem) => (if x11 = (-9 : Int32) then (nmq (x6 + (1 : Int32)) (fun (x15 : Int32) => (K8 x15 M12))) else (if p1 < x11 then (nmq (x6 + (1 : Int32)) (fun (x17 : Int32) => (K8 x17 M12))) else some (x6, M12))))))
def f_X8_narrowest (p1 : Int32) (M : Mem) : Option (Int32 × Mem) := (bq1 (f_X8_outside p1 (1 : Int32) (20 : Int32)) (fun (x1 : Int32) => (if x1 = 0 then (bq1 (f_X8_beginTrial M) (fun (M4 : Mem) => (lq2 (f_X8_narrowest_L25 p1) FU (10 : Int32) M4))) else (bq2 (f_X8_refuse x1 M) (fun (x18 : Int32) (M19 : Mem) => some (x18, M19))))))
set_option maxHeartbeats 4000000 in
set_option maxRecDepth 100000 in
theorem ct_X8_narrowest (l : Launch) (G : GG) {p1 : Int32} {M : Mem} {r : Int32} {Mr : Mem}  (hf : f_X8_narrowest p1 M = some (r, Mr)) : Met l yX8_narrowest (wsq yX8_narrowest cX8_narrowest 5 (some .int)) (rmq 6 150) (va_Pc [.ref (G.2.2.1 0), .int p1] (World G M)) (Qi G r Mr) 0 0 (adA G) := by
  refine x_start (plainFor_of_name (by decide)) (Nat.le_of_ble_eq_true rfl) ?_
  intro p e s m args below meth c hB hr hlk hW hS ls hl
  have hx := hB.x
  have hb := hB.b
  have hl : lv_has ls 5 [(0, .ref (G.2.2.1 0)), (1, .int p1)] := hl
  unfold f_X8_narrowest at hf
  refine lv_iload_n hx hb dX8_narrowest_0 rfl (lv_at hl 1 rfl) ?_
  refine lv_iconst (v := (1 : Int32)) hx hb dX8_narrowest_1 (by decide) ?_
  refine lv_bipush (v := (20 : Int32)) hx hb dX8_narrowest_2 (by decide) ?_
  obtain ⟨x1, hg2, hf⟩ := b_o1 hf
  refine x_ci hB (x_rs hB hW hS (As := [.int p1, .int (1 : Int32), .int (20 : Int32)]) (rest := []) (ct_X8_outside l G hg2) (cl_RX8_85 hB.2.2.2.2.1 ⟨Nat.le_of_ble_eq_true rfl, Nat.le_of_ble_eq_true rfl⟩) rfl hl.1 rfl (Nat.le_of_ble_eq_true rfl) dX8_narrowest_4 ⟨Nat.le_refl _, Nat.le_refl _⟩) hS (fun H locs hW hS => ?_)
  refine lv_istore_n (lv' := [(2, .int x1), (0, .ref (G.2.2.1 0)), (1, .int p1)]) hx hb dX8_narrowest_7 rfl hl (by decide) rfl (fun ls hl => ?_)
  refine lv_iload_n hx hb dX8_narrowest_8 rfl (lv_at hl 0 rfl) ?_
  refine lv_if_eq (tgt := 18) hx hb dX8_narrowest_9 (by decide) (fun c3 => ?_) (fun c3 => ?_)
  · have hf := i_t hf c3
    refine lv_aload_n hx hb dX8_narrowest_18 rfl (lv_at hl 1 rfl) ?_
    obtain ⟨M4, hg5, hf⟩ := b_o1 hf
    refine x_cv hB (x_rv hB hW hS (As := []) (rest := []) (ct_X8_beginTrial l G hg5) (cl_RX8_304 hB.2.2.2.2.1 ⟨Nat.le_of_ble_eq_true rfl, Nat.le_of_ble_eq_true rfl⟩) tl0 (by decide) rfl rfl hl.1 rfl (Nat.le_of_ble_eq_true rfl) dX8_narrowest_19 ⟨Nat.le_refl _, Nat.le_refl _⟩) hS (fun H locs hW hS => ?_)
    refine lv_bipush (v := (10 : Int32)) hx hb dX8_narrowest_22 (by decide) ?_
    refine lv_istore_n (lv' := [(3, .int (10 : Int32)), (2, .int x1), (0, .ref (G.2.2.1 0)), (1, .int p1)]) hx hb dX8_narrowest_24 rfl hl (by decide) rfl (fun ls hl => ?_)
    have loop9 : ∀ (n : Nat) (x6 : Int32) (M7 : Mem) (H : Heap) (locs : List Loc) (ls : Array Slot), Wd G M7 H → va_S (adA G) s.heap H locs → lv_has ls 5 [(0, .ref (G.2.2.1 0)), (1, .int p1), (3, .int x6)] → lq2 (f_X8_narrowest_L25 p1) n x6 M7 = some (r, Mr) → W p l e (rmq 6 150) s m args below meth c H locs 0 0 (MQ below (Qi G r Mr) args s 0 0 (adA G)) (F0 m 25 ls []) := by
      intro n
      induction n with
      | zero => intro x6 M7 H locs ls hW hS hl hf; exact (l_z2 hf).elim
      | succ n ih =>
        intro x6 M7 H locs ls hW hS hl hf
        have hf := l_s2 hf
        generalize lq2 (f_X8_narrowest_L25 p1) n = K8 at ih hf
        unfold f_X8_narrowest_L25 at hf
        refine lv_iload_n hx hb dX8_narrowest_25 rfl (lv_at hl 2 rfl) ?_
        refine lv_bipush (v := (60 : Int32)) hx hb dX8_narrowest_26 (by decide) ?_
        refine lv_icmp_gt (tgt := 59) hx hb dX8_narrowest_28 (by decide) (fun c10 => ?_) (fun c10 => ?_)
        · have hf := i_t hf c10
          refine lv_bipush (v := (-9 : Int32)) hx hb dX8_narrowest_59 (by decide) ?_
          exact e_i hB hW hS hr hlk (s_1 hf) (s_2 hf) dX8_narrowest_61
        · have hf := i_f hf c10
          refine lv_aload_n hx hb dX8_narrowest_31 rfl (lv_at hl 0 rfl) ?_
          refine lv_iload_n hx hb dX8_narrowest_32 rfl (lv_at hl 2 rfl) ?_
          obtain ⟨x11, M12, hg13, hf⟩ := b_o2 hf
          refine x_ci hB (x_rv hB hW hS (As := [.int x6]) (rest := []) (ct_X8_linesWith l G hg13) (cl_RX8_307 hB.2.2.2.2.1 ⟨Nat.le_of_ble_eq_true rfl, Nat.le_of_ble_eq_true rfl⟩) tl0 (by decide) rfl rfl hl.1 rfl (Nat.le_of_ble_eq_true rfl) dX8_narrowest_33 ⟨Nat.le_refl _, Nat.le_refl _⟩) hS (fun H locs hW hS => ?_)
          refine lv_istore (lv' := [(4, .int x11), (0, .ref (G.2.2.1 0)), (1, .int p1), (3, .int x6)]) hx hb dX8_narrowest_36 hl (by decide) rfl (fun ls hl => ?_)
          refine lv_iload hx hb dX8_narrowest_38 (lv_at hl 0 rfl) ?_
          refine lv_bipush (v := (-9 : Int32)) hx hb dX8_narrowest_40 (by decide) ?_
          refine lv_icmp_eq (tgt := 53) hx hb dX8_narrowest_42 (by decide) (fun c14 => ?_) (fun c14 => ?_)
          · have hf := i_t hf c14
            obtain ⟨x15, ex15⟩ : ∃ y : Int32, y = x6 + (1 : Int32) := ⟨_, rfl⟩
            have hf := nm_o hf ex15
            refine lv_iinc (v := x15) (lv' := [(3, .int x15), (4, .int x11), (0, .ref (G.2.2.1 0)), (1, .int p1)]) hx hb dX8_narrowest_53 hl (k := 3) rfl (by rw [ex15]; rfl) (by decide) rfl (fun ls hl => ?_)
            refine lv_goto (tgt := 25) hx hb dX8_narrowest_56 (by decide) ?_
            exact ih x15 M12 _ _ ls hW hS (lv_sub hl [2, 3, 0] rfl) hf
          · have hf := i_f hf c14
            refine lv_iload hx hb dX8_narrowest_45 (lv_at hl 0 rfl) ?_
            refine lv_iload_n hx hb dX8_narrowest_47 rfl (lv_at hl 2 rfl) ?_
            refine lv_icmp_gt (tgt := 53) hx hb dX8_narrowest_48 (by decide) (fun c16 => ?_) (fun c16 => ?_)
            · have hf := i_t hf c16
              obtain ⟨x17, ex17⟩ : ∃ y : Int32, y = x6 + (1 : Int32) := ⟨_, rfl⟩
              have hf := nm_o hf ex17
              refine lv_iinc (v := x17) (lv' := [(3, .int x17), (4, .int x11), (0, .ref (G.2.2.1 0)), (1, .int p1)]) hx hb dX8_narrowest_53 hl (k := 3) rfl (by rw [ex17]; rfl) (by decide) rfl (fun ls hl => ?_)
              refine lv_goto (tgt := 25) hx hb dX8_narrowest_56 (by decide) ?_
              exact ih x17 M12 _ _ ls hW hS (lv_sub hl [2, 3, 0] rfl) hf
            · have hf := i_f hf c16
              refine lv_iload_n hx hb dX8_narrowest_51 rfl (lv_at hl 3 rfl) ?_
              exact e_i hB hW hS hr hlk (s_1 hf) (s_2 hf) dX8_narrowest_52
    exact loop9 FU (10 : Int32) M4 _ _ ls hW hS (lv_sub hl [2, 3, 0] rfl) hf
  · have hf := i_f hf c3
    refine lv_aload_n hx hb dX8_narrowest_12 rfl (lv_at hl 1 rfl) ?_
    refine lv_iload_n hx hb dX8_narrowest_13 rfl (lv_at hl 0 rfl) ?_
    obtain ⟨x18, M19, hg20, hf⟩ := b_o2 hf
    refine x_ci hB (x_rv hB hW hS (As := [.int x1]) (rest := []) (ct_X8_refuse l G hg20) (cl_RX8_50 hB.2.2.2.2.1 ⟨Nat.le_of_ble_eq_true rfl, Nat.le_of_ble_eq_true rfl⟩) tl0 (by decide) rfl rfl hl.1 rfl (Nat.le_of_ble_eq_true rfl) dX8_narrowest_14 ⟨Nat.le_refl _, Nat.le_refl _⟩) hS (fun H locs hW hS => ?_)
    exact e_i hB hW hS hr hlk (s_1 hf) (s_2 hf) dX8_narrowest_17
def f_X8_without (p1 : Int32) (p2 : Int32) (M : Mem) : Option (Int32 × Mem) := (bq1 (f_X7_has 3 p1 M) (fun (x1 : Int32) => (if x1 = 0 then (bq2 (f_X8_refuse (-1 : Int32) M) (fun (x18 : Int32) (M19 : Mem) => some (x18, M19))) else (bq1 (f_X8_isOther p2 (2 : Int32)) (fun (x4 : Int32) => (if x4 = 0 then (bq2 (f_X6_set 1 (ishl_ (1 : Int32) p1) M) (fun (x7 : Int32) (M8 : Mem) => (if p2 = 0 then some (x7, M8) else (bq1 (f_X6_leastTotal M8) (fun (x11 : UInt32) => bq1 (f_X8_bitsOfTotal x11) (fun (x13 : Int32) => some (x13, M8))))))) else (bq2 (f_X8_refuse (-2 : Int32) M) (fun (x15 : Int32) (M16 : Mem) => some (x15, M16)))))))))
set_option maxHeartbeats 4000000 in
set_option maxRecDepth 100000 in
theorem ct_X8_without (l : Launch) (G : GG) {p1 : Int32} {p2 : Int32} {M : Mem} {r : Int32} {Mr : Mem}  (hf : f_X8_without p1 p2 M = some (r, Mr)) : Met l yX8_without (wsq yX8_without cX8_without 4 (some .int)) (rmq 6 152) (va_Pc [.ref (G.2.2.1 0), .int p1, .int p2] (World G M)) (Qi G r Mr) 0 0 (adA G) := by
  refine x_start (plainFor_of_name (by decide)) (Nat.le_of_ble_eq_true rfl) ?_
  intro p e s m args below meth c hB hr hlk hW hS ls hl
  have hx := hB.x
  have hb := hB.b
  have hl : lv_has ls 4 [(0, .ref (G.2.2.1 0)), (1, .int p1), (2, .int p2)] := hl
  unfold f_X8_without at hf
  refine lv_aload_n hx hb dX8_without_0 rfl (lv_at hl 0 rfl) ?_
  refine fg8_0 hB hW tl0 wd2_91 dX8_without_1 ?_
  refine fg3_1 hB hW tl1 wd1_95 dX8_without_4 ?_
  refine lv_iload_n hx hb dX8_without_7 rfl (lv_at hl 1 rfl) ?_
  obtain ⟨x1, hg2, hf⟩ := b_o1 hf
  refine x_ci hB (x_rv hB hW hS (As := [.int p1]) (rest := []) (ct_X7_has l G tl3 hg2) (cl_RX8_121 hB.2.2.2.2.1 ⟨Nat.le_of_ble_eq_true rfl, Nat.le_of_ble_eq_true rfl⟩) tl3 (by decide) rfl rfl hl.1 rfl (Nat.le_of_ble_eq_true rfl) dX8_without_8 ⟨Nat.le_refl _, Nat.le_refl _⟩) hS (fun H locs hW hS => ?_)
  refine lv_if_ne (tgt := 20) hx hb dX8_without_11 (by decide) (fun c3 => ?_) (fun c3 => ?_)
  · have hf := i_f hf c3
    refine lv_iload_n hx hb dX8_without_20 rfl (lv_at hl 2 rfl) ?_
    refine lv_iconst (v := (2 : Int32)) hx hb dX8_without_21 (by decide) ?_
    obtain ⟨x4, hg5, hf⟩ := b_o1 hf
    refine x_ci hB (x_rs hB hW hS (As := [.int p2, .int (2 : Int32)]) (rest := []) (ct_X8_isOther l G hg5) (cl_RX8_171 hB.2.2.2.2.1 ⟨Nat.le_of_ble_eq_true rfl, Nat.le_of_ble_eq_true rfl⟩) rfl hl.1 rfl (Nat.le_of_ble_eq_true rfl) dX8_without_22 ⟨Nat.le_refl _, Nat.le_refl _⟩) hS (fun H locs hW hS => ?_)
    refine lv_if_eq (tgt := 35) hx hb dX8_without_25 (by decide) (fun c6 => ?_) (fun c6 => ?_)
    · have hf := i_t hf c6
      refine lv_aload_n hx hb dX8_without_35 rfl (lv_at hl 0 rfl) ?_
      refine fg8_5 hB hW tl0 wd2_96 dX8_without_36 ?_
      refine lv_aload_n hx hb dX8_without_39 rfl (lv_at hl 0 rfl) ?_
      refine fg8_0 hB hW tl0 wd2_91 dX8_without_40 ?_
      refine lv_iconst (v := (1 : Int32)) hx hb dX8_without_43 (by decide) ?_
      refine lv_iload_n hx hb dX8_without_44 rfl (lv_at hl 1 rfl) ?_
      refine lv_ishl hx hb dX8_without_45 ?_
      obtain ⟨x7, M8, hg9, hf⟩ := b_o2 hf
      refine x_ci hB (x_rv hB hW hS (As := [.ref (G.2.2.1 1), .int (ishl_ (1 : Int32) p1)]) (rest := []) (ct_X6_set l G tl1 hg9) (cl_RX8_229 hB.2.2.2.2.1 ⟨Nat.le_of_ble_eq_true rfl, Nat.le_of_ble_eq_true rfl⟩) tl126 (by decide) rfl rfl hl.1 rfl (Nat.le_of_ble_eq_true rfl) dX8_without_46 ⟨Nat.le_refl _, Nat.le_refl _⟩) hS (fun H locs hW hS => ?_)
      refine lv_istore_n (lv' := [(3, .int x7), (0, .ref (G.2.2.1 0)), (1, .int p1), (2, .int p2)]) hx hb dX8_without_49 rfl hl (by decide) rfl (fun ls hl => ?_)
      refine lv_iload_n hx hb dX8_without_50 rfl (lv_at hl 3 rfl) ?_
      refine lv_if_ne (tgt := 58) hx hb dX8_without_51 (by decide) (fun c10 => ?_) (fun c10 => ?_)
      · have hf := i_f hf c10
        refine lv_aload_n hx hb dX8_without_58 rfl (lv_at hl 1 rfl) ?_
        refine fg8_5 hB hW tl0 wd2_96 dX8_without_59 ?_
        obtain ⟨x11, hg12, hf⟩ := b_o1 hf
        refine x_cf hB (x_rv hB hW hS (As := []) (rest := []) (ct_X6_leastTotal l G hg12) (cl_RX8_287 hB.2.2.2.2.1 ⟨Nat.le_of_ble_eq_true rfl, Nat.le_of_ble_eq_true rfl⟩) tl126 (by decide) rfl rfl hl.1 rfl (Nat.le_of_ble_eq_true rfl) dX8_without_62 ⟨Nat.le_refl _, Nat.le_refl _⟩) hS (fun H locs hW hS => ?_)
        obtain ⟨x13, hg14, hf⟩ := b_o1 hf
        refine x_ci hB (x_rs hB hW hS (As := [.float x11]) (rest := []) (ct_X8_bitsOfTotal l G hg14) (cl_RX8_294 hB.2.2.2.2.1 ⟨Nat.le_of_ble_eq_true rfl, Nat.le_of_ble_eq_true rfl⟩) rfl hl.1 rfl (Nat.le_of_ble_eq_true rfl) dX8_without_65 ⟨Nat.le_refl _, Nat.le_refl _⟩) hS (fun H locs hW hS => ?_)
        exact e_i hB hW hS hr hlk (s_1 hf) (s_2 hf) dX8_without_68
      · have hf := i_t hf c10
        refine lv_iload_n hx hb dX8_without_54 rfl (lv_at hl 0 rfl) ?_
        refine lv_goto (tgt := 68) hx hb dX8_without_55 (by decide) ?_
        exact e_i hB hW hS hr hlk (s_1 hf) (s_2 hf) dX8_without_68
    · have hf := i_f hf c6
      refine lv_aload_n hx hb dX8_without_28 rfl (lv_at hl 0 rfl) ?_
      refine lv_bipush (v := (-2 : Int32)) hx hb dX8_without_29 (by decide) ?_
      obtain ⟨x15, M16, hg17, hf⟩ := b_o2 hf
      refine x_ci hB (x_rv hB hW hS (As := [.int (-2 : Int32)]) (rest := []) (ct_X8_refuse l G hg17) (cl_RX8_50 hB.2.2.2.2.1 ⟨Nat.le_of_ble_eq_true rfl, Nat.le_of_ble_eq_true rfl⟩) tl0 (by decide) rfl rfl hl.1 rfl (Nat.le_of_ble_eq_true rfl) dX8_without_31 ⟨Nat.le_refl _, Nat.le_refl _⟩) hS (fun H locs hW hS => ?_)
      exact e_i hB hW hS hr hlk (s_1 hf) (s_2 hf) dX8_without_34
  · have hf := i_t hf c3
    refine lv_aload_n hx hb dX8_without_14 rfl (lv_at hl 0 rfl) ?_
    refine lv_iconst (v := (-1 : Int32)) hx hb dX8_without_15 (by decide) ?_
    obtain ⟨x18, M19, hg20, hf⟩ := b_o2 hf
    refine x_ci hB (x_rv hB hW hS (As := [.int (-1 : Int32)]) (rest := []) (ct_X8_refuse l G hg20) (cl_RX8_50 hB.2.2.2.2.1 ⟨Nat.le_of_ble_eq_true rfl, Nat.le_of_ble_eq_true rfl⟩) tl0 (by decide) rfl rfl hl.1 rfl (Nat.le_of_ble_eq_true rfl) dX8_without_16 ⟨Nat.le_refl _, Nat.le_refl _⟩) hS (fun H locs hW hS => ?_)
    exact e_i hB hW hS hr hlk (s_1 hf) (s_2 hf) dX8_without_19
def f_X8_isLess (p1 : UInt32) (p2 : UInt32) : Option Int32 := (if (fcl p1 FP.fconst0) < 0 then some (0 : Int32) else (if (fcg p2 FP.fconst0) < 0 then some (1 : Int32) else (if 0 ≤ (fcg p1 p2) then some (0 : Int32) else some (1 : Int32))))
set_option maxHeartbeats 4000000 in
set_option maxRecDepth 100000 in
theorem ct_X8_isLess (l : Launch) (G : GG) {p1 : UInt32} {p2 : UInt32} {M : Mem} {r : Int32}  (hf : f_X8_isLess p1 p2 = some r) : Met l yX8_isLess (wsq yX8_isLess cX8_isLess 2 (some .boolean)) (rmq 0 0) (va_Pc [.float p1, .float p2] (World G M)) (Qi G r M) 0 0 (adA G) := by
  refine x_start (plainFor_of_name (by decide)) (Nat.le_of_ble_eq_true rfl) ?_
  intro p e s m args below meth c hB hr hlk hW hS ls hl
  have hx := hB.x
  have hb := hB.b
  have hl : lv_has ls 2 [(0, .float p1), (1, .float p2)] := hl
  unfold f_X8_isLess at hf
  refine lv_fload_n hx hb dX8_isLess_0 rfl (lv_at hl 0 rfl) ?_
  refine lv_fconst0 hx hb dX8_isLess_1 ?_
  refine lv_fcmp hx hb dX8_isLess_2 ?_
  refine lv_if_lt (tgt := 22) hx hb dX8_isLess_3 (by decide) (fun c1 => ?_) (fun c1 => ?_)
  · have hf := i_t hf c1
    refine lv_iconst (v := (0 : Int32)) hx hb dX8_isLess_22 (by decide) ?_
    exact e_z (by decide) hB hW hS hr hlk (Option.some.inj hf) rfl dX8_isLess_23
  · have hf := i_f hf c1
    refine lv_fload_n hx hb dX8_isLess_6 rfl (lv_at hl 1 rfl) ?_
    refine lv_fconst0 hx hb dX8_isLess_7 ?_
    refine lv_fcmp hx hb dX8_isLess_8 ?_
    refine lv_if_lt (tgt := 18) hx hb dX8_isLess_9 (by decide) (fun c2 => ?_) (fun c2 => ?_)
    · have hf := i_t hf c2
      refine lv_iconst (v := (1 : Int32)) hx hb dX8_isLess_18 (by decide) ?_
      refine lv_goto (tgt := 23) hx hb dX8_isLess_19 (by decide) ?_
      exact e_z (by decide) hB hW hS hr hlk (Option.some.inj hf) rfl dX8_isLess_23
    · have hf := i_f hf c2
      refine lv_fload_n hx hb dX8_isLess_12 rfl (lv_at hl 0 rfl) ?_
      refine lv_fload_n hx hb dX8_isLess_13 rfl (lv_at hl 1 rfl) ?_
      refine lv_fcmp hx hb dX8_isLess_14 ?_
      refine lv_if_ge (tgt := 22) hx hb dX8_isLess_15 (by decide) (fun c3 => ?_) (fun c3 => ?_)
      · have hf := i_t hf c3
        refine lv_iconst (v := (0 : Int32)) hx hb dX8_isLess_22 (by decide) ?_
        exact e_z (by decide) hB hW hS hr hlk (Option.some.inj hf) rfl dX8_isLess_23
      · have hf := i_f hf c3
        refine lv_iconst (v := (1 : Int32)) hx hb dX8_isLess_18 (by decide) ?_
        refine lv_goto (tgt := 23) hx hb dX8_isLess_19 (by decide) ?_
        exact e_z (by decide) hB hW hS hr hlk (Option.some.inj hf) rfl dX8_isLess_23
theorem cl_RX8_311 {R : Room} {s : State} {args : Array Value} (ht : ∀ w ∈ lw_all, w.before args s = true) (hR : 0 + 1 ≤ R.frames ∧ 8 + (2 + 11) + 0 ≤ R.locals) : CallB R s args RX8 311 yX8_isLess cX8_isLess 2 (some .boolean) (wsq yX8_isLess cX8_isLess 2 (some .boolean)) (rmq 0 0) 0 0 2 ∧ (Cond.static yX8_isLess).before args s = true := va_cwS 2 ht (goodS wd4_225 wd4_226 wd1_1 wd4_227) rfl rfl rfl (by decide +kernel) hR
def f_X8_worst_L26  (K10 : UInt32 → Int32 → Int32 → Mem → Option (Int32 × Mem)) (x6 : UInt32) (x7 : Int32) (x8 : Int32) (M9 : Mem) : Option (Int32 × Mem) := (if (gi M9 3 3) ≤ x8 then (some (x7, M9)) else (bq2 (f_X6_set 1 (ishl_ (1 : Int32) x8) M9) (fun (x18 : Int32) (M19 : Mem) => bq1 (f_X6_leastTotal M19) (fun (x21 : UInt32) => bq1 (f_X8_isLess x21 x6) (fun (x23 : Int32) => (if x23 = 0 then (nmq (x8 + (1 : Int32)) (fun (x26 : Int32) => (K10 x6 x7 x26 M19))) else (nmq (x8 + (1 : Int32)) (fun (x27 : Int32) => (K10 x21 x8 x27 M19)))))))))
def f_X8_worst (M : Mem) : Option (Int32 × Mem) := (bq2 (f_X6_set 1 (0 : Int32) M) (fun (x1 : Int32) (M2 : Mem) => bq1 (f_X6_leastTotal M2) (fun (x4 : UInt32) => (bq2 (lq4 f_X8_worst_L26 FU x4 (-9 : Int32) (0 : Int32) M2) (fun (x12 : Int32) (M13 : Mem) => some (x12, M13))))))
set_option maxHeartbeats 4000000 in
set_option maxRecDepth 100000 in
theorem ct_X8_worst (l : Launch) (G : GG)  {M : Mem} {r : Int32} {Mr : Mem}  (hf : f_X8_worst M = some (r, Mr)) : Met l yX8_worst (wsq yX8_worst cX8_worst 5 (some .int)) (rmq 6 152) (va_Pc [.ref (G.2.2.1 0)] (World G M)) (Qi G r Mr) 0 0 (adA G) := by
  refine x_start (plainFor_of_name (by decide)) (Nat.le_of_ble_eq_true rfl) ?_
  intro p e s m args below meth c hB hr hlk hW hS ls hl
  have hx := hB.x
  have hb := hB.b
  have hl : lv_has ls 5 [(0, .ref (G.2.2.1 0))] := hl
  unfold f_X8_worst at hf
  refine lv_aload_n hx hb dX8_worst_0 rfl (lv_at hl 0 rfl) ?_
  refine fg8_5 hB hW tl0 wd2_96 dX8_worst_1 ?_
  refine lv_aload_n hx hb dX8_worst_4 rfl (lv_at hl 0 rfl) ?_
  refine fg8_0 hB hW tl0 wd2_91 dX8_worst_5 ?_
  refine lv_iconst (v := (0 : Int32)) hx hb dX8_worst_8 (by decide) ?_
  obtain ⟨x1, M2, hg3, hf⟩ := b_o2 hf
  refine x_ci hB (x_rv hB hW hS (As := [.ref (G.2.2.1 1), .int (0 : Int32)]) (rest := []) (ct_X6_set l G tl1 hg3) (cl_RX8_229 hB.2.2.2.2.1 ⟨Nat.le_of_ble_eq_true rfl, Nat.le_of_ble_eq_true rfl⟩) tl126 (by decide) rfl rfl hl.1 rfl (Nat.le_of_ble_eq_true rfl) dX8_worst_9 ⟨Nat.le_refl _, Nat.le_refl _⟩) hS (fun H locs hW hS => ?_)
  refine lv_pop hx hb dX8_worst_12 rfl ?_
  refine lv_aload_n hx hb dX8_worst_13 rfl (lv_at hl 0 rfl) ?_
  refine fg8_5 hB hW tl0 wd2_96 dX8_worst_14 ?_
  obtain ⟨x4, hg5, hf⟩ := b_o1 hf
  refine x_cf hB (x_rv hB hW hS (As := []) (rest := []) (ct_X6_leastTotal l G hg5) (cl_RX8_287 hB.2.2.2.2.1 ⟨Nat.le_of_ble_eq_true rfl, Nat.le_of_ble_eq_true rfl⟩) tl126 (by decide) rfl rfl hl.1 rfl (Nat.le_of_ble_eq_true rfl) dX8_worst_17 ⟨Nat.le_refl _, Nat.le_refl _⟩) hS (fun H locs hW hS => ?_)
  refine lv_fstore_n (lv' := [(1, .float x4), (0, .ref (G.2.2.1 0))]) hx hb dX8_worst_20 rfl hl (by decide) rfl (fun ls hl => ?_)
  refine lv_bipush (v := (-9 : Int32)) hx hb dX8_worst_21 (by decide) ?_
  refine lv_istore_n (lv' := [(2, .int (-9 : Int32)), (1, .float x4), (0, .ref (G.2.2.1 0))]) hx hb dX8_worst_23 rfl hl (by decide) rfl (fun ls hl => ?_)
  refine lv_iconst (v := (0 : Int32)) hx hb dX8_worst_24 (by decide) ?_
  refine lv_istore_n (lv' := [(3, .int (0 : Int32)), (2, .int (-9 : Int32)), (1, .float x4), (0, .ref (G.2.2.1 0))]) hx hb dX8_worst_25 rfl hl (by decide) rfl (fun ls hl => ?_)
  obtain ⟨y14, M15, hL, hf⟩ := b_o2 hf
  have main16 : ∀ (x12 : Int32) (M13 : Mem) (H : Heap) (locs : List Loc) (ls : Array Slot), Wd G M13 H → va_S (adA G) s.heap H locs → lv_has ls 5 [(2, .int x12)] → some (x12, M13) = some (y14, M15) → W p l e (rmq 6 152) s m args below meth c H locs 0 0 (MQ below (Qi G r Mr) args s 0 0 (adA G)) (F0 m 84 ls []) := by
    intro x12 M13 H locs ls hW hS hl hE
    cases hE
    refine lv_iload_n hx hb dX8_worst_84 rfl (lv_at hl 0 rfl) ?_
    exact e_i hB hW hS hr hlk (s_1 hf) (s_2 hf) dX8_worst_85
  have loop11 : ∀ (n : Nat) (x6 : UInt32) (x7 : Int32) (x8 : Int32) (M9 : Mem) (H : Heap) (locs : List Loc) (ls : Array Slot), Wd G M9 H → va_S (adA G) s.heap H locs → lv_has ls 5 [(0, .ref (G.2.2.1 0)), (1, .float x6), (2, .int x7), (3, .int x8)] → lq4 f_X8_worst_L26 n x6 x7 x8 M9 = some (y14, M15) → W p l e (rmq 6 152) s m args below meth c H locs 0 0 (MQ below (Qi G r Mr) args s 0 0 (adA G)) (F0 m 26 ls []) := by
    intro n
    induction n with
    | zero => intro x6 x7 x8 M9 H locs ls hW hS hl hf; exact (l_z4 hf).elim
    | succ n ih =>
      intro x6 x7 x8 M9 H locs ls hW hS hl hf
      have hf := l_s4 hf
      generalize lq4 f_X8_worst_L26 n = K10 at ih hf
      unfold f_X8_worst_L26 at hf
      refine lv_iload_n hx hb dX8_worst_26 rfl (lv_at hl 3 rfl) ?_
      refine lv_aload_n hx hb dX8_worst_27 rfl (lv_at hl 0 rfl) ?_
      refine fg8_0 hB hW tl0 wd2_91 dX8_worst_28 ?_
      refine fg3_1 hB hW tl1 wd1_95 dX8_worst_31 ?_
      refine fg7_3 hB hW tl3 wd1_52 dX8_worst_34 ?_
      refine lv_icmp_ge (tgt := 84) hx hb dX8_worst_37 (by decide) (fun c17 => ?_) (fun c17 => ?_)
      · have hf := i_t hf c17
        exact main16 x7 M9 _ _ ls hW hS (lv_sub hl [2] rfl) hf
      · have hf := i_f hf c17
        refine lv_aload_n hx hb dX8_worst_40 rfl (lv_at hl 0 rfl) ?_
        refine fg8_5 hB hW tl0 wd2_96 dX8_worst_41 ?_
        refine lv_aload_n hx hb dX8_worst_44 rfl (lv_at hl 0 rfl) ?_
        refine fg8_0 hB hW tl0 wd2_91 dX8_worst_45 ?_
        refine lv_iconst (v := (1 : Int32)) hx hb dX8_worst_48 (by decide) ?_
        refine lv_iload_n hx hb dX8_worst_49 rfl (lv_at hl 3 rfl) ?_
        refine lv_ishl hx hb dX8_worst_50 ?_
        obtain ⟨x18, M19, hg20, hf⟩ := b_o2 hf
        refine x_ci hB (x_rv hB hW hS (As := [.ref (G.2.2.1 1), .int (ishl_ (1 : Int32) x8)]) (rest := []) (ct_X6_set l G tl1 hg20) (cl_RX8_229 hB.2.2.2.2.1 ⟨Nat.le_of_ble_eq_true rfl, Nat.le_of_ble_eq_true rfl⟩) tl126 (by decide) rfl rfl hl.1 rfl (Nat.le_of_ble_eq_true rfl) dX8_worst_51 ⟨Nat.le_refl _, Nat.le_refl _⟩) hS (fun H locs hW hS => ?_)
        refine lv_pop hx hb dX8_worst_54 rfl ?_
        refine lv_aload_n hx hb dX8_worst_55 rfl (lv_at hl 0 rfl) ?_
        refine fg8_5 hB hW tl0 wd2_96 dX8_worst_56 ?_
        obtain ⟨x21, hg22, hf⟩ := b_o1 hf
        refine x_cf hB (x_rv hB hW hS (As := []) (rest := []) (ct_X6_leastTotal l G hg22) (cl_RX8_287 hB.2.2.2.2.1 ⟨Nat.le_of_ble_eq_true rfl, Nat.le_of_ble_eq_true rfl⟩) tl126 (by decide) rfl rfl hl.1 rfl (Nat.le_of_ble_eq_true rfl) dX8_worst_59 ⟨Nat.le_refl _, Nat.le_refl _⟩) hS (fun H locs hW hS => ?_)
        refine lv_fstore (lv' := [(4, .float x21), (0, .ref (G.2.2.1 0)), (1, .float x6), (2, .int x7), (3, .int x8)]) hx hb dX8_worst_62 hl (by decide) rfl (fun ls hl => ?_)
        refine lv_fload hx hb dX8_worst_64 (lv_at hl 0 rfl) ?_
        refine lv_fload_n hx hb dX8_worst_66 rfl (lv_at hl 2 rfl) ?_
        obtain ⟨x23, hg24, hf⟩ := b_o1 hf
        refine x_ci hB (x_rs hB hW hS (As := [.float x21, .float x6]) (rest := []) (ct_X8_isLess l G hg24) (cl_RX8_311 hB.2.2.2.2.1 ⟨Nat.le_of_ble_eq_true rfl, Nat.le_of_ble_eq_true rfl⟩) rfl hl.1 rfl (Nat.le_of_ble_eq_true rfl) dX8_worst_67 ⟨Nat.le_refl _, Nat.le_refl _⟩) hS (fun H locs hW hS => ?_)
        refine lv_if_eq (tgt := 78) hx hb dX8_worst_70 (by decide) (fun c25 => ?_) (fun c25 => ?_)
        · have hf := i_t hf c25
          obtain ⟨x26, ex26⟩ : ∃ y : Int32, y = x8 + (1 : Int32) := ⟨_, rfl⟩
          have hf := nm_o hf ex26
          refine lv_iinc (v := x26) (lv' := [(3, .int x26), (4, .float x21), (0, .ref (G.2.2.1 0)), (1, .float x6), (2, .int x7)]) hx hb dX8_worst_78 hl (k := 4) rfl (by rw [ex26]; rfl) (by decide) rfl (fun ls hl => ?_)
          refine lv_goto (tgt := 26) hx hb dX8_worst_81 (by decide) ?_
          exact ih x6 x7 x26 M19 _ _ ls hW hS (lv_sub hl [2, 3, 4, 0] rfl) hf
        · have hf := i_f hf c25
          refine lv_fload hx hb dX8_worst_73 (lv_at hl 0 rfl) ?_
          refine lv_fstore_n (lv' := [(1, .float x21), (4, .float x21), (0, .ref (G.2.2.1 0)), (2, .int x7), (3, .int x8)]) hx hb dX8_worst_75 rfl hl (by decide) rfl (fun ls hl => ?_)
          refine lv_iload_n hx hb dX8_worst_76 rfl (lv_at hl 4 rfl) ?_
          refine lv_istore_n (lv' := [(2, .int x8), (1, .float x21), (4, .float x21), (0, .ref (G.2.2.1 0)), (3, .int x8)]) hx hb dX8_worst_77 rfl hl (by decide) rfl (fun ls hl => ?_)
          obtain ⟨x27, ex27⟩ : ∃ y : Int32, y = x8 + (1 : Int32) := ⟨_, rfl⟩
          have hf := nm_o hf ex27
          refine lv_iinc (v := x27) (lv' := [(3, .int x27), (2, .int x8), (1, .float x21), (4, .float x21), (0, .ref (G.2.2.1 0))]) hx hb dX8_worst_78 hl (k := 4) rfl (by rw [ex27]; rfl) (by decide) rfl (fun ls hl => ?_)
          refine lv_goto (tgt := 26) hx hb dX8_worst_81 (by decide) ?_
          exact ih x21 x8 x27 M19 _ _ ls hW hS (lv_sub hl [4, 2, 1, 0] rfl) hf
  exact loop11 FU x4 (-9 : Int32) (0 : Int32) M2 _ _ ls hW hS (lv_sub hl [3, 2, 1, 0] rfl) hL
def f_X8_manners_L12  (K7 : Int32 → Int32 → Int32 → Mem → Option (Int32 × Mem)) (x3 : Int32) (x4 : Int32) (x5 : Int32) (M6 : Mem) : Option (Int32 × Mem) := (if (3 : Int32) ≤ x5 then (some (x4, M6)) else (nmq (si M6 12 10 x5) (fun (M15 : Mem) => bq2 (f_X6_solve 12 M15) (fun (x16 : Int32) (M17 : Mem) => (if x16 = (-9 : Int32) then (nmq (x5 + (1 : Int32)) (fun (x20 : Int32) => (K7 x3 x4 x20 M17))) else (if x3 = (-9 : Int32) then (nmq (x5 + (1 : Int32)) (fun (x22 : Int32) => (K7 x16 x5 x22 M17))) else (if x3 ≤ x16 then (nmq (x5 + (1 : Int32)) (fun (x24 : Int32) => (K7 x3 x4 x24 M17))) else (nmq (x5 + (1 : Int32)) (fun (x25 : Int32) => (K7 x16 x5 x25 M17))))))))))
def f_X8_manners (M : Mem) : Option (Int32 × Mem) := (bq1 (f_X8_beginTrial M) (fun (M1 : Mem) => (bq2 (lq4 f_X8_manners_L12 FU (-9 : Int32) (-9 : Int32) (0 : Int32) M1) (fun (x9 : Int32) (M10 : Mem) => some (x9, M10)))))
set_option maxHeartbeats 4000000 in
set_option maxRecDepth 100000 in
theorem ct_X8_manners (l : Launch) (G : GG)  {M : Mem} {r : Int32} {Mr : Mem}  (hf : f_X8_manners M = some (r, Mr)) : Met l yX8_manners (wsq yX8_manners cX8_manners 5 (some .int)) (rmq 6 150) (va_Pc [.ref (G.2.2.1 0)] (World G M)) (Qi G r Mr) 0 0 (adA G) := by
  refine x_start (plainFor_of_name (by decide)) (Nat.le_of_ble_eq_true rfl) ?_
  intro p e s m args below meth c hB hr hlk hW hS ls hl
  have hx := hB.x
  have hb := hB.b
  have hl : lv_has ls 5 [(0, .ref (G.2.2.1 0))] := hl
  unfold f_X8_manners at hf
  refine lv_aload_n hx hb dX8_manners_0 rfl (lv_at hl 0 rfl) ?_
  obtain ⟨M1, hg2, hf⟩ := b_o1 hf
  refine x_cv hB (x_rv hB hW hS (As := []) (rest := []) (ct_X8_beginTrial l G hg2) (cl_RX8_304 hB.2.2.2.2.1 ⟨Nat.le_of_ble_eq_true rfl, Nat.le_of_ble_eq_true rfl⟩) tl0 (by decide) rfl rfl hl.1 rfl (Nat.le_of_ble_eq_true rfl) dX8_manners_1 ⟨Nat.le_refl _, Nat.le_refl _⟩) hS (fun H locs hW hS => ?_)
  refine lv_bipush (v := (-9 : Int32)) hx hb dX8_manners_4 (by decide) ?_
  refine lv_istore_n (lv' := [(1, .int (-9 : Int32)), (0, .ref (G.2.2.1 0))]) hx hb dX8_manners_6 rfl hl (by decide) rfl (fun ls hl => ?_)
  refine lv_bipush (v := (-9 : Int32)) hx hb dX8_manners_7 (by decide) ?_
  refine lv_istore_n (lv' := [(2, .int (-9 : Int32)), (1, .int (-9 : Int32)), (0, .ref (G.2.2.1 0))]) hx hb dX8_manners_9 rfl hl (by decide) rfl (fun ls hl => ?_)
  refine lv_iconst (v := (0 : Int32)) hx hb dX8_manners_10 (by decide) ?_
  refine lv_istore_n (lv' := [(3, .int (0 : Int32)), (2, .int (-9 : Int32)), (1, .int (-9 : Int32)), (0, .ref (G.2.2.1 0))]) hx hb dX8_manners_11 rfl hl (by decide) rfl (fun ls hl => ?_)
  obtain ⟨y11, M12, hL, hf⟩ := b_o2 hf
  have main13 : ∀ (x9 : Int32) (M10 : Mem) (H : Heap) (locs : List Loc) (ls : Array Slot), Wd G M10 H → va_S (adA G) s.heap H locs → lv_has ls 5 [(2, .int x9)] → some (x9, M10) = some (y11, M12) → W p l e (rmq 6 150) s m args below meth c H locs 0 0 (MQ below (Qi G r Mr) args s 0 0 (adA G)) (F0 m 68 ls []) := by
    intro x9 M10 H locs ls hW hS hl hE
    cases hE
    refine lv_iload_n hx hb dX8_manners_68 rfl (lv_at hl 0 rfl) ?_
    exact e_i hB hW hS hr hlk (s_1 hf) (s_2 hf) dX8_manners_69
  have loop8 : ∀ (n : Nat) (x3 : Int32) (x4 : Int32) (x5 : Int32) (M6 : Mem) (H : Heap) (locs : List Loc) (ls : Array Slot), Wd G M6 H → va_S (adA G) s.heap H locs → lv_has ls 5 [(0, .ref (G.2.2.1 0)), (1, .int x3), (2, .int x4), (3, .int x5)] → lq4 f_X8_manners_L12 n x3 x4 x5 M6 = some (y11, M12) → W p l e (rmq 6 150) s m args below meth c H locs 0 0 (MQ below (Qi G r Mr) args s 0 0 (adA G)) (F0 m 12 ls []) := by
    intro n
    induction n with
    | zero => intro x3 x4 x5 M6 H locs ls hW hS hl hf; exact (l_z4 hf).elim
    | succ n ih =>
      intro x3 x4 x5 M6 H locs ls hW hS hl hf
      have hf := l_s4 hf
      generalize lq4 f_X8_manners_L12 n = K7 at ih hf
      unfold f_X8_manners_L12 at hf
      refine lv_iload_n hx hb dX8_manners_12 rfl (lv_at hl 3 rfl) ?_
      refine lv_iconst (v := (3 : Int32)) hx hb dX8_manners_13 (by decide) ?_
      refine lv_icmp_ge (tgt := 68) hx hb dX8_manners_14 (by decide) (fun c14 => ?_) (fun c14 => ?_)
      · have hf := i_t hf c14
        exact main13 x4 M6 _ _ ls hW hS (lv_sub hl [2] rfl) hf
      · have hf := i_f hf c14
        refine lv_aload_n hx hb dX8_manners_17 rfl (lv_at hl 0 rfl) ?_
        refine fg8_1 hB hW tl0 wd2_92 dX8_manners_18 ?_
        refine lv_iload_n hx hb dX8_manners_21 rfl (lv_at hl 3 rfl) ?_
        refine fp3_10 hB hW hS tl12 wd1_124 dX8_manners_22 (fun H locs M15 eM15 hW hS => ?_)
        have hf := nm_o hf eM15
        refine lv_aload_n hx hb dX8_manners_25 rfl (lv_at hl 0 rfl) ?_
        refine fg8_5 hB hW tl0 wd2_96 dX8_manners_26 ?_
        refine lv_aload_n hx hb dX8_manners_29 rfl (lv_at hl 0 rfl) ?_
        refine fg8_1 hB hW tl0 wd2_92 dX8_manners_30 ?_
        obtain ⟨x16, M17, hg18, hf⟩ := b_o2 hf
        refine x_ci hB (x_rv hB hW hS (As := [.ref (G.2.2.1 12)]) (rest := []) (ct_X6_solve l G tl12 hg18) (cl_RX8_315 hB.2.2.2.2.1 ⟨Nat.le_of_ble_eq_true rfl, Nat.le_of_ble_eq_true rfl⟩) tl126 (by decide) rfl rfl hl.1 rfl (Nat.le_of_ble_eq_true rfl) dX8_manners_33 ⟨Nat.le_refl _, Nat.le_refl _⟩) hS (fun H locs hW hS => ?_)
        refine lv_istore (lv' := [(4, .int x16), (0, .ref (G.2.2.1 0)), (1, .int x3), (2, .int x4), (3, .int x5)]) hx hb dX8_manners_36 hl (by decide) rfl (fun ls hl => ?_)
        refine lv_iload hx hb dX8_manners_38 (lv_at hl 0 rfl) ?_
        refine lv_bipush (v := (-9 : Int32)) hx hb dX8_manners_40 (by decide) ?_
        refine lv_icmp_eq (tgt := 62) hx hb dX8_manners_42 (by decide) (fun c19 => ?_) (fun c19 => ?_)
        · have hf := i_t hf c19
          obtain ⟨x20, ex20⟩ : ∃ y : Int32, y = x5 + (1 : Int32) := ⟨_, rfl⟩
          have hf := nm_o hf ex20
          refine lv_iinc (v := x20) (lv' := [(3, .int x20), (4, .int x16), (0, .ref (G.2.2.1 0)), (1, .int x3), (2, .int x4)]) hx hb dX8_manners_62 hl (k := 4) rfl (by rw [ex20]; rfl) (by decide) rfl (fun ls hl => ?_)
          refine lv_goto (tgt := 12) hx hb dX8_manners_65 (by decide) ?_
          exact ih x3 x4 x20 M17 _ _ ls hW hS (lv_sub hl [2, 3, 4, 0] rfl) hf
        · have hf := i_f hf c19
          refine lv_iload_n hx hb dX8_manners_45 rfl (lv_at hl 2 rfl) ?_
          refine lv_bipush (v := (-9 : Int32)) hx hb dX8_manners_46 (by decide) ?_
          refine lv_icmp_eq (tgt := 57) hx hb dX8_manners_48 (by decide) (fun c21 => ?_) (fun c21 => ?_)
          · have hf := i_t hf c21
            refine lv_iload hx hb dX8_manners_57 (lv_at hl 0 rfl) ?_
            refine lv_istore_n (lv' := [(1, .int x16), (4, .int x16), (0, .ref (G.2.2.1 0)), (2, .int x4), (3, .int x5)]) hx hb dX8_manners_59 rfl hl (by decide) rfl (fun ls hl => ?_)
            refine lv_iload_n hx hb dX8_manners_60 rfl (lv_at hl 4 rfl) ?_
            refine lv_istore_n (lv' := [(2, .int x5), (1, .int x16), (4, .int x16), (0, .ref (G.2.2.1 0)), (3, .int x5)]) hx hb dX8_manners_61 rfl hl (by decide) rfl (fun ls hl => ?_)
            obtain ⟨x22, ex22⟩ : ∃ y : Int32, y = x5 + (1 : Int32) := ⟨_, rfl⟩
            have hf := nm_o hf ex22
            refine lv_iinc (v := x22) (lv' := [(3, .int x22), (2, .int x5), (1, .int x16), (4, .int x16), (0, .ref (G.2.2.1 0))]) hx hb dX8_manners_62 hl (k := 4) rfl (by rw [ex22]; rfl) (by decide) rfl (fun ls hl => ?_)
            refine lv_goto (tgt := 12) hx hb dX8_manners_65 (by decide) ?_
            exact ih x16 x5 x22 M17 _ _ ls hW hS (lv_sub hl [4, 2, 1, 0] rfl) hf
          · have hf := i_f hf c21
            refine lv_iload hx hb dX8_manners_51 (lv_at hl 0 rfl) ?_
            refine lv_iload_n hx hb dX8_manners_53 rfl (lv_at hl 2 rfl) ?_
            refine lv_icmp_ge (tgt := 62) hx hb dX8_manners_54 (by decide) (fun c23 => ?_) (fun c23 => ?_)
            · have hf := i_t hf c23
              obtain ⟨x24, ex24⟩ : ∃ y : Int32, y = x5 + (1 : Int32) := ⟨_, rfl⟩
              have hf := nm_o hf ex24
              refine lv_iinc (v := x24) (lv' := [(3, .int x24), (4, .int x16), (0, .ref (G.2.2.1 0)), (1, .int x3), (2, .int x4)]) hx hb dX8_manners_62 hl (k := 4) rfl (by rw [ex24]; rfl) (by decide) rfl (fun ls hl => ?_)
              refine lv_goto (tgt := 12) hx hb dX8_manners_65 (by decide) ?_
              exact ih x3 x4 x24 M17 _ _ ls hW hS (lv_sub hl [2, 3, 4, 0] rfl) hf
            · have hf := i_f hf c23
              refine lv_iload hx hb dX8_manners_57 (lv_at hl 0 rfl) ?_
              refine lv_istore_n (lv' := [(1, .int x16), (4, .int x16), (0, .ref (G.2.2.1 0)), (2, .int x4), (3, .int x5)]) hx hb dX8_manners_59 rfl hl (by decide) rfl (fun ls hl => ?_)
              refine lv_iload_n hx hb dX8_manners_60 rfl (lv_at hl 4 rfl) ?_
              refine lv_istore_n (lv' := [(2, .int x5), (1, .int x16), (4, .int x16), (0, .ref (G.2.2.1 0)), (3, .int x5)]) hx hb dX8_manners_61 rfl hl (by decide) rfl (fun ls hl => ?_)
              obtain ⟨x25, ex25⟩ : ∃ y : Int32, y = x5 + (1 : Int32) := ⟨_, rfl⟩
              have hf := nm_o hf ex25
              refine lv_iinc (v := x25) (lv' := [(3, .int x25), (2, .int x5), (1, .int x16), (4, .int x16), (0, .ref (G.2.2.1 0))]) hx hb dX8_manners_62 hl (k := 4) rfl (by rw [ex25]; rfl) (by decide) rfl (fun ls hl => ?_)
              refine lv_goto (tgt := 12) hx hb dX8_manners_65 (by decide) ?_
              exact ih x16 x5 x25 M17 _ _ ls hW hS (lv_sub hl [4, 2, 1, 0] rfl) hf
  exact loop8 FU (-9 : Int32) (-9 : Int32) (0 : Int32) M1 _ _ ls hW hS (lv_sub hl [3, 2, 1, 0] rfl) hL
def f_X8_two (p1 : Int32) (p2 : Int32) (M : Mem) : Option (Int32 × Mem) := (jq (fun (M1 : Mem) => (bq2 (f_X8_refuse (-4 : Int32) M1) (fun (x4 : Int32) (M5 : Mem) => some (x4, M5)))) (fun (K3 : Mem → Option (Int32 × Mem)) => (if p1 < (10 : Int32) then (K3 M) else (if (10 : Int32) ≤ p2 then (jq (fun (M9 : Mem) => (bq2 (f_X8_refuse (-6 : Int32) M9) (fun (x12 : Int32) (M13 : Mem) => some (x12, M13)))) (fun (K11 : Mem → Option (Int32 × Mem)) => (if (60 : Int32) < p1 then (K11 M) else (if p2 ≤ (60 : Int32) then (bq1 (f_X8_beginTrial M) (fun (M17 : Mem) => bq2 (f_X8_linesWith p1 M17) (fun (x19 : Int32) (M20 : Mem) => bq1 (f_X6_leastTotal M20) (fun (x22 : UInt32) => bq2 (f_X8_linesWith p2 M20) (fun (x24 : Int32) (M25 : Mem) => bq1 (f_X6_leastTotal M25) (fun (x27 : UInt32) => bq1 (f_X8_isLess x22 x27) (fun (x29 : Int32) => (if x29 = 0 then (bq1 (f_X8_isLess x27 x22) (fun (x32 : Int32) => (if x32 = 0 then some ((-9 : Int32), M25) else some ((1 : Int32), M25)))) else some ((0 : Int32), M25))))))))) else (K11 M))))) else (K3 M)))))
set_option maxHeartbeats 4000000 in
set_option maxRecDepth 100000 in
theorem ct_X8_two (l : Launch) (G : GG) {p1 : Int32} {p2 : Int32} {M : Mem} {r : Int32} {Mr : Mem}  (hf : f_X8_two p1 p2 M = some (r, Mr)) : Met l yX8_two (wsq yX8_two cX8_two 5 (some .int)) (rmq 6 150) (va_Pc [.ref (G.2.2.1 0), .int p1, .int p2] (World G M)) (Qi G r Mr) 0 0 (adA G) := by
  refine x_start (plainFor_of_name (by decide)) (Nat.le_of_ble_eq_true rfl) ?_
  intro p e s m args below meth c hB hr hlk hW hS ls hl
  have hx := hB.x
  have hb := hB.b
  have hl : lv_has ls 5 [(0, .ref (G.2.2.1 0)), (1, .int p1), (2, .int p2)] := hl
  unfold f_X8_two at hf
  refine lv_iload_n hx hb dX8_two_0 rfl (lv_at hl 1 rfl) ?_
  refine lv_bipush (v := (10 : Int32)) hx hb dX8_two_1 (by decide) ?_
  obtain ⟨K3, eK3, hf⟩ := j_o hf
  have main2 : ∀ (M1 : Mem) (H : Heap) (locs : List Loc) (ls : Array Slot), Wd G M1 H → va_S (adA G) s.heap H locs → lv_has ls 5 [(0, .ref (G.2.2.1 0))] → K3 M1 = some (r, Mr) → W p l e (rmq 6 150) s m args below meth c H locs 0 0 (MQ below (Qi G r Mr) args s 0 0 (adA G)) (F0 m 12 ls []) := by
    intro M1 H locs ls hW hS hl hf
    subst eK3
    refine lv_aload_n hx hb dX8_two_12 rfl (lv_at hl 0 rfl) ?_
    refine lv_bipush (v := (-4 : Int32)) hx hb dX8_two_13 (by decide) ?_
    obtain ⟨x4, M5, hg6, hf⟩ := b_o2 hf
    refine x_ci hB (x_rv hB hW hS (As := [.int (-4 : Int32)]) (rest := []) (ct_X8_refuse l G hg6) (cl_RX8_50 hB.2.2.2.2.1 ⟨Nat.le_of_ble_eq_true rfl, Nat.le_of_ble_eq_true rfl⟩) tl0 (by decide) rfl rfl hl.1 rfl (Nat.le_of_ble_eq_true rfl) dX8_two_15 ⟨Nat.le_refl _, Nat.le_refl _⟩) hS (fun H locs hW hS => ?_)
    exact e_i hB hW hS hr hlk (s_1 hf) (s_2 hf) dX8_two_18
  refine lv_icmp_lt (tgt := 12) hx hb dX8_two_3 (by decide) (fun c7 => ?_) (fun c7 => ?_)
  · have hf := i_t hf c7
    exact main2 M _ _ ls hW hS (lv_sub hl [0] rfl) hf
  · have hf := i_f hf c7
    refine lv_iload_n hx hb dX8_two_6 rfl (lv_at hl 2 rfl) ?_
    refine lv_bipush (v := (10 : Int32)) hx hb dX8_two_7 (by decide) ?_
    refine lv_icmp_ge (tgt := 19) hx hb dX8_two_9 (by decide) (fun c8 => ?_) (fun c8 => ?_)
    · have hf := i_t hf c8
      refine lv_iload_n hx hb dX8_two_19 rfl (lv_at hl 1 rfl) ?_
      refine lv_bipush (v := (60 : Int32)) hx hb dX8_two_20 (by decide) ?_
      obtain ⟨K11, eK11, hf⟩ := j_o hf
      have main10 : ∀ (M9 : Mem) (H : Heap) (locs : List Loc) (ls : Array Slot), Wd G M9 H → va_S (adA G) s.heap H locs → lv_has ls 5 [(0, .ref (G.2.2.1 0))] → K11 M9 = some (r, Mr) → W p l e (rmq 6 150) s m args below meth c H locs 0 0 (MQ below (Qi G r Mr) args s 0 0 (adA G)) (F0 m 31 ls []) := by
        intro M9 H locs ls hW hS hl hf
        subst eK11
        refine lv_aload_n hx hb dX8_two_31 rfl (lv_at hl 0 rfl) ?_
        refine lv_bipush (v := (-6 : Int32)) hx hb dX8_two_32 (by decide) ?_
        obtain ⟨x12, M13, hg14, hf⟩ := b_o2 hf
        refine x_ci hB (x_rv hB hW hS (As := [.int (-6 : Int32)]) (rest := []) (ct_X8_refuse l G hg14) (cl_RX8_50 hB.2.2.2.2.1 ⟨Nat.le_of_ble_eq_true rfl, Nat.le_of_ble_eq_true rfl⟩) tl0 (by decide) rfl rfl hl.1 rfl (Nat.le_of_ble_eq_true rfl) dX8_two_34 ⟨Nat.le_refl _, Nat.le_refl _⟩) hS (fun H locs hW hS => ?_)
        exact e_i hB hW hS hr hlk (s_1 hf) (s_2 hf) dX8_two_37
      refine lv_icmp_gt (tgt := 31) hx hb dX8_two_22 (by decide) (fun c15 => ?_) (fun c15 => ?_)
      · have hf := i_t hf c15
        exact main10 M _ _ ls hW hS (lv_sub hl [0] rfl) hf
      · have hf := i_f hf c15
        refine lv_iload_n hx hb dX8_two_25 rfl (lv_at hl 2 rfl) ?_
        refine lv_bipush (v := (60 : Int32)) hx hb dX8_two_26 (by decide) ?_
        refine lv_icmp_le (tgt := 38) hx hb dX8_two_28 (by decide) (fun c16 => ?_) (fun c16 => ?_)
        · have hf := i_t hf c16
          refine lv_aload_n hx hb dX8_two_38 rfl (lv_at hl 0 rfl) ?_
          obtain ⟨M17, hg18, hf⟩ := b_o1 hf
          refine x_cv hB (x_rv hB hW hS (As := []) (rest := []) (ct_X8_beginTrial l G hg18) (cl_RX8_304 hB.2.2.2.2.1 ⟨Nat.le_of_ble_eq_true rfl, Nat.le_of_ble_eq_true rfl⟩) tl0 (by decide) rfl rfl hl.1 rfl (Nat.le_of_ble_eq_true rfl) dX8_two_39 ⟨Nat.le_refl _, Nat.le_refl _⟩) hS (fun H locs hW hS => ?_)
          refine lv_aload_n hx hb dX8_two_42 rfl (lv_at hl 0 rfl) ?_
          refine lv_iload_n hx hb dX8_two_43 rfl (lv_at hl 1 rfl) ?_
          obtain ⟨x19, M20, hg21, hf⟩ := b_o2 hf
          refine x_ci hB (x_rv hB hW hS (As := [.int p1]) (rest := []) (ct_X8_linesWith l G hg21) (cl_RX8_307 hB.2.2.2.2.1 ⟨Nat.le_of_ble_eq_true rfl, Nat.le_of_ble_eq_true rfl⟩) tl0 (by decide) rfl rfl hl.1 rfl (Nat.le_of_ble_eq_true rfl) dX8_two_44 ⟨Nat.le_refl _, Nat.le_refl _⟩) hS (fun H locs hW hS => ?_)
          refine lv_pop hx hb dX8_two_47 rfl ?_
          refine lv_aload_n hx hb dX8_two_48 rfl (lv_at hl 0 rfl) ?_
          refine fg8_5 hB hW tl0 wd2_96 dX8_two_49 ?_
          obtain ⟨x22, hg23, hf⟩ := b_o1 hf
          refine x_cf hB (x_rv hB hW hS (As := []) (rest := []) (ct_X6_leastTotal l G hg23) (cl_RX8_287 hB.2.2.2.2.1 ⟨Nat.le_of_ble_eq_true rfl, Nat.le_of_ble_eq_true rfl⟩) tl126 (by decide) rfl rfl hl.1 rfl (Nat.le_of_ble_eq_true rfl) dX8_two_52 ⟨Nat.le_refl _, Nat.le_refl _⟩) hS (fun H locs hW hS => ?_)
          refine lv_fstore_n (lv' := [(3, .float x22), (0, .ref (G.2.2.1 0)), (1, .int p1), (2, .int p2)]) hx hb dX8_two_55 rfl hl (by decide) rfl (fun ls hl => ?_)
          refine lv_aload_n hx hb dX8_two_56 rfl (lv_at hl 1 rfl) ?_
          refine lv_iload_n hx hb dX8_two_57 rfl (lv_at hl 3 rfl) ?_
          obtain ⟨x24, M25, hg26, hf⟩ := b_o2 hf
          refine x_ci hB (x_rv hB hW hS (As := [.int p2]) (rest := []) (ct_X8_linesWith l G hg26) (cl_RX8_307 hB.2.2.2.2.1 ⟨Nat.le_of_ble_eq_true rfl, Nat.le_of_ble_eq_true rfl⟩) tl0 (by decide) rfl rfl hl.1 rfl (Nat.le_of_ble_eq_true rfl) dX8_two_58 ⟨Nat.le_refl _, Nat.le_refl _⟩) hS (fun H locs hW hS => ?_)
          refine lv_pop hx hb dX8_two_61 rfl ?_
          refine lv_aload_n hx hb dX8_two_62 rfl (lv_at hl 1 rfl) ?_
          refine fg8_5 hB hW tl0 wd2_96 dX8_two_63 ?_
          obtain ⟨x27, hg28, hf⟩ := b_o1 hf
          refine x_cf hB (x_rv hB hW hS (As := []) (rest := []) (ct_X6_leastTotal l G hg28) (cl_RX8_287 hB.2.2.2.2.1 ⟨Nat.le_of_ble_eq_true rfl, Nat.le_of_ble_eq_true rfl⟩) tl126 (by decide) rfl rfl hl.1 rfl (Nat.le_of_ble_eq_true rfl) dX8_two_66 ⟨Nat.le_refl _, Nat.le_refl _⟩) hS (fun H locs hW hS => ?_)
          refine lv_fstore (lv' := [(4, .float x27), (3, .float x22), (0, .ref (G.2.2.1 0)), (1, .int p1), (2, .int p2)]) hx hb dX8_two_69 hl (by decide) rfl (fun ls hl => ?_)
          refine lv_fload_n hx hb dX8_two_71 rfl (lv_at hl 1 rfl) ?_
          refine lv_fload hx hb dX8_two_72 (lv_at hl 0 rfl) ?_
          obtain ⟨x29, hg30, hf⟩ := b_o1 hf
          refine x_ci hB (x_rs hB hW hS (As := [.float x22, .float x27]) (rest := []) (ct_X8_isLess l G hg30) (cl_RX8_311 hB.2.2.2.2.1 ⟨Nat.le_of_ble_eq_true rfl, Nat.le_of_ble_eq_true rfl⟩) rfl hl.1 rfl (Nat.le_of_ble_eq_true rfl) dX8_two_74 ⟨Nat.le_refl _, Nat.le_refl _⟩) hS (fun H locs hW hS => ?_)
          refine lv_if_eq (tgt := 82) hx hb dX8_two_77 (by decide) (fun c31 => ?_) (fun c31 => ?_)
          · have hf := i_t hf c31
            refine lv_fload hx hb dX8_two_82 (lv_at hl 0 rfl) ?_
            refine lv_fload_n hx hb dX8_two_84 rfl (lv_at hl 1 rfl) ?_
            obtain ⟨x32, hg33, hf⟩ := b_o1 hf
            refine x_ci hB (x_rs hB hW hS (As := [.float x27, .float x22]) (rest := []) (ct_X8_isLess l G hg33) (cl_RX8_311 hB.2.2.2.2.1 ⟨Nat.le_of_ble_eq_true rfl, Nat.le_of_ble_eq_true rfl⟩) rfl hl.1 rfl (Nat.le_of_ble_eq_true rfl) dX8_two_85 ⟨Nat.le_refl _, Nat.le_refl _⟩) hS (fun H locs hW hS => ?_)
            refine lv_if_eq (tgt := 95) hx hb dX8_two_88 (by decide) (fun c34 => ?_) (fun c34 => ?_)
            · have hf := i_t hf c34
              refine lv_bipush (v := (-9 : Int32)) hx hb dX8_two_95 (by decide) ?_
              exact e_i hB hW hS hr hlk (s_1 hf) (s_2 hf) dX8_two_97
            · have hf := i_f hf c34
              refine lv_iconst (v := (1 : Int32)) hx hb dX8_two_91 (by decide) ?_
              refine lv_goto (tgt := 97) hx hb dX8_two_92 (by decide) ?_
              exact e_i hB hW hS hr hlk (s_1 hf) (s_2 hf) dX8_two_97
          · have hf := i_f hf c31
            refine lv_iconst (v := (0 : Int32)) hx hb dX8_two_80 (by decide) ?_
            exact e_i hB hW hS hr hlk (s_1 hf) (s_2 hf) dX8_two_81
        · have hf := i_f hf c16
          exact main10 M _ _ ls hW hS (lv_sub hl [0] rfl) hf
    · have hf := i_f hf c8
      exact main2 M _ _ ls hW hS (lv_sub hl [0] rfl) hf
def f_X8_refuseLong (p1 : Int32) (M : Mem) : Option (Int64 × Mem) := (bq2 (f_X8_refuse p1 M) (fun (x1 : Int32) (M2 : Mem) => some (((4000000000000000000 : Int64) - (x1 : Int32).toInt64), M2)))
set_option maxHeartbeats 4000000 in
set_option maxRecDepth 100000 in
theorem ct_X8_refuseLong (l : Launch) (G : GG) {p1 : Int32} {M : Mem} {r : Int64} {Mr : Mem}  (hf : f_X8_refuseLong p1 M = some (r, Mr)) : Met l yX8_refuseLong (wsq yX8_refuseLong cX8_refuseLong 2 (some .long)) (rmq 2 43) (va_Pc [.ref (G.2.2.1 0), .int p1] (World G M)) (Ql G r Mr) 0 0 (adA G) := by
  refine x_start (plainFor_of_name (by decide)) (Nat.le_of_ble_eq_true rfl) ?_
  intro p e s m args below meth c hB hr hlk hW hS ls hl
  have hx := hB.x
  have hb := hB.b
  have hl : lv_has ls 2 [(0, .ref (G.2.2.1 0)), (1, .int p1)] := hl
  unfold f_X8_refuseLong at hf
  refine lv_ldc2 (v := (4000000000000000000 : Int64)) hx hb hB.ow (hB.w wd5_4) dX8_refuseLong_0 ?_
  refine lv_aload_n hx hb dX8_refuseLong_3 rfl (lv_at hl 0 rfl) ?_
  refine lv_iload_n hx hb dX8_refuseLong_4 rfl (lv_at hl 1 rfl) ?_
  obtain ⟨x1, M2, hg3, hf⟩ := b_o2 hf
  refine x_ci hB (x_rv hB hW hS (As := [.int p1]) (rest := [.long (4000000000000000000 : Int64)]) (ct_X8_refuse l G hg3) (cl_RX8_50 hB.2.2.2.2.1 ⟨Nat.le_of_ble_eq_true rfl, Nat.le_of_ble_eq_true rfl⟩) tl0 (by decide) rfl rfl hl.1 rfl (Nat.le_of_ble_eq_true rfl) dX8_refuseLong_5 ⟨Nat.le_refl _, Nat.le_refl _⟩) hS (fun H locs hW hS => ?_)
  refine lv_i2l hx hb dX8_refuseLong_8 rfl ?_
  refine lv_lsub hx hb dX8_refuseLong_9 ?_
  exact e_l hB hW hS hr hlk (s_1 hf) (s_2 hf) dX8_refuseLong_10
def f_X8_power_L5 (p1 : Int64) (p2 : Int32) (K3 : Int64 → Int32 → Option (Int64)) (x1 : Int64) (x2 : Int32) : Option (Int64) := (if p2 ≤ x2 then (some (x1)) else (nmq ((x1 * p1)) (fun (x9 : Int64) => nmq (x2 + (1 : Int32)) (fun (x10 : Int32) => (K3 x9 x10)))))
def f_X8_power (p1 : Int64) (p2 : Int32) : Option Int64 := (bq1 (lq2 (f_X8_power_L5 p1 p2) FU (1 : Int64) (0 : Int32)) (fun (x5 : Int64) => some x5))
set_option maxHeartbeats 4000000 in
set_option maxRecDepth 100000 in
theorem ct_X8_power (l : Launch) (G : GG) {p1 : Int64} {p2 : Int32} {M : Mem} {r : Int64}  (hf : f_X8_power p1 p2 = some r) : Met l yX8_power (wsq yX8_power cX8_power 6 (some .long)) (rmq 0 0) (va_Pc [.long p1, .int p2] (World G M)) (Ql G r M) 0 0 (adA G) := by
  refine x_start (plainFor_of_name (by decide)) (Nat.le_of_ble_eq_true rfl) ?_
  intro p e s m args below meth c hB hr hlk hW hS ls hl
  have hx := hB.x
  have hb := hB.b
  have hl : lv_has ls 6 [(0, .long p1), (2, .int p2)] := hl
  unfold f_X8_power at hf
  refine lv_lconst (v := (1 : Int64)) hx hb dX8_power_0 (by decide) ?_
  refine lv_lstore_n (lv' := [(3, .long (1 : Int64)), (0, .long p1), (2, .int p2)]) hx hb dX8_power_1 rfl hl (by decide) rfl (fun ls hl => ?_)
  refine lv_iconst (v := (0 : Int32)) hx hb dX8_power_2 (by decide) ?_
  refine lv_istore (lv' := [(5, .int (0 : Int32)), (3, .long (1 : Int64)), (0, .long p1), (2, .int p2)]) hx hb dX8_power_3 hl (by decide) rfl (fun ls hl => ?_)
  obtain ⟨y6, hL, hf⟩ := b_o1 hf
  have main7 : ∀ (x5 : Int64) (H : Heap) (locs : List Loc) (ls : Array Slot), Wd G M H → va_S (adA G) s.heap H locs → lv_has ls 6 [(3, .long x5)] → some (x5) = some (y6) → W p l e (rmq 0 0) s m args below meth c H locs 0 0 (MQ below (Ql G r M) args s 0 0 (adA G)) (F0 m 21 ls []) := by
    intro x5 H locs ls hW hS hl hE
    cases hE
    refine lv_lload_n hx hb dX8_power_21 rfl (lv_at hl 0 rfl) ?_
    exact e_l hB hW hS hr hlk (Option.some.inj hf) rfl dX8_power_22
  have loop4 : ∀ (n : Nat) (x1 : Int64) (x2 : Int32) (H : Heap) (locs : List Loc) (ls : Array Slot), Wd G M H → va_S (adA G) s.heap H locs → lv_has ls 6 [(0, .long p1), (2, .int p2), (3, .long x1), (5, .int x2)] → lq2 (f_X8_power_L5 p1 p2) n x1 x2 = some (y6) → W p l e (rmq 0 0) s m args below meth c H locs 0 0 (MQ below (Ql G r M) args s 0 0 (adA G)) (F0 m 5 ls []) := by
    intro n
    induction n with
    | zero => intro x1 x2 H locs ls hW hS hl hf; exact (l_z2 hf).elim
    | succ n ih =>
      intro x1 x2 H locs ls hW hS hl hf
      have hf := l_s2 hf
      generalize lq2 (f_X8_power_L5 p1 p2) n = K3 at ih hf
      unfold f_X8_power_L5 at hf
      refine lv_iload hx hb dX8_power_5 (lv_at hl 3 rfl) ?_
      refine lv_iload_n hx hb dX8_power_7 rfl (lv_at hl 1 rfl) ?_
      refine lv_icmp_ge (tgt := 21) hx hb dX8_power_8 (by decide) (fun c8 => ?_) (fun c8 => ?_)
      · have hf := i_t hf c8
        exact main7 x1 _ _ ls hW hS (lv_sub hl [2] rfl) hf
      · have hf := i_f hf c8
        refine lv_lload_n hx hb dX8_power_11 rfl (lv_at hl 2 rfl) ?_
        refine lv_lload_n hx hb dX8_power_12 rfl (lv_at hl 0 rfl) ?_
        refine lv_lmul hx hb dX8_power_13 ?_
        refine lv_topl (fun x9 ex9 => ?_)
        have hf := nm_o hf ex9
        refine lv_lstore_n (lv' := [(3, .long x9), (0, .long p1), (2, .int p2), (5, .int x2)]) hx hb dX8_power_14 rfl hl (by decide) rfl (fun ls hl => ?_)
        obtain ⟨x10, ex10⟩ : ∃ y : Int32, y = x2 + (1 : Int32) := ⟨_, rfl⟩
        have hf := nm_o hf ex10
        refine lv_iinc (v := x10) (lv' := [(5, .int x10), (3, .long x9), (0, .long p1), (2, .int p2)]) hx hb dX8_power_15 hl (k := 3) rfl (by rw [ex10]; rfl) (by decide) rfl (fun ls hl => ?_)
        refine lv_goto (tgt := 5) hx hb dX8_power_18 (by decide) ?_
        exact ih x9 x10 _ _ ls hW hS (lv_sub hl [2, 3, 1, 0] rfl) hf
  exact loop4 FU (1 : Int64) (0 : Int32) _ _ ls hW hS (lv_sub hl [2, 3, 1, 0] rfl) hL
def f_X8_commonDivisor_L9  (K4 : Int64 → Int64 → Int32 → Option (Int64)) (x1 : Int64) (x2 : Int64) (x3 : Int32) : Option (Int64) := (if (200 : Int32) ≤ x3 then (some (x1)) else (if (lcm x2 (0 : Int64)) ≤ 0 then (some (x1)) else (gq (¬ x2 = 0) (nmq ((lrm x1 x2)) (fun (x12 : Int64) => nmq (x3 + (1 : Int32)) (fun (x13 : Int32) => (K4 x2 x12 x13)))))))
def f_X8_commonDivisor (p1 : Int64) (p2 : Int64) : Option Int64 := (bq1 (lq3 f_X8_commonDivisor_L9 FU p1 p2 (0 : Int32)) (fun (x6 : Int64) => some x6))
set_option maxHeartbeats 4000000 in
set_option maxRecDepth 100000 in
theorem ct_X8_commonDivisor (l : Launch) (G : GG) {p1 : Int64} {p2 : Int64} {M : Mem} {r : Int64}  (hf : f_X8_commonDivisor p1 p2 = some r) : Met l yX8_commonDivisor (wsq yX8_commonDivisor cX8_commonDivisor 11 (some .long)) (rmq 0 0) (va_Pc [.long p1, .long p2] (World G M)) (Ql G r M) 0 0 (adA G) := by
  refine x_start (plainFor_of_name (by decide)) (Nat.le_of_ble_eq_true rfl) ?_
  intro p e s m args below meth c hB hr hlk hW hS ls hl
  have hx := hB.x
  have hb := hB.b
  have hl : lv_has ls 11 [(0, .long p1), (2, .long p2)] := hl
  unfold f_X8_commonDivisor at hf
  refine lv_lload_n hx hb dX8_commonDivisor_0 rfl (lv_at hl 0 rfl) ?_
  refine lv_lstore (lv' := [(4, .long p1), (0, .long p1), (2, .long p2)]) hx hb dX8_commonDivisor_1 hl (by decide) rfl (fun ls hl => ?_)
  refine lv_lload_n hx hb dX8_commonDivisor_3 rfl (lv_at hl 2 rfl) ?_
  refine lv_lstore (lv' := [(6, .long p2), (4, .long p1), (0, .long p1), (2, .long p2)]) hx hb dX8_commonDivisor_4 hl (by decide) rfl (fun ls hl => ?_)
  refine lv_iconst (v := (0 : Int32)) hx hb dX8_commonDivisor_6 (by decide) ?_
  refine lv_istore (lv' := [(8, .int (0 : Int32)), (6, .long p2), (4, .long p1), (0, .long p1), (2, .long p2)]) hx hb dX8_commonDivisor_7 hl (by decide) rfl (fun ls hl => ?_)
  obtain ⟨y7, hL, hf⟩ := b_o1 hf
  have main8 : ∀ (x6 : Int64) (H : Heap) (locs : List Loc) (ls : Array Slot), Wd G M H → va_S (adA G) s.heap H locs → lv_has ls 11 [(4, .long x6)] → some (x6) = some (y7) → W p l e (rmq 0 0) s m args below meth c H locs 0 0 (MQ below (Ql G r M) args s 0 0 (adA G)) (F0 m 45 ls []) := by
    intro x6 H locs ls hW hS hl hE
    cases hE
    refine lv_lload hx hb dX8_commonDivisor_45 (lv_at hl 0 rfl) ?_
    exact e_l hB hW hS hr hlk (Option.some.inj hf) rfl dX8_commonDivisor_47
  have loop5 : ∀ (n : Nat) (x1 : Int64) (x2 : Int64) (x3 : Int32) (H : Heap) (locs : List Loc) (ls : Array Slot), Wd G M H → va_S (adA G) s.heap H locs → lv_has ls 11 [(4, .long x1), (6, .long x2), (8, .int x3)] → lq3 f_X8_commonDivisor_L9 n x1 x2 x3 = some (y7) → W p l e (rmq 0 0) s m args below meth c H locs 0 0 (MQ below (Ql G r M) args s 0 0 (adA G)) (F0 m 9 ls []) := by
    intro n
    induction n with
    | zero => intro x1 x2 x3 H locs ls hW hS hl hf; exact (l_z3 hf).elim
    | succ n ih =>
      intro x1 x2 x3 H locs ls hW hS hl hf
      have hf := l_s3 hf
      generalize lq3 f_X8_commonDivisor_L9 n = K4 at ih hf
      unfold f_X8_commonDivisor_L9 at hf
      refine lv_iload hx hb dX8_commonDivisor_9 (lv_at hl 2 rfl) ?_
      refine lv_sipush (v := (200 : Int32)) hx hb dX8_commonDivisor_11 (by decide) ?_
      refine lv_icmp_ge (tgt := 45) hx hb dX8_commonDivisor_14 (by decide) (fun c9 => ?_) (fun c9 => ?_)
      · have hf := i_t hf c9
        exact main8 x1 _ _ ls hW hS (lv_sub hl [0] rfl) hf
      · have hf := i_f hf c9
        refine lv_lload hx hb dX8_commonDivisor_17 (lv_at hl 1 rfl) ?_
        refine lv_lconst (v := (0 : Int64)) hx hb dX8_commonDivisor_19 (by decide) ?_
        refine W.lcmp hx hb dX8_commonDivisor_20 ?_
        refine lv_if_le (tgt := 45) hx hb dX8_commonDivisor_21 (by decide) (fun c10 => ?_) (fun c10 => ?_)
        · have hf := i_t hf c10
          exact main8 x1 _ _ ls hW hS (lv_sub hl [0] rfl) hf
        · have hf := i_f hf c10
          refine lv_lload hx hb dX8_commonDivisor_24 (lv_at hl 0 rfl) ?_
          refine lv_lload hx hb dX8_commonDivisor_26 (lv_at hl 1 rfl) ?_
          obtain ⟨h11, hf⟩ := g_o hf
          refine lv_lrem hx hb dX8_commonDivisor_28 h11 ?_
          refine lv_topl (fun x12 ex12 => ?_)
          have hf := nm_o hf ex12
          refine lv_lstore (lv' := [(9, .long x12), (4, .long x1), (6, .long x2), (8, .int x3)]) hx hb dX8_commonDivisor_29 hl (by decide) rfl (fun ls hl => ?_)
          refine lv_lload hx hb dX8_commonDivisor_31 (lv_at hl 2 rfl) ?_
          refine lv_lstore (lv' := [(4, .long x2), (9, .long x12), (6, .long x2), (8, .int x3)]) hx hb dX8_commonDivisor_33 hl (by decide) rfl (fun ls hl => ?_)
          refine lv_lload hx hb dX8_commonDivisor_35 (lv_at hl 1 rfl) ?_
          refine lv_lstore (lv' := [(6, .long x12), (4, .long x2), (9, .long x12), (8, .int x3)]) hx hb dX8_commonDivisor_37 hl (by decide) rfl (fun ls hl => ?_)
          obtain ⟨x13, ex13⟩ : ∃ y : Int32, y = x3 + (1 : Int32) := ⟨_, rfl⟩
          have hf := nm_o hf ex13
          refine lv_iinc (v := x13) (lv' := [(8, .int x13), (6, .long x12), (4, .long x2), (9, .long x12)]) hx hb dX8_commonDivisor_39 hl (k := 3) rfl (by rw [ex13]; rfl) (by decide) rfl (fun ls hl => ?_)
          refine lv_goto (tgt := 9) hx hb dX8_commonDivisor_42 (by decide) ?_
          exact ih x2 x12 x13 _ _ ls hW hS (lv_sub hl [2, 1, 0] rfl) hf
  exact loop5 FU p1 p2 (0 : Int32) _ _ ls hW hS (lv_sub hl [2, 1, 0] rfl) hL
theorem cl_RX8_393 {R : Room} {s : State} {args : Array Value} (ht : ∀ w ∈ lw_all, w.before args s = true) (hR : 0 + 1 ≤ R.frames ∧ 8 + (11 + 11) + 0 ≤ R.locals) : CallB R s args RX8 393 yX8_commonDivisor cX8_commonDivisor 11 (some .long) (wsq yX8_commonDivisor cX8_commonDivisor 11 (some .long)) (rmq 0 0) 0 0 2 ∧ (Cond.static yX8_commonDivisor).before args s = true := va_cwS 2 ht (goodS wd5_11 wd5_12 wd1_1 wd5_13) rfl rfl rfl (by decide +kernel) hR
def f_X8_partOfFraction (p1 : Int64) (p2 : Int64) (p3 : Int32) : Option Int64 := (jq (fun (_ : Unit) => (if p3 = 0 then some (0 : Int64) else some (1 : Int64))) (fun (K2 : Unit → Option Int64) => (if (lcm p1 (0 : Int64)) ≤ 0 then (K2 ()) else (if 0 < (lcm p2 (0 : Int64)) then (bq1 (f_X8_commonDivisor p1 p2) (fun (x6 : Int64) => (nmq ((if p3 = 0 then (p1) else (p2))) (fun (x8 : Int64) => (if (lcm x6 (0 : Int64)) ≤ 0 then some x8 else (gq (¬ x6 = 0) (some (x8 / x6)))))))) else (K2 ())))))
set_option maxHeartbeats 4000000 in
set_option maxRecDepth 100000 in
theorem ct_X8_partOfFraction (l : Launch) (G : GG) {p1 : Int64} {p2 : Int64} {p3 : Int32} {M : Mem} {r : Int64}  (hf : f_X8_partOfFraction p1 p2 p3 = some r) : Met l yX8_partOfFraction (wsq yX8_partOfFraction cX8_partOfFraction 9 (some .long)) (rmq 1 30) (va_Pc [.long p1, .long p2, .int p3] (World G M)) (Ql G r M) 0 0 (adA G) := by
  refine x_start (plainFor_of_name (by decide)) (Nat.le_of_ble_eq_true rfl) ?_
  intro p e s m args below meth c hB hr hlk hW hS ls hl
  have hx := hB.x
  have hb := hB.b
  have hl : lv_has ls 9 [(0, .long p1), (2, .long p2), (4, .int p3)] := hl
  unfold f_X8_partOfFraction at hf
  refine lv_lload_n hx hb dX8_partOfFraction_0 rfl (lv_at hl 0 rfl) ?_
  refine lv_lconst (v := (0 : Int64)) hx hb dX8_partOfFraction_1 (by decide) ?_
  refine W.lcmp hx hb dX8_partOfFraction_2 ?_
  obtain ⟨K2, eK2, hf⟩ := j_o hf
  have main1 : ∀ (_ : Unit) (H : Heap) (locs : List Loc) (ls : Array Slot), Wd G M H → va_S (adA G) s.heap H locs → lv_has ls 9 [(4, .int p3)] → K2 () = some r → W p l e (rmq 1 30) s m args below meth c H locs 0 0 (MQ below (Ql G r M) args s 0 0 (adA G)) (F0 m 12 ls []) := by
    intro _ H locs ls hW hS hl hf
    subst eK2
    refine lv_iload hx hb dX8_partOfFraction_12 (lv_at hl 0 rfl) ?_
    refine lv_if_ne (tgt := 21) hx hb dX8_partOfFraction_14 (by decide) (fun c3 => ?_) (fun c3 => ?_)
    · have hf := i_f hf c3
      refine lv_lconst (v := (1 : Int64)) hx hb dX8_partOfFraction_21 (by decide) ?_
      exact e_l hB hW hS hr hlk (Option.some.inj hf) rfl dX8_partOfFraction_22
    · have hf := i_t hf c3
      refine lv_lconst (v := (0 : Int64)) hx hb dX8_partOfFraction_17 (by decide) ?_
      refine lv_goto (tgt := 22) hx hb dX8_partOfFraction_18 (by decide) ?_
      exact e_l hB hW hS hr hlk (Option.some.inj hf) rfl dX8_partOfFraction_22
  refine lv_if_le (tgt := 12) hx hb dX8_partOfFraction_3 (by decide) (fun c4 => ?_) (fun c4 => ?_)
  · have hf := i_t hf c4
    exact main1 () _ _ ls hW hS (lv_sub hl [2] rfl) hf
  · have hf := i_f hf c4
    refine lv_lload_n hx hb dX8_partOfFraction_6 rfl (lv_at hl 1 rfl) ?_
    refine lv_lconst (v := (0 : Int64)) hx hb dX8_partOfFraction_7 (by decide) ?_
    refine W.lcmp hx hb dX8_partOfFraction_8 ?_
    refine lv_if_gt (tgt := 23) hx hb dX8_partOfFraction_9 (by decide) (fun c5 => ?_) (fun c5 => ?_)
    · have hf := i_t hf c5
      refine lv_lload_n hx hb dX8_partOfFraction_23 rfl (lv_at hl 0 rfl) ?_
      refine lv_lload_n hx hb dX8_partOfFraction_24 rfl (lv_at hl 1 rfl) ?_
      obtain ⟨x6, hg7, hf⟩ := b_o1 hf
      refine x_cl hB (x_rs hB hW hS (As := [.long p1, .long p2]) (rest := []) (ct_X8_commonDivisor l G hg7) (cl_RX8_393 hB.2.2.2.2.1 ⟨Nat.le_of_ble_eq_true rfl, Nat.le_of_ble_eq_true rfl⟩) rfl hl.1 rfl (Nat.le_of_ble_eq_true rfl) dX8_partOfFraction_25 ⟨Nat.le_refl _, Nat.le_refl _⟩) hS (fun H locs hW hS => ?_)
      refine lv_lstore (lv' := [(5, .long x6), (0, .long p1), (2, .long p2), (4, .int p3)]) hx hb dX8_partOfFraction_28 hl (by decide) rfl (fun ls hl => ?_)
      refine lv_iload hx hb dX8_partOfFraction_30 (lv_at hl 3 rfl) ?_
      obtain ⟨y12, evy12⟩ : ∃ z : Int64, (if p3 = 0 then (p1) else (p2)) = z := ⟨_, rfl⟩
      have hf := nm_o hf evy12.symm
      have main9 : ∀ (x8 : Int64) (H : Heap) (locs : List Loc) (ls : Array Slot), Wd G M H → va_S (adA G) s.heap H locs → lv_has ls 9 [(5, .long x6)] → x8 = y12 → W p l e (rmq 1 30) s m args below meth c H locs 0 0 (MQ below (Ql G r M) args s 0 0 (adA G)) (F0 m 40 ls [.long x8]) := by
        intro x8 H locs ls hW hS hl hE
        have hE := hE.symm
        subst hE
        refine lv_lstore (lv' := [(7, .long y12), (5, .long x6)]) hx hb dX8_partOfFraction_40 hl (by decide) rfl (fun ls hl => ?_)
        refine lv_lload hx hb dX8_partOfFraction_42 (lv_at hl 1 rfl) ?_
        refine lv_lconst (v := (0 : Int64)) hx hb dX8_partOfFraction_44 (by decide) ?_
        refine W.lcmp hx hb dX8_partOfFraction_45 ?_
        refine lv_if_le (tgt := 57) hx hb dX8_partOfFraction_46 (by decide) (fun c10 => ?_) (fun c10 => ?_)
        · have hf := i_t hf c10
          refine lv_lload hx hb dX8_partOfFraction_57 (lv_at hl 0 rfl) ?_
          exact e_l hB hW hS hr hlk (Option.some.inj hf) rfl dX8_partOfFraction_59
        · have hf := i_f hf c10
          refine lv_lload hx hb dX8_partOfFraction_49 (lv_at hl 0 rfl) ?_
          refine lv_lload hx hb dX8_partOfFraction_51 (lv_at hl 1 rfl) ?_
          obtain ⟨h11, hf⟩ := g_o hf
          refine lv_ldiv hx hb dX8_partOfFraction_53 h11 ?_
          refine lv_goto (tgt := 59) hx hb dX8_partOfFraction_54 (by decide) ?_
          exact e_l hB hW hS hr hlk (Option.some.inj hf) rfl dX8_partOfFraction_59
      have hf := evy12
      refine lv_if_ne (tgt := 39) hx hb dX8_partOfFraction_32 (by decide) (fun c13 => ?_) (fun c13 => ?_)
      · have hf := i_f hf c13
        refine lv_lload_n hx hb dX8_partOfFraction_39 rfl (lv_at hl 2 rfl) ?_
        exact main9 p2 _ _ ls hW hS (lv_sub hl [0] rfl) hf
      · have hf := i_t hf c13
        refine lv_lload_n hx hb dX8_partOfFraction_35 rfl (lv_at hl 1 rfl) ?_
        refine lv_goto (tgt := 40) hx hb dX8_partOfFraction_36 (by decide) ?_
        exact main9 p1 _ _ ls hW hS (lv_sub hl [0] rfl) hf
    · have hf := i_f hf c5
      exact main1 () _ _ ls hW hS (lv_sub hl [2] rfl) hf
theorem cl_RX8_318 {R : Room} {s : State} {args : Array Value} (ht : ∀ w ∈ lw_all, w.before args s = true) (hR : 2 + 1 ≤ R.frames ∧ 8 + (2 + 11) + 43 ≤ R.locals) : CallW R s args RX8 RX8 318 yX8_refuseLong cX8_refuseLong 2 (some .long) (wsq yX8_refuseLong cX8_refuseLong 2 (some .long)) (rmq 2 43) 0 0 1 := cwV 1 ht (goodV wd5_0 wd5_2 wsel_32 wd1_1 wd5_3) rfl rfl rfl (by decide +kernel) hR
theorem cl_RX8_327 {R : Room} {s : State} {args : Array Value} (ht : ∀ w ∈ lw_all, w.before args s = true) (hR : 0 + 1 ≤ R.frames ∧ 8 + (6 + 11) + 0 ≤ R.locals) : CallB R s args RX8 327 yX8_power cX8_power 6 (some .long) (wsq yX8_power cX8_power 6 (some .long)) (rmq 0 0) 0 0 2 ∧ (Cond.static yX8_power).before args s = true := va_cwS 2 ht (goodS wd5_5 wd5_6 wd1_1 wd5_7) rfl rfl rfl (by decide +kernel) hR
theorem cl_RX8_331 {R : Room} {s : State} {args : Array Value} (ht : ∀ w ∈ lw_all, w.before args s = true) (hR : 1 + 1 ≤ R.frames ∧ 8 + (9 + 11) + 30 ≤ R.locals) : CallB R s args RX8 331 yX8_partOfFraction cX8_partOfFraction 9 (some .long) (wsq yX8_partOfFraction cX8_partOfFraction 9 (some .long)) (rmq 1 30) 0 0 3 ∧ (Cond.static yX8_partOfFraction).before args s = true := va_cwS 3 ht (goodS wd5_8 wd5_9 wd1_1 wd5_10) rfl rfl rfl (by decide +kernel) hR
def f_X8_lost_L73 (p1 : Int32) (p2 : Int32) (x20 : Int32) (K25 : Int64 → Int32 → Mem → Option (Int64 × Mem)) (x22 : Int64) (x23 : Int32) (M24 : Mem) : Option (Int64 × Mem) := (if (ishl_ (1 : Int32) x20) ≤ x23 then (some (x22, M24)) else (bq2 (f_X6_set 1 x23 M24) (fun (x37 : Int32) (M38 : Mem) => (if x37 = (-9 : Int32) then (nmq (x23 + (1 : Int32)) (fun (x41 : Int32) => (K25 x22 x41 M38))) else (if p1 < x37 then (nmq (x23 + (1 : Int32)) (fun (x43 : Int32) => (K25 x22 x43 M38))) else (bq1 (f_J6_bitCount_0f7a4 x23) (fun (x44 : Int32) => bq1 (f_X8_power ((p2 - (1 : Int32))).toInt64 (x20 - x44)) (fun (x46 : Int64) => nmq ((x22 + x46)) (fun (x48 : Int64) => (nmq (x23 + (1 : Int32)) (fun (x49 : Int32) => (K25 x48 x49 M38))))))))))))
def f_X8_lost (p1 : Int32) (p2 : Int32) (p3 : Int32) (M : Mem) : Option (Int64 × Mem) := (jq (fun (M1 : Mem) => (bq2 (f_X8_refuseLong (-4 : Int32) M1) (fun (x4 : Int64) (M5 : Mem) => some (x4, M5)))) (fun (K3 : Mem → Option (Int64 × Mem)) => (if p1 < 0 then (K3 M) else (if (2 : Int32) ≤ p2 then (jq (fun (M9 : Mem) => (bq2 (f_X8_refuseLong (-6 : Int32) M9) (fun (x12 : Int64) (M13 : Mem) => some (x12, M13)))) (fun (K11 : Mem → Option (Int64 × Mem)) => (if (20 : Int32) < p1 then (K11 M) else (if p2 ≤ (20 : Int32) then (bq1 (f_X8_isOther p3 (2 : Int32)) (fun (x17 : Int32) => (if x17 = 0 then (bq1 (f_J9_min_7cf53 (6 : Int32) (gi M 3 3)) (fun (x20 : Int32) => (bq2 (lq3 (f_X8_lost_L73 p1 p2 x20) FU (0 : Int64) (0 : Int32) M) (fun (x27 : Int64) (M28 : Mem) => (bq1 (f_X8_power (p2 : Int32).toInt64 x20) (fun (x29 : Int64) => bq1 (f_X8_partOfFraction x27 x29 p3) (fun (x31 : Int64) => some (x31, M28)))))))) else (bq2 (f_X8_refuseLong (-2 : Int32) M) (fun (x50 : Int64) (M51 : Mem) => some (x50, M51)))))) else (K11 M))))) else (K3 M)))))
set_option maxHeartbeats 4000000 in
set_option maxRecDepth 100000 in
theorem ct_X8_lost (l : Launch) (G : GG) {p1 : Int32} {p2 : Int32} {p3 : Int32} {M : Mem} {r : Int64} {Mr : Mem}  (hf : f_X8_lost p1 p2 p3 M = some (r, Mr)) : Met l yX8_lost (wsq yX8_lost cX8_lost 9 (some .long)) (rmq 6 152) (va_Pc [.ref (G.2.2.1 0), .int p1, .int p2, .int p3] (World G M)) (Ql G r Mr) 0 0 (adA G) := by
  refine x_start (plainFor_of_name (by decide)) (Nat.le_of_ble_eq_true rfl) ?_
  intro p e s m args below meth c hB hr hlk hW hS ls hl
  have hx := hB.x
  have hb := hB.b
  have hl : lv_has ls 9 [(0, .ref (G.2.2.1 0)), (1, .int p1), (2, .int p2), (3, .int p3)] := hl
  unfold f_X8_lost at hf
  refine lv_iload_n hx hb dX8_lost_0 rfl (lv_at hl 1 rfl) ?_
  obtain ⟨K3, eK3, hf⟩ := j_o hf
  have main2 : ∀ (M1 : Mem) (H : Heap) (locs : List Loc) (ls : Array Slot), Wd G M1 H → va_S (adA G) s.heap H locs → lv_has ls 9 [(0, .ref (G.2.2.1 0))] → K3 M1 = some (r, Mr) → W p l e (rmq 6 152) s m args below meth c H locs 0 0 (MQ below (Ql G r Mr) args s 0 0 (adA G)) (F0 m 9 ls []) := by
    intro M1 H locs ls hW hS hl hf
    subst eK3
    refine lv_aload_n hx hb dX8_lost_9 rfl (lv_at hl 0 rfl) ?_
    refine lv_bipush (v := (-4 : Int32)) hx hb dX8_lost_10 (by decide) ?_
    obtain ⟨x4, M5, hg6, hf⟩ := b_o2 hf
    refine x_cl hB (x_rv hB hW hS (As := [.int (-4 : Int32)]) (rest := []) (ct_X8_refuseLong l G hg6) (cl_RX8_318 hB.2.2.2.2.1 ⟨Nat.le_of_ble_eq_true rfl, Nat.le_of_ble_eq_true rfl⟩) tl0 (by decide) rfl rfl hl.1 rfl (Nat.le_of_ble_eq_true rfl) dX8_lost_12 ⟨Nat.le_refl _, Nat.le_refl _⟩) hS (fun H locs hW hS => ?_)
    exact e_l hB hW hS hr hlk (s_1 hf) (s_2 hf) dX8_lost_15
  refine lv_if_lt (tgt := 9) hx hb dX8_lost_1 (by decide) (fun c7 => ?_) (fun c7 => ?_)
  · have hf := i_t hf c7
    exact main2 M _ _ ls hW hS (lv_sub hl [0] rfl) hf
  · have hf := i_f hf c7
    refine lv_iload_n hx hb dX8_lost_4 rfl (lv_at hl 2 rfl) ?_
    refine lv_iconst (v := (2 : Int32)) hx hb dX8_lost_5 (by decide) ?_
    refine lv_icmp_ge (tgt := 16) hx hb dX8_lost_6 (by decide) (fun c8 => ?_) (fun c8 => ?_)
    · have hf := i_t hf c8
      refine lv_iload_n hx hb dX8_lost_16 rfl (lv_at hl 1 rfl) ?_
      refine lv_bipush (v := (20 : Int32)) hx hb dX8_lost_17 (by decide) ?_
      obtain ⟨K11, eK11, hf⟩ := j_o hf
      have main10 : ∀ (M9 : Mem) (H : Heap) (locs : List Loc) (ls : Array Slot), Wd G M9 H → va_S (adA G) s.heap H locs → lv_has ls 9 [(0, .ref (G.2.2.1 0))] → K11 M9 = some (r, Mr) → W p l e (rmq 6 152) s m args below meth c H locs 0 0 (MQ below (Ql G r Mr) args s 0 0 (adA G)) (F0 m 28 ls []) := by
        intro M9 H locs ls hW hS hl hf
        subst eK11
        refine lv_aload_n hx hb dX8_lost_28 rfl (lv_at hl 0 rfl) ?_
        refine lv_bipush (v := (-6 : Int32)) hx hb dX8_lost_29 (by decide) ?_
        obtain ⟨x12, M13, hg14, hf⟩ := b_o2 hf
        refine x_cl hB (x_rv hB hW hS (As := [.int (-6 : Int32)]) (rest := []) (ct_X8_refuseLong l G hg14) (cl_RX8_318 hB.2.2.2.2.1 ⟨Nat.le_of_ble_eq_true rfl, Nat.le_of_ble_eq_true rfl⟩) tl0 (by decide) rfl rfl hl.1 rfl (Nat.le_of_ble_eq_true rfl) dX8_lost_31 ⟨Nat.le_refl _, Nat.le_refl _⟩) hS (fun H locs hW hS => ?_)
        exact e_l hB hW hS hr hlk (s_1 hf) (s_2 hf) dX8_lost_34
      refine lv_icmp_gt (tgt := 28) hx hb dX8_lost_19 (by decide) (fun c15 => ?_) (fun c15 => ?_)
      · have hf := i_t hf c15
        exact main10 M _ _ ls hW hS (lv_sub hl [0] rfl) hf
      · have hf := i_f hf c15
        refine lv_iload_n hx hb dX8_lost_22 rfl (lv_at hl 2 rfl) ?_
        refine lv_bipush (v := (20 : Int32)) hx hb dX8_lost_23 (by decide) ?_
        refine lv_icmp_le (tgt := 35) hx hb dX8_lost_25 (by decide) (fun c16 => ?_) (fun c16 => ?_)
        · have hf := i_t hf c16
          refine lv_iload_n hx hb dX8_lost_35 rfl (lv_at hl 3 rfl) ?_
          refine lv_iconst (v := (2 : Int32)) hx hb dX8_lost_36 (by decide) ?_
          obtain ⟨x17, hg18, hf⟩ := b_o1 hf
          refine x_ci hB (x_rs hB hW hS (As := [.int p3, .int (2 : Int32)]) (rest := []) (ct_X8_isOther l G hg18) (cl_RX8_171 hB.2.2.2.2.1 ⟨Nat.le_of_ble_eq_true rfl, Nat.le_of_ble_eq_true rfl⟩) rfl hl.1 rfl (Nat.le_of_ble_eq_true rfl) dX8_lost_37 ⟨Nat.le_refl _, Nat.le_refl _⟩) hS (fun H locs hW hS => ?_)
          refine lv_if_eq (tgt := 50) hx hb dX8_lost_40 (by decide) (fun c19 => ?_) (fun c19 => ?_)
          · have hf := i_t hf c19
            refine lv_bipush (v := (6 : Int32)) hx hb dX8_lost_50 (by decide) ?_
            refine lv_aload_n hx hb dX8_lost_52 rfl (lv_at hl 0 rfl) ?_
            refine fg8_0 hB hW tl0 wd2_91 dX8_lost_53 ?_
            refine fg3_1 hB hW tl1 wd1_95 dX8_lost_56 ?_
            refine fg7_3 hB hW tl3 wd1_52 dX8_lost_59 ?_
            obtain ⟨x20, hg21, hf⟩ := b_o1 hf
            refine x_ci hB (x_rs hB hW hS (As := [.int (6 : Int32), .int (gi M 3 3)]) (rest := []) (ct_J9_min_7cf53 l G hg21) (cl_RX8_321 hB.2.2.2.2.1 ⟨Nat.le_of_ble_eq_true rfl, Nat.le_of_ble_eq_true rfl⟩) rfl hl.1 rfl (Nat.le_of_ble_eq_true rfl) dX8_lost_62 ⟨Nat.le_refl _, Nat.le_refl _⟩) hS (fun H locs hW hS => ?_)
            refine lv_istore (lv' := [(4, .int x20), (0, .ref (G.2.2.1 0)), (1, .int p1), (2, .int p2), (3, .int p3)]) hx hb dX8_lost_65 hl (by decide) rfl (fun ls hl => ?_)
            refine lv_lconst (v := (0 : Int64)) hx hb dX8_lost_67 (by decide) ?_
            refine lv_lstore (lv' := [(5, .long (0 : Int64)), (4, .int x20), (0, .ref (G.2.2.1 0)), (1, .int p1), (2, .int p2), (3, .int p3)]) hx hb dX8_lost_68 hl (by decide) rfl (fun ls hl => ?_)
            refine lv_iconst (v := (0 : Int32)) hx hb dX8_lost_70 (by decide) ?_
            refine lv_istore (lv' := [(7, .int (0 : Int32)), (5, .long (0 : Int64)), (4, .int x20), (0, .ref (G.2.2.1 0)), (1, .int p1), (2, .int p2), (3, .int p3)]) hx hb dX8_lost_71 hl (by decide) rfl (fun ls hl => ?_)
            obtain ⟨y33, M34, hL, hf⟩ := b_o2 hf
            have main35 : ∀ (x27 : Int64) (M28 : Mem) (H : Heap) (locs : List Loc) (ls : Array Slot), Wd G M28 H → va_S (adA G) s.heap H locs → lv_has ls 9 [(2, .int p2), (3, .int p3), (4, .int x20), (5, .long x27)] → some (x27, M28) = some (y33, M34) → W p l e (rmq 6 152) s m args below meth c H locs 0 0 (MQ below (Ql G r Mr) args s 0 0 (adA G)) (F0 m 136 ls []) := by
              intro x27 M28 H locs ls hW hS hl hE
              cases hE
              refine lv_lload hx hb dX8_lost_136 (lv_at hl 3 rfl) ?_
              refine lv_iload_n hx hb dX8_lost_138 rfl (lv_at hl 0 rfl) ?_
              refine lv_i2l hx hb dX8_lost_139 rfl ?_
              refine lv_iload hx hb dX8_lost_140 (lv_at hl 2 rfl) ?_
              obtain ⟨x29, hg30, hf⟩ := b_o1 hf
              refine x_cl hB (x_rs hB hW hS (As := [.long (p2 : Int32).toInt64, .int x20]) (rest := [.long y33]) (ct_X8_power l G hg30) (cl_RX8_327 hB.2.2.2.2.1 ⟨Nat.le_of_ble_eq_true rfl, Nat.le_of_ble_eq_true rfl⟩) rfl hl.1 rfl (Nat.le_of_ble_eq_true rfl) dX8_lost_142 ⟨Nat.le_refl _, Nat.le_refl _⟩) hS (fun H locs hW hS => ?_)
              refine lv_iload_n hx hb dX8_lost_145 rfl (lv_at hl 1 rfl) ?_
              obtain ⟨x31, hg32, hf⟩ := b_o1 hf
              refine x_cl hB (x_rs hB hW hS (As := [.long y33, .long x29, .int p3]) (rest := []) (ct_X8_partOfFraction l G hg32) (cl_RX8_331 hB.2.2.2.2.1 ⟨Nat.le_of_ble_eq_true rfl, Nat.le_of_ble_eq_true rfl⟩) rfl hl.1 rfl (Nat.le_of_ble_eq_true rfl) dX8_lost_146 ⟨Nat.le_refl _, Nat.le_refl _⟩) hS (fun H locs hW hS => ?_)
              exact e_l hB hW hS hr hlk (s_1 hf) (s_2 hf) dX8_lost_149
            have loop26 : ∀ (n : Nat) (x22 : Int64) (x23 : Int32) (M24 : Mem) (H : Heap) (locs : List Loc) (ls : Array Slot), Wd G M24 H → va_S (adA G) s.heap H locs → lv_has ls 9 [(0, .ref (G.2.2.1 0)), (1, .int p1), (2, .int p2), (3, .int p3), (4, .int x20), (5, .long x22), (7, .int x23)] → lq3 (f_X8_lost_L73 p1 p2 x20) n x22 x23 M24 = some (y33, M34) → W p l e (rmq 6 152) s m args below meth c H locs 0 0 (MQ below (Ql G r Mr) args s 0 0 (adA G)) (F0 m 73 ls []) := by
              intro n
              induction n with
              | zero => intro x22 x23 M24 H locs ls hW hS hl hf; exact (l_z3 hf).elim
              | succ n ih =>
                intro x22 x23 M24 H locs ls hW hS hl hf
                have hf := l_s3 hf
                generalize lq3 (f_X8_lost_L73 p1 p2 x20) n = K25 at ih hf
                unfold f_X8_lost_L73 at hf
                refine lv_iload hx hb dX8_lost_73 (lv_at hl 6 rfl) ?_
                refine lv_iconst (v := (1 : Int32)) hx hb dX8_lost_75 (by decide) ?_
                refine lv_iload hx hb dX8_lost_76 (lv_at hl 4 rfl) ?_
                refine lv_ishl hx hb dX8_lost_78 ?_
                refine lv_icmp_ge (tgt := 136) hx hb dX8_lost_79 (by decide) (fun c36 => ?_) (fun c36 => ?_)
                · have hf := i_t hf c36
                  exact main35 x22 M24 _ _ ls hW hS (lv_sub hl [2, 3, 4, 5] rfl) hf
                · have hf := i_f hf c36
                  refine lv_aload_n hx hb dX8_lost_82 rfl (lv_at hl 0 rfl) ?_
                  refine fg8_5 hB hW tl0 wd2_96 dX8_lost_83 ?_
                  refine lv_aload_n hx hb dX8_lost_86 rfl (lv_at hl 0 rfl) ?_
                  refine fg8_0 hB hW tl0 wd2_91 dX8_lost_87 ?_
                  refine lv_iload hx hb dX8_lost_90 (lv_at hl 6 rfl) ?_
                  obtain ⟨x37, M38, hg39, hf⟩ := b_o2 hf
                  refine x_ci hB (x_rv hB hW hS (As := [.ref (G.2.2.1 1), .int x23]) (rest := []) (ct_X6_set l G tl1 hg39) (cl_RX8_229 hB.2.2.2.2.1 ⟨Nat.le_of_ble_eq_true rfl, Nat.le_of_ble_eq_true rfl⟩) tl126 (by decide) rfl rfl hl.1 rfl (Nat.le_of_ble_eq_true rfl) dX8_lost_92 ⟨Nat.le_refl _, Nat.le_refl _⟩) hS (fun H locs hW hS => ?_)
                  refine lv_istore (lv' := [(8, .int x37), (0, .ref (G.2.2.1 0)), (1, .int p1), (2, .int p2), (3, .int p3), (4, .int x20), (5, .long x22), (7, .int x23)]) hx hb dX8_lost_95 hl (by decide) rfl (fun ls hl => ?_)
                  refine lv_iload hx hb dX8_lost_97 (lv_at hl 0 rfl) ?_
                  refine lv_bipush (v := (-9 : Int32)) hx hb dX8_lost_99 (by decide) ?_
                  refine lv_icmp_eq (tgt := 130) hx hb dX8_lost_101 (by decide) (fun c40 => ?_) (fun c40 => ?_)
                  · have hf := i_t hf c40
                    obtain ⟨x41, ex41⟩ : ∃ y : Int32, y = x23 + (1 : Int32) := ⟨_, rfl⟩
                    have hf := nm_o hf ex41
                    refine lv_iinc (v := x41) (lv' := [(7, .int x41), (8, .int x37), (0, .ref (G.2.2.1 0)), (1, .int p1), (2, .int p2), (3, .int p3), (4, .int x20), (5, .long x22)]) hx hb dX8_lost_130 hl (k := 7) rfl (by rw [ex41]; rfl) (by decide) rfl (fun ls hl => ?_)
                    refine lv_goto (tgt := 73) hx hb dX8_lost_133 (by decide) ?_
                    exact ih x22 x41 M38 _ _ ls hW hS (lv_sub hl [2, 3, 4, 5, 6, 7, 0] rfl) hf
                  · have hf := i_f hf c40
                    refine lv_iload hx hb dX8_lost_104 (lv_at hl 0 rfl) ?_
                    refine lv_iload_n hx hb dX8_lost_106 rfl (lv_at hl 2 rfl) ?_
                    refine lv_icmp_gt (tgt := 130) hx hb dX8_lost_107 (by decide) (fun c42 => ?_) (fun c42 => ?_)
                    · have hf := i_t hf c42
                      obtain ⟨x43, ex43⟩ : ∃ y : Int32, y = x23 + (1 : Int32) := ⟨_, rfl⟩
                      have hf := nm_o hf ex43
                      refine lv_iinc (v := x43) (lv' := [(7, .int x43), (8, .int x37), (0, .ref (G.2.2.1 0)), (1, .int p1), (2, .int p2), (3, .int p3), (4, .int x20), (5, .long x22)]) hx hb dX8_lost_130 hl (k := 7) rfl (by rw [ex43]; rfl) (by decide) rfl (fun ls hl => ?_)
                      refine lv_goto (tgt := 73) hx hb dX8_lost_133 (by decide) ?_
                      exact ih x22 x43 M38 _ _ ls hW hS (lv_sub hl [2, 3, 4, 5, 6, 7, 0] rfl) hf
                    · have hf := i_f hf c42
                      refine lv_lload hx hb dX8_lost_110 (lv_at hl 6 rfl) ?_
                      refine lv_iload_n hx hb dX8_lost_112 rfl (lv_at hl 3 rfl) ?_
                      refine lv_iconst (v := (1 : Int32)) hx hb dX8_lost_113 (by decide) ?_
                      refine lv_isub hx hb dX8_lost_114 ?_
                      refine lv_i2l hx hb dX8_lost_115 rfl ?_
                      refine lv_iload hx hb dX8_lost_116 (lv_at hl 5 rfl) ?_
                      refine lv_iload hx hb dX8_lost_118 (lv_at hl 7 rfl) ?_
                      obtain ⟨x44, hg45, hf⟩ := b_o1 hf
                      refine x_ci hB (x_rs hB hW hS (As := [.int x23]) (rest := [.int x20, .long ((p2 - (1 : Int32))).toInt64, .long x22]) (ct_J6_bitCount_0f7a4 l G hg45) (cl_RX8_202 hB.2.2.2.2.1 ⟨Nat.le_of_ble_eq_true rfl, Nat.le_of_ble_eq_true rfl⟩) rfl hl.1 rfl (Nat.le_of_ble_eq_true rfl) dX8_lost_120 ⟨Nat.le_refl _, Nat.le_refl _⟩) hS (fun H locs hW hS => ?_)
                      refine lv_isub hx hb dX8_lost_123 ?_
                      obtain ⟨x46, hg47, hf⟩ := b_o1 hf
                      refine x_cl hB (x_rs hB hW hS (As := [.long ((p2 - (1 : Int32))).toInt64, .int (x20 - x44)]) (rest := [.long x22]) (ct_X8_power l G hg47) (cl_RX8_327 hB.2.2.2.2.1 ⟨Nat.le_of_ble_eq_true rfl, Nat.le_of_ble_eq_true rfl⟩) rfl hl.1 rfl (Nat.le_of_ble_eq_true rfl) dX8_lost_124 ⟨Nat.le_refl _, Nat.le_refl _⟩) hS (fun H locs hW hS => ?_)
                      refine lv_ladd hx hb dX8_lost_127 ?_
                      refine lv_topl (fun x48 ex48 => ?_)
                      have hf := nm_o hf ex48
                      refine lv_lstore (lv' := [(5, .long x48), (8, .int x37), (0, .ref (G.2.2.1 0)), (1, .int p1), (2, .int p2), (3, .int p3), (4, .int x20), (7, .int x23)]) hx hb dX8_lost_128 hl (by decide) rfl (fun ls hl => ?_)
                      obtain ⟨x49, ex49⟩ : ∃ y : Int32, y = x23 + (1 : Int32) := ⟨_, rfl⟩
                      have hf := nm_o hf ex49
                      refine lv_iinc (v := x49) (lv' := [(7, .int x49), (5, .long x48), (8, .int x37), (0, .ref (G.2.2.1 0)), (1, .int p1), (2, .int p2), (3, .int p3), (4, .int x20)]) hx hb dX8_lost_130 hl (k := 7) rfl (by rw [ex49]; rfl) (by decide) rfl (fun ls hl => ?_)
                      refine lv_goto (tgt := 73) hx hb dX8_lost_133 (by decide) ?_
                      exact ih x48 x49 M38 _ _ ls hW hS (lv_sub hl [3, 4, 5, 6, 7, 1, 0] rfl) hf
            exact loop26 FU (0 : Int64) (0 : Int32) M _ _ ls hW hS (lv_sub hl [3, 4, 5, 6, 2, 1, 0] rfl) hL
          · have hf := i_f hf c19
            refine lv_aload_n hx hb dX8_lost_43 rfl (lv_at hl 0 rfl) ?_
            refine lv_bipush (v := (-2 : Int32)) hx hb dX8_lost_44 (by decide) ?_
            obtain ⟨x50, M51, hg52, hf⟩ := b_o2 hf
            refine x_cl hB (x_rv hB hW hS (As := [.int (-2 : Int32)]) (rest := []) (ct_X8_refuseLong l G hg52) (cl_RX8_318 hB.2.2.2.2.1 ⟨Nat.le_of_ble_eq_true rfl, Nat.le_of_ble_eq_true rfl⟩) tl0 (by decide) rfl rfl hl.1 rfl (Nat.le_of_ble_eq_true rfl) dX8_lost_46 ⟨Nat.le_refl _, Nat.le_refl _⟩) hS (fun H locs hW hS => ?_)
            exact e_l hB hW hS hr hlk (s_1 hf) (s_2 hf) dX8_lost_49
        · have hf := i_f hf c16
          exact main10 M _ _ ls hW hS (lv_sub hl [0] rfl) hf
    · have hf := i_f hf c8
      exact main2 M _ _ ls hW hS (lv_sub hl [0] rfl) hf
def f_X6_naturalOfAll_L4  (K4 : Int32 → Int32 → Mem → Option (Int32 × Mem)) (x1 : Int32) (x2 : Int32) (M3 : Mem) : Option (Int32 × Mem) := (if (gi M3 126 3) ≤ x2 then (some (x1, M3)) else (bq1 (f_X6_show x2 M3) (fun (M12 : Mem) => nmq ((x1 + (gi M12 127 4))) (fun (x14 : Int32) => nmq (x2 + (1 : Int32)) (fun (x15 : Int32) => (K4 x14 x15 M12))))))
def f_X6_naturalOfAll (M : Mem) : Option (Int32 × Mem) := (bq2 (lq3 f_X6_naturalOfAll_L4 FU (0 : Int32) (0 : Int32) M) (fun (x6 : Int32) (M7 : Mem) => some (x6, M7)))
set_option maxHeartbeats 4000000 in
set_option maxRecDepth 100000 in
theorem ct_X6_naturalOfAll (l : Launch) (G : GG)  {M : Mem} {r : Int32} {Mr : Mem}  (hf : f_X6_naturalOfAll M = some (r, Mr)) : Met l yX6_naturalOfAll (wsq yX6_naturalOfAll cX6_naturalOfAll 3 (some .int)) (rmq 3 65) (va_Pc [.ref (G.2.2.1 126)] (World G M)) (Qi G r Mr) 0 0 (adA G) := by
  refine x_start (plainFor_of_name (by decide)) (Nat.le_of_ble_eq_true rfl) ?_
  intro p e s m args below meth c hB hr hlk hW hS ls hl
  have hx := hB.x
  have hb := hB.b
  have hl : lv_has ls 3 [(0, .ref (G.2.2.1 126))] := hl
  unfold f_X6_naturalOfAll at hf
  refine lv_iconst (v := (0 : Int32)) hx hb dX6_naturalOfAll_0 (by decide) ?_
  refine lv_istore_n (lv' := [(1, .int (0 : Int32)), (0, .ref (G.2.2.1 126))]) hx hb dX6_naturalOfAll_1 rfl hl (by decide) rfl (fun ls hl => ?_)
  refine lv_iconst (v := (0 : Int32)) hx hb dX6_naturalOfAll_2 (by decide) ?_
  refine lv_istore_n (lv' := [(2, .int (0 : Int32)), (1, .int (0 : Int32)), (0, .ref (G.2.2.1 126))]) hx hb dX6_naturalOfAll_3 rfl hl (by decide) rfl (fun ls hl => ?_)
  obtain ⟨y8, M9, hL, hf⟩ := b_o2 hf
  have main10 : ∀ (x6 : Int32) (M7 : Mem) (H : Heap) (locs : List Loc) (ls : Array Slot), Wd G M7 H → va_S (adA G) s.heap H locs → lv_has ls 3 [(1, .int x6)] → some (x6, M7) = some (y8, M9) → W p l e (rmq 3 65) s m args below meth c H locs 0 0 (MQ below (Qi G r Mr) args s 0 0 (adA G)) (F0 m 33 ls []) := by
    intro x6 M7 H locs ls hW hS hl hE
    cases hE
    refine lv_iload_n hx hb dX6_naturalOfAll_33 rfl (lv_at hl 0 rfl) ?_
    exact e_i hB hW hS hr hlk (s_1 hf) (s_2 hf) dX6_naturalOfAll_34
  have loop5 : ∀ (n : Nat) (x1 : Int32) (x2 : Int32) (M3 : Mem) (H : Heap) (locs : List Loc) (ls : Array Slot), Wd G M3 H → va_S (adA G) s.heap H locs → lv_has ls 3 [(0, .ref (G.2.2.1 126)), (1, .int x1), (2, .int x2)] → lq3 f_X6_naturalOfAll_L4 n x1 x2 M3 = some (y8, M9) → W p l e (rmq 3 65) s m args below meth c H locs 0 0 (MQ below (Qi G r Mr) args s 0 0 (adA G)) (F0 m 4 ls []) := by
    intro n
    induction n with
    | zero => intro x1 x2 M3 H locs ls hW hS hl hf; exact (l_z3 hf).elim
    | succ n ih =>
      intro x1 x2 M3 H locs ls hW hS hl hf
      have hf := l_s3 hf
      generalize lq3 f_X6_naturalOfAll_L4 n = K4 at ih hf
      unfold f_X6_naturalOfAll_L4 at hf
      refine lv_iload_n hx hb dX6_naturalOfAll_4 rfl (lv_at hl 2 rfl) ?_
      refine lv_aload_n hx hb dX6_naturalOfAll_5 rfl (lv_at hl 0 rfl) ?_
      refine fg6_3 hB hW tl126 wd2_67 dX6_naturalOfAll_6 ?_
      refine lv_icmp_ge (tgt := 33) hx hb dX6_naturalOfAll_9 (by decide) (fun c11 => ?_) (fun c11 => ?_)
      · have hf := i_t hf c11
        exact main10 x1 M3 _ _ ls hW hS (lv_sub hl [1] rfl) hf
      · have hf := i_f hf c11
        refine lv_aload_n hx hb dX6_naturalOfAll_12 rfl (lv_at hl 0 rfl) ?_
        refine lv_iload_n hx hb dX6_naturalOfAll_13 rfl (lv_at hl 2 rfl) ?_
        obtain ⟨M12, hg13, hf⟩ := b_o1 hf
        refine x_cv hB (x_rv hB hW hS (As := [.int x2]) (rest := []) (ct_X6_show l G hg13) (cl_RX6_115 hB.2.2.2.2.1 ⟨Nat.le_of_ble_eq_true rfl, Nat.le_of_ble_eq_true rfl⟩) tl126 (by decide) rfl rfl hl.1 rfl (Nat.le_of_ble_eq_true rfl) dX6_naturalOfAll_14 ⟨Nat.le_refl _, Nat.le_refl _⟩) hS (fun H locs hW hS => ?_)
        refine lv_iload_n hx hb dX6_naturalOfAll_17 rfl (lv_at hl 1 rfl) ?_
        refine lv_aload_n hx hb dX6_naturalOfAll_18 rfl (lv_at hl 0 rfl) ?_
        refine fg6_1 hB hW tl126 wd2_63 dX6_naturalOfAll_19 ?_
        refine fg2_4 hB hW tl127 wd2_5 dX6_naturalOfAll_22 ?_
        refine lv_iadd hx hb dX6_naturalOfAll_25 ?_
        refine lv_topi (fun x14 ex14 => ?_)
        have hf := nm_o hf ex14
        refine lv_istore_n (lv' := [(1, .int x14), (0, .ref (G.2.2.1 126)), (2, .int x2)]) hx hb dX6_naturalOfAll_26 rfl hl (by decide) rfl (fun ls hl => ?_)
        obtain ⟨x15, ex15⟩ : ∃ y : Int32, y = x2 + (1 : Int32) := ⟨_, rfl⟩
        have hf := nm_o hf ex15
        refine lv_iinc (v := x15) (lv' := [(2, .int x15), (1, .int x14), (0, .ref (G.2.2.1 126))]) hx hb dX6_naturalOfAll_27 hl (k := 2) rfl (by rw [ex15]; rfl) (by decide) rfl (fun ls hl => ?_)
        refine lv_goto (tgt := 4) hx hb dX6_naturalOfAll_30 (by decide) ?_
        exact ih x14 x15 M12 _ _ ls hW hS (lv_sub hl [2, 1, 0] rfl) hf
  exact loop5 FU (0 : Int32) (0 : Int32) M _ _ ls hW hS (lv_sub hl [2, 1, 0] rfl) hL
theorem cl_RX8_335 {R : Room} {s : State} {args : Array Value} (ht : ∀ w ∈ lw_all, w.before args s = true) (hR : 3 + 1 ≤ R.frames ∧ 8 + (3 + 11) + 65 ≤ R.locals) : CallW R s args RX8 RX6 335 yX6_naturalOfAll cX6_naturalOfAll 3 (some .int) (wsq yX6_naturalOfAll cX6_naturalOfAll 3 (some .int)) (rmq 3 65) 0 0 0 := cwV 0 ht (goodV wd5_18 wd5_19 wd5_20 wd1_7 wd5_21) rfl rfl rfl (by decide +kernel) hR
def f_X8_mean (p1 : Int32) (M : Mem) : Option (Int64 × Mem) := (bq1 (f_X8_isOther p1 (2 : Int32)) (fun (x1 : Int32) => (if x1 = 0 then (bq2 (f_X6_set 1 (0 : Int32) M) (fun (x4 : Int32) (M5 : Mem) => bq2 (f_X6_naturalOfAll M5) (fun (x7 : Int32) (M8 : Mem) => bq1 (f_X8_partOfFraction (x7 : Int32).toInt64 ((gi M8 126 3)).toInt64 p1) (fun (x10 : Int64) => some (x10, M8))))) else (bq2 (f_X8_refuseLong (-2 : Int32) M) (fun (x12 : Int64) (M13 : Mem) => some (x12, M13))))))
set_option maxHeartbeats 4000000 in
set_option maxRecDepth 100000 in
theorem ct_X8_mean (l : Launch) (G : GG) {p1 : Int32} {M : Mem} {r : Int64} {Mr : Mem}  (hf : f_X8_mean p1 M = some (r, Mr)) : Met l yX8_mean (wsq yX8_mean cX8_mean 2 (some .long)) (rmq 6 152) (va_Pc [.ref (G.2.2.1 0), .int p1] (World G M)) (Ql G r Mr) 0 0 (adA G) := by
  refine x_start (plainFor_of_name (by decide)) (Nat.le_of_ble_eq_true rfl) ?_
  intro p e s m args below meth c hB hr hlk hW hS ls hl
  have hx := hB.x
  have hb := hB.b
  have hl : lv_has ls 2 [(0, .ref (G.2.2.1 0)), (1, .int p1)] := hl
  unfold f_X8_mean at hf
  refine lv_iload_n hx hb dX8_mean_0 rfl (lv_at hl 1 rfl) ?_
  refine lv_iconst (v := (2 : Int32)) hx hb dX8_mean_1 (by decide) ?_
  obtain ⟨x1, hg2, hf⟩ := b_o1 hf
  refine x_ci hB (x_rs hB hW hS (As := [.int p1, .int (2 : Int32)]) (rest := []) (ct_X8_isOther l G hg2) (cl_RX8_171 hB.2.2.2.2.1 ⟨Nat.le_of_ble_eq_true rfl, Nat.le_of_ble_eq_true rfl⟩) rfl hl.1 rfl (Nat.le_of_ble_eq_true rfl) dX8_mean_2 ⟨Nat.le_refl _, Nat.le_refl _⟩) hS (fun H locs hW hS => ?_)
  refine lv_if_eq (tgt := 15) hx hb dX8_mean_5 (by decide) (fun c3 => ?_) (fun c3 => ?_)
  · have hf := i_t hf c3
    refine lv_aload_n hx hb dX8_mean_15 rfl (lv_at hl 0 rfl) ?_
    refine fg8_5 hB hW tl0 wd2_96 dX8_mean_16 ?_
    refine lv_aload_n hx hb dX8_mean_19 rfl (lv_at hl 0 rfl) ?_
    refine fg8_0 hB hW tl0 wd2_91 dX8_mean_20 ?_
    refine lv_iconst (v := (0 : Int32)) hx hb dX8_mean_23 (by decide) ?_
    obtain ⟨x4, M5, hg6, hf⟩ := b_o2 hf
    refine x_ci hB (x_rv hB hW hS (As := [.ref (G.2.2.1 1), .int (0 : Int32)]) (rest := []) (ct_X6_set l G tl1 hg6) (cl_RX8_229 hB.2.2.2.2.1 ⟨Nat.le_of_ble_eq_true rfl, Nat.le_of_ble_eq_true rfl⟩) tl126 (by decide) rfl rfl hl.1 rfl (Nat.le_of_ble_eq_true rfl) dX8_mean_24 ⟨Nat.le_refl _, Nat.le_refl _⟩) hS (fun H locs hW hS => ?_)
    refine lv_pop hx hb dX8_mean_27 rfl ?_
    refine lv_aload_n hx hb dX8_mean_28 rfl (lv_at hl 0 rfl) ?_
    refine fg8_5 hB hW tl0 wd2_96 dX8_mean_29 ?_
    obtain ⟨x7, M8, hg9, hf⟩ := b_o2 hf
    refine x_ci hB (x_rv hB hW hS (As := []) (rest := []) (ct_X6_naturalOfAll l G hg9) (cl_RX8_335 hB.2.2.2.2.1 ⟨Nat.le_of_ble_eq_true rfl, Nat.le_of_ble_eq_true rfl⟩) tl126 (by decide) rfl rfl hl.1 rfl (Nat.le_of_ble_eq_true rfl) dX8_mean_32 ⟨Nat.le_refl _, Nat.le_refl _⟩) hS (fun H locs hW hS => ?_)
    refine lv_i2l hx hb dX8_mean_35 rfl ?_
    refine lv_aload_n hx hb dX8_mean_36 rfl (lv_at hl 0 rfl) ?_
    refine fg8_5 hB hW tl0 wd2_96 dX8_mean_37 ?_
    refine fg6_3 hB hW tl126 wd2_68 dX8_mean_40 ?_
    refine lv_i2l hx hb dX8_mean_43 rfl ?_
    refine lv_iload_n hx hb dX8_mean_44 rfl (lv_at hl 1 rfl) ?_
    obtain ⟨x10, hg11, hf⟩ := b_o1 hf
    refine x_cl hB (x_rs hB hW hS (As := [.long (x7 : Int32).toInt64, .long ((gi M8 126 3)).toInt64, .int p1]) (rest := []) (ct_X8_partOfFraction l G hg11) (cl_RX8_331 hB.2.2.2.2.1 ⟨Nat.le_of_ble_eq_true rfl, Nat.le_of_ble_eq_true rfl⟩) rfl hl.1 rfl (Nat.le_of_ble_eq_true rfl) dX8_mean_45 ⟨Nat.le_refl _, Nat.le_refl _⟩) hS (fun H locs hW hS => ?_)
    exact e_l hB hW hS hr hlk (s_1 hf) (s_2 hf) dX8_mean_48
  · have hf := i_f hf c3
    refine lv_aload_n hx hb dX8_mean_8 rfl (lv_at hl 0 rfl) ?_
    refine lv_bipush (v := (-2 : Int32)) hx hb dX8_mean_9 (by decide) ?_
    obtain ⟨x12, M13, hg14, hf⟩ := b_o2 hf
    refine x_cl hB (x_rv hB hW hS (As := [.int (-2 : Int32)]) (rest := []) (ct_X8_refuseLong l G hg14) (cl_RX8_318 hB.2.2.2.2.1 ⟨Nat.le_of_ble_eq_true rfl, Nat.le_of_ble_eq_true rfl⟩) tl0 (by decide) rfl rfl hl.1 rfl (Nat.le_of_ble_eq_true rfl) dX8_mean_11 ⟨Nat.le_refl _, Nat.le_refl _⟩) hS (fun H locs hW hS => ?_)
    exact e_l hB hW hS hr hlk (s_1 hf) (s_2 hf) dX8_mean_14
def f_X8_isAsTold_L17  (K5 : Int32 → Mem → Option (Int32 × Mem)) (x3 : Int32) (M4 : Mem) : Option (Int32 × Mem) := (if (gi M4 0 8) ≤ x3 then some ((1 : Int32), M4) else (bq2 (f_X8_linesWith ((20 : Int32) + ((4 : Int32) * x3)) M4) (fun (x8 : Int32) (M9 : Mem) => bq1 (f_X8_at 137 x3 M9) (fun (x11 : Int32) => (nmq ((if x8 = (-9 : Int32) then ((0 : Int32)) else (x8))) (fun (x13 : Int32) => (if x11 = x13 then (nmq (x3 + (1 : Int32)) (fun (x16 : Int32) => (K5 x16 M9))) else some ((0 : Int32), M9))))))))
def f_X8_isAsTold (M : Mem) : Option (Int32 × Mem) := (bq1 (f_X0_cut 12 (0 : Int32) M) (fun (M1 : Mem) => (lq2 f_X8_isAsTold_L17 FU (0 : Int32) M1)))
set_option maxHeartbeats 4000000 in
set_option maxRecDepth 100000 in
theorem ct_X8_isAsTold (l : Launch) (G : GG)  {M : Mem} {r : Int32} {Mr : Mem}  (hf : f_X8_isAsTold M = some (r, Mr)) : Met l yX8_isAsTold (wsq yX8_isAsTold cX8_isAsTold 3 (some .boolean)) (rmq 5 130) (va_Pc [.ref (G.2.2.1 0)] (World G M)) (Qi G r Mr) 0 0 (adA G) := by
  refine x_start (plainFor_of_name (by decide)) (Nat.le_of_ble_eq_true rfl) ?_
  intro p e s m args below meth c hB hr hlk hW hS ls hl
  have hx := hB.x
  have hb := hB.b
  have hl : lv_has ls 3 [(0, .ref (G.2.2.1 0))] := hl
  unfold f_X8_isAsTold at hf
  refine lv_aload_n hx hb dX8_isAsTold_0 rfl (lv_at hl 0 rfl) ?_
  refine fg8_5 hB hW tl0 wd2_96 dX8_isAsTold_1 ?_
  refine fg6_0 hB hW tl126 wd2_62 dX8_isAsTold_4 ?_
  refine lv_aload_n hx hb dX8_isAsTold_7 rfl (lv_at hl 0 rfl) ?_
  refine fg8_1 hB hW tl0 wd2_92 dX8_isAsTold_8 ?_
  refine lv_iconst (v := (0 : Int32)) hx hb dX8_isAsTold_11 (by decide) ?_
  obtain ⟨M1, hg2, hf⟩ := b_o1 hf
  refine x_cv hB (x_rv hB hW hS (As := [.ref (G.2.2.1 12), .int (0 : Int32)]) (rest := []) (ct_X0_cut l G tl12 hg2) (cl_RX8_297 hB.2.2.2.2.1 ⟨Nat.le_of_ble_eq_true rfl, Nat.le_of_ble_eq_true rfl⟩) tl128 (by decide) rfl rfl hl.1 rfl (Nat.le_of_ble_eq_true rfl) dX8_isAsTold_12 ⟨Nat.le_refl _, Nat.le_refl _⟩) hS (fun H locs hW hS => ?_)
  refine lv_iconst (v := (0 : Int32)) hx hb dX8_isAsTold_15 (by decide) ?_
  refine lv_istore_n (lv' := [(1, .int (0 : Int32)), (0, .ref (G.2.2.1 0))]) hx hb dX8_isAsTold_16 rfl hl (by decide) rfl (fun ls hl => ?_)
  have loop6 : ∀ (n : Nat) (x3 : Int32) (M4 : Mem) (H : Heap) (locs : List Loc) (ls : Array Slot), Wd G M4 H → va_S (adA G) s.heap H locs → lv_has ls 3 [(0, .ref (G.2.2.1 0)), (1, .int x3)] → lq2 f_X8_isAsTold_L17 n x3 M4 = some (r, Mr) → W p l e (rmq 5 130) s m args below meth c H locs 0 0 (MQ below (Qi G r Mr) args s 0 0 (adA G)) (F0 m 17 ls []) := by
    intro n
    induction n with
    | zero => intro x3 M4 H locs ls hW hS hl hf; exact (l_z2 hf).elim
    | succ n ih =>
      intro x3 M4 H locs ls hW hS hl hf
      have hf := l_s2 hf
      generalize lq2 f_X8_isAsTold_L17 n = K5 at ih hf
      unfold f_X8_isAsTold_L17 at hf
      refine lv_iload_n hx hb dX8_isAsTold_17 rfl (lv_at hl 1 rfl) ?_
      refine lv_aload_n hx hb dX8_isAsTold_18 rfl (lv_at hl 0 rfl) ?_
      refine fg8_8 hB hW tl0 wd2_99 dX8_isAsTold_19 ?_
      refine lv_icmp_ge (tgt := 66) hx hb dX8_isAsTold_22 (by decide) (fun c7 => ?_) (fun c7 => ?_)
      · have hf := i_t hf c7
        refine lv_iconst (v := (1 : Int32)) hx hb dX8_isAsTold_66 (by decide) ?_
        exact e_z (by decide) hB hW hS hr hlk (s_1 hf) (s_2 hf) dX8_isAsTold_67
      · have hf := i_f hf c7
        refine lv_aload_n hx hb dX8_isAsTold_25 rfl (lv_at hl 0 rfl) ?_
        refine lv_bipush (v := (20 : Int32)) hx hb dX8_isAsTold_26 (by decide) ?_
        refine lv_iconst (v := (4 : Int32)) hx hb dX8_isAsTold_28 (by decide) ?_
        refine lv_iload_n hx hb dX8_isAsTold_29 rfl (lv_at hl 1 rfl) ?_
        refine lv_imul hx hb dX8_isAsTold_30 ?_
        refine lv_iadd hx hb dX8_isAsTold_31 ?_
        obtain ⟨x8, M9, hg10, hf⟩ := b_o2 hf
        refine x_ci hB (x_rv hB hW hS (As := [.int ((20 : Int32) + ((4 : Int32) * x3))]) (rest := []) (ct_X8_linesWith l G hg10) (cl_RX8_307 hB.2.2.2.2.1 ⟨Nat.le_of_ble_eq_true rfl, Nat.le_of_ble_eq_true rfl⟩) tl0 (by decide) rfl rfl hl.1 rfl (Nat.le_of_ble_eq_true rfl) dX8_isAsTold_32 ⟨Nat.le_refl _, Nat.le_refl _⟩) hS (fun H locs hW hS => ?_)
        refine lv_istore_n (lv' := [(2, .int x8), (0, .ref (G.2.2.1 0)), (1, .int x3)]) hx hb dX8_isAsTold_35 rfl hl (by decide) rfl (fun ls hl => ?_)
        refine lv_aload_n hx hb dX8_isAsTold_36 rfl (lv_at hl 1 rfl) ?_
        refine fg8_6 hB hW tl0 wd2_97 dX8_isAsTold_37 ?_
        refine lv_iload_n hx hb dX8_isAsTold_40 rfl (lv_at hl 2 rfl) ?_
        obtain ⟨x11, hg12, hf⟩ := b_o1 hf
        refine x_ci hB (x_rs hB hW hS (As := [.ref (G.2.2.1 137), .int x3]) (rest := []) (ct_X8_at l G tl137 hg12) (cl_RX8_95 hB.2.2.2.2.1 ⟨Nat.le_of_ble_eq_true rfl, Nat.le_of_ble_eq_true rfl⟩) rfl hl.1 rfl (Nat.le_of_ble_eq_true rfl) dX8_isAsTold_41 ⟨Nat.le_refl _, Nat.le_refl _⟩) hS (fun H locs hW hS => ?_)
        refine lv_iload_n hx hb dX8_isAsTold_44 rfl (lv_at hl 0 rfl) ?_
        refine lv_bipush (v := (-9 : Int32)) hx hb dX8_isAsTold_45 (by decide) ?_
        obtain ⟨y17, evy17⟩ : ∃ z : Int32, (if x8 = (-9 : Int32) then ((0 : Int32)) else (x8)) = z := ⟨_, rfl⟩
        have hf := nm_o hf evy17.symm
        have main14 : ∀ (x13 : Int32) (H : Heap) (locs : List Loc) (ls : Array Slot), Wd G M9 H → va_S (adA G) s.heap H locs → lv_has ls 3 [(0, .ref (G.2.2.1 0)), (1, .int x3)] → x13 = y17 → W p l e (rmq 5 130) s m args below meth c H locs 0 0 (MQ below (Qi G r Mr) args s 0 0 (adA G)) (F0 m 55 ls [.int x13, .int x11]) := by
          intro x13 H locs ls hW hS hl hE
          have hE := hE.symm
          subst hE
          refine lv_icmp_eq (tgt := 60) hx hb dX8_isAsTold_55 (by decide) (fun c15 => ?_) (fun c15 => ?_)
          · have hf := i_t hf c15
            obtain ⟨x16, ex16⟩ : ∃ y : Int32, y = x3 + (1 : Int32) := ⟨_, rfl⟩
            have hf := nm_o hf ex16
            refine lv_iinc (v := x16) (lv' := [(1, .int x16), (0, .ref (G.2.2.1 0))]) hx hb dX8_isAsTold_60 hl (k := 1) rfl (by rw [ex16]; rfl) (by decide) rfl (fun ls hl => ?_)
            refine lv_goto (tgt := 17) hx hb dX8_isAsTold_63 (by decide) ?_
            exact ih x16 M9 _ _ ls hW hS (lv_sub hl [1, 0] rfl) hf
          · have hf := i_f hf c15
            refine lv_iconst (v := (0 : Int32)) hx hb dX8_isAsTold_58 (by decide) ?_
            exact e_z (by decide) hB hW hS hr hlk (s_1 hf) (s_2 hf) dX8_isAsTold_59
        have hf := evy17
        refine lv_icmp_ne (tgt := 54) hx hb dX8_isAsTold_47 (by decide) (fun c18 => ?_) (fun c18 => ?_)
        · have hf := i_f hf c18
          refine lv_iload_n hx hb dX8_isAsTold_54 rfl (lv_at hl 0 rfl) ?_
          exact main14 x8 _ _ ls hW hS (lv_sub hl [1, 2] rfl) hf
        · have hf := i_t hf c18
          refine lv_iconst (v := (0 : Int32)) hx hb dX8_isAsTold_50 (by decide) ?_
          refine lv_goto (tgt := 55) hx hb dX8_isAsTold_51 (by decide) ?_
          exact main14 (0 : Int32) _ _ ls hW hS (lv_sub hl [1, 2] rfl) hf
  exact loop6 FU (0 : Int32) M1 _ _ ls hW hS (lv_sub hl [1, 0] rfl) hf
theorem cl_RX8_339 {R : Room} {s : State} {args : Array Value} (ht : ∀ w ∈ lw_all, w.before args s = true) (hR : 5 + 1 ≤ R.frames ∧ 8 + (3 + 11) + 130 ≤ R.locals) : CallW R s args RX8 RX8 339 yX8_isAsTold cX8_isAsTold 3 (some .boolean) (wsq yX8_isAsTold cX8_isAsTold 3 (some .boolean)) (rmq 5 130) 0 0 0 := cwV 0 ht (goodV wd5_26 wd5_28 wsel_33 wd1_1 wd5_29) rfl rfl rfl (by decide +kernel) hR
def f_X8_whatIs_L43 (p1 : Int32) (x6 : Int32) (K11 : Int32 → Int32 → Mem → Option (Int32 × Mem)) (x8 : Int32) (x9 : Int32) (M10 : Mem) : Option (Int32 × Mem) := (if x6 ≤ x9 then (some (x8, M10)) else (bq1 ((if p1 = 0 then (nmq (si M10 12 11 x9) (fun (M31 : Mem) => (some (M31)))) else (nmq (si M10 12 12 x9) (fun (M30 : Mem) => (some (M30))))) : Option (Mem)) (fun (M19 : Mem) => (bq2 (f_X8_isAsTold M19) (fun (x21 : Int32) (M22 : Mem) => (if x21 = 0 then (nmq (x9 + (1 : Int32)) (fun (x25 : Int32) => (K11 x8 x25 M22))) else (nmq ((x8 ||| (ishl_ (1 : Int32) x9))) (fun (x26 : Int32) => (nmq (x9 + (1 : Int32)) (fun (x27 : Int32) => (K11 x26 x27 M22)))))))))))
def f_X8_whatIs (p1 : Int32) (M : Mem) : Option (Int32 × Mem) := (bq1 (f_X8_isOther p1 (2 : Int32)) (fun (x1 : Int32) => (if x1 = 0 then (bq1 (f_X3_become 12 1 M) (fun (M4 : Mem) => (nmq ((if p1 = 0 then ((6 : Int32)) else ((10 : Int32)))) (fun (x6 : Int32) => (bq2 (lq3 (f_X8_whatIs_L43 p1 x6) FU (0 : Int32) (0 : Int32) M4) (fun (x13 : Int32) (M14 : Mem) => some (x13, M14))))))) else (bq2 (f_X8_refuse (-2 : Int32) M) (fun (x34 : Int32) (M35 : Mem) => some (x34, M35))))))
set_option maxHeartbeats 4000000 in
set_option maxRecDepth 100000 in
theorem ct_X8_whatIs (l : Launch) (G : GG) {p1 : Int32} {M : Mem} {r : Int32} {Mr : Mem}  (hf : f_X8_whatIs p1 M = some (r, Mr)) : Met l yX8_whatIs (wsq yX8_whatIs cX8_whatIs 5 (some .int)) (rmq 6 152) (va_Pc [.ref (G.2.2.1 0), .int p1] (World G M)) (Qi G r Mr) 0 0 (adA G) := by
  refine x_start (plainFor_of_name (by decide)) (Nat.le_of_ble_eq_true rfl) ?_
  intro p e s m args below meth c hB hr hlk hW hS ls hl
  have hx := hB.x
  have hb := hB.b
  have hl : lv_has ls 5 [(0, .ref (G.2.2.1 0)), (1, .int p1)] := hl
  unfold f_X8_whatIs at hf
  refine lv_iload_n hx hb dX8_whatIs_0 rfl (lv_at hl 1 rfl) ?_
  refine lv_iconst (v := (2 : Int32)) hx hb dX8_whatIs_1 (by decide) ?_
  obtain ⟨x1, hg2, hf⟩ := b_o1 hf
  refine x_ci hB (x_rs hB hW hS (As := [.int p1, .int (2 : Int32)]) (rest := []) (ct_X8_isOther l G hg2) (cl_RX8_171 hB.2.2.2.2.1 ⟨Nat.le_of_ble_eq_true rfl, Nat.le_of_ble_eq_true rfl⟩) rfl hl.1 rfl (Nat.le_of_ble_eq_true rfl) dX8_whatIs_2 ⟨Nat.le_refl _, Nat.le_refl _⟩) hS (fun H locs hW hS => ?_)
  refine lv_if_eq (tgt := 15) hx hb dX8_whatIs_5 (by decide) (fun c3 => ?_) (fun c3 => ?_)
  · have hf := i_t hf c3
    refine lv_aload_n hx hb dX8_whatIs_15 rfl (lv_at hl 0 rfl) ?_
    refine fg8_1 hB hW tl0 wd2_92 dX8_whatIs_16 ?_
    refine lv_aload_n hx hb dX8_whatIs_19 rfl (lv_at hl 0 rfl) ?_
    refine fg8_0 hB hW tl0 wd2_91 dX8_whatIs_20 ?_
    obtain ⟨M4, hg5, hf⟩ := b_o1 hf
    refine x_cv hB (x_rv hB hW hS (As := [.ref (G.2.2.1 1)]) (rest := []) (ct_X3_become l G tl12 tl1 hg5) (cl_RX8_65 hB.2.2.2.2.1 ⟨Nat.le_of_ble_eq_true rfl, Nat.le_of_ble_eq_true rfl⟩) tl12 (by decide) rfl rfl hl.1 rfl (Nat.le_of_ble_eq_true rfl) dX8_whatIs_23 ⟨Nat.le_refl _, Nat.le_refl _⟩) hS (fun H locs hW hS => ?_)
    refine lv_iconst (v := (0 : Int32)) hx hb dX8_whatIs_26 (by decide) ?_
    refine lv_istore_n (lv' := [(2, .int (0 : Int32)), (0, .ref (G.2.2.1 0)), (1, .int p1)]) hx hb dX8_whatIs_27 rfl hl (by decide) rfl (fun ls hl => ?_)
    refine lv_iload_n hx hb dX8_whatIs_28 rfl (lv_at hl 2 rfl) ?_
    obtain ⟨y32, evy32⟩ : ∃ z : Int32, (if p1 = 0 then ((6 : Int32)) else ((10 : Int32))) = z := ⟨_, rfl⟩
    have hf := nm_o hf evy32.symm
    have main7 : ∀ (x6 : Int32) (H : Heap) (locs : List Loc) (ls : Array Slot), Wd G M4 H → va_S (adA G) s.heap H locs → lv_has ls 5 [(0, .ref (G.2.2.1 0)), (1, .int p1), (2, .int (0 : Int32))] → x6 = y32 → W p l e (rmq 6 152) s m args below meth c H locs 0 0 (MQ below (Qi G r Mr) args s 0 0 (adA G)) (F0 m 39 ls [.int x6]) := by
      intro x6 H locs ls hW hS hl hE
      have hE := hE.symm
      subst hE
      refine lv_istore_n (lv' := [(3, .int y32), (0, .ref (G.2.2.1 0)), (1, .int p1), (2, .int (0 : Int32))]) hx hb dX8_whatIs_39 rfl hl (by decide) rfl (fun ls hl => ?_)
      refine lv_iconst (v := (0 : Int32)) hx hb dX8_whatIs_40 (by decide) ?_
      refine lv_istore (lv' := [(4, .int (0 : Int32)), (3, .int y32), (0, .ref (G.2.2.1 0)), (1, .int p1), (2, .int (0 : Int32))]) hx hb dX8_whatIs_41 hl (by decide) rfl (fun ls hl => ?_)
      obtain ⟨y15, M16, hL, hf⟩ := b_o2 hf
      have main17 : ∀ (x13 : Int32) (M14 : Mem) (H : Heap) (locs : List Loc) (ls : Array Slot), Wd G M14 H → va_S (adA G) s.heap H locs → lv_has ls 5 [(2, .int x13)] → some (x13, M14) = some (y15, M16) → W p l e (rmq 6 152) s m args below meth c H locs 0 0 (MQ below (Qi G r Mr) args s 0 0 (adA G)) (F0 m 94 ls []) := by
        intro x13 M14 H locs ls hW hS hl hE
        cases hE
        refine lv_iload_n hx hb dX8_whatIs_94 rfl (lv_at hl 0 rfl) ?_
        exact e_i hB hW hS hr hlk (s_1 hf) (s_2 hf) dX8_whatIs_95
      have loop12 : ∀ (n : Nat) (x8 : Int32) (x9 : Int32) (M10 : Mem) (H : Heap) (locs : List Loc) (ls : Array Slot), Wd G M10 H → va_S (adA G) s.heap H locs → lv_has ls 5 [(0, .ref (G.2.2.1 0)), (1, .int p1), (2, .int x8), (3, .int y32), (4, .int x9)] → lq3 (f_X8_whatIs_L43 p1 y32) n x8 x9 M10 = some (y15, M16) → W p l e (rmq 6 152) s m args below meth c H locs 0 0 (MQ below (Qi G r Mr) args s 0 0 (adA G)) (F0 m 43 ls []) := by
        intro n
        induction n with
        | zero => intro x8 x9 M10 H locs ls hW hS hl hf; exact (l_z3 hf).elim
        | succ n ih =>
          intro x8 x9 M10 H locs ls hW hS hl hf
          have hf := l_s3 hf
          generalize lq3 (f_X8_whatIs_L43 p1 y32) n = K11 at ih hf
          unfold f_X8_whatIs_L43 at hf
          refine lv_iload hx hb dX8_whatIs_43 (lv_at hl 4 rfl) ?_
          refine lv_iload_n hx hb dX8_whatIs_45 rfl (lv_at hl 3 rfl) ?_
          refine lv_icmp_ge (tgt := 94) hx hb dX8_whatIs_46 (by decide) (fun c18 => ?_) (fun c18 => ?_)
          · have hf := i_t hf c18
            exact main17 x8 M10 _ _ ls hW hS (lv_sub hl [2] rfl) hf
          · have hf := i_f hf c18
            refine lv_iload_n hx hb dX8_whatIs_49 rfl (lv_at hl 1 rfl) ?_
            obtain ⟨M28, hR, hf⟩ := b_o1 hf
            have main20 : ∀ (M19 : Mem) (H : Heap) (locs : List Loc) (ls : Array Slot), Wd G M19 H → va_S (adA G) s.heap H locs → lv_has ls 5 [(0, .ref (G.2.2.1 0)), (1, .int p1), (2, .int x8), (3, .int y32), (4, .int x9)] → some (M19) = some (M28) → W p l e (rmq 6 152) s m args below meth c H locs 0 0 (MQ below (Qi G r Mr) args s 0 0 (adA G)) (F0 m 74 ls []) := by
              intro M19 H locs ls hW hS hl hE
              cases hE
              refine lv_aload_n hx hb dX8_whatIs_74 rfl (lv_at hl 0 rfl) ?_
              obtain ⟨x21, M22, hg23, hf⟩ := b_o2 hf
              refine x_ci hB (x_rv hB hW hS (As := []) (rest := []) (ct_X8_isAsTold l G hg23) (cl_RX8_339 hB.2.2.2.2.1 ⟨Nat.le_of_ble_eq_true rfl, Nat.le_of_ble_eq_true rfl⟩) tl0 (by decide) rfl rfl hl.1 rfl (Nat.le_of_ble_eq_true rfl) dX8_whatIs_75 ⟨Nat.le_refl _, Nat.le_refl _⟩) hS (fun H locs hW hS => ?_)
              refine lv_if_eq (tgt := 88) hx hb dX8_whatIs_78 (by decide) (fun c24 => ?_) (fun c24 => ?_)
              · have hf := i_t hf c24
                obtain ⟨x25, ex25⟩ : ∃ y : Int32, y = x9 + (1 : Int32) := ⟨_, rfl⟩
                have hf := nm_o hf ex25
                refine lv_iinc (v := x25) (lv' := [(4, .int x25), (0, .ref (G.2.2.1 0)), (1, .int p1), (2, .int x8), (3, .int y32)]) hx hb dX8_whatIs_88 hl (k := 4) rfl (by rw [ex25]; rfl) (by decide) rfl (fun ls hl => ?_)
                refine lv_goto (tgt := 43) hx hb dX8_whatIs_91 (by decide) ?_
                exact ih x8 x25 M22 _ _ ls hW hS (lv_sub hl [1, 2, 3, 4, 0] rfl) hf
              · have hf := i_f hf c24
                refine lv_iload_n hx hb dX8_whatIs_81 rfl (lv_at hl 2 rfl) ?_
                refine lv_iconst (v := (1 : Int32)) hx hb dX8_whatIs_82 (by decide) ?_
                refine lv_iload hx hb dX8_whatIs_83 (lv_at hl 4 rfl) ?_
                refine lv_ishl hx hb dX8_whatIs_85 ?_
                refine lv_ior hx hb dX8_whatIs_86 ?_
                refine lv_topi (fun x26 ex26 => ?_)
                have hf := nm_o hf ex26
                refine lv_istore_n (lv' := [(2, .int x26), (0, .ref (G.2.2.1 0)), (1, .int p1), (3, .int y32), (4, .int x9)]) hx hb dX8_whatIs_87 rfl hl (by decide) rfl (fun ls hl => ?_)
                obtain ⟨x27, ex27⟩ : ∃ y : Int32, y = x9 + (1 : Int32) := ⟨_, rfl⟩
                have hf := nm_o hf ex27
                refine lv_iinc (v := x27) (lv' := [(4, .int x27), (2, .int x26), (0, .ref (G.2.2.1 0)), (1, .int p1), (3, .int y32)]) hx hb dX8_whatIs_88 hl (k := 4) rfl (by rw [ex27]; rfl) (by decide) rfl (fun ls hl => ?_)
                refine lv_goto (tgt := 43) hx hb dX8_whatIs_91 (by decide) ?_
                exact ih x26 x27 M22 _ _ ls hW hS (lv_sub hl [2, 3, 1, 4, 0] rfl) hf
            have hf := hR
            refine lv_if_ne (tgt := 65) hx hb dX8_whatIs_50 (by decide) (fun c29 => ?_) (fun c29 => ?_)
            · have hf := i_f hf c29
              refine lv_aload_n hx hb dX8_whatIs_65 rfl (lv_at hl 0 rfl) ?_
              refine fg8_1 hB hW tl0 wd2_92 dX8_whatIs_66 ?_
              refine lv_iload hx hb dX8_whatIs_69 (lv_at hl 4 rfl) ?_
              refine fp3_12 hB hW hS tl12 wd1_130 dX8_whatIs_71 (fun H locs M30 eM30 hW hS => ?_)
              have hf := nm_o hf eM30
              exact main20 M30 _ _ ls hW hS (lv_sub hl [0, 1, 2, 3, 4] rfl) hf
            · have hf := i_t hf c29
              refine lv_aload_n hx hb dX8_whatIs_53 rfl (lv_at hl 0 rfl) ?_
              refine fg8_1 hB hW tl0 wd2_92 dX8_whatIs_54 ?_
              refine lv_iload hx hb dX8_whatIs_57 (lv_at hl 4 rfl) ?_
              refine fp3_11 hB hW hS tl12 wd1_127 dX8_whatIs_59 (fun H locs M31 eM31 hW hS => ?_)
              have hf := nm_o hf eM31
              refine lv_goto (tgt := 74) hx hb dX8_whatIs_62 (by decide) ?_
              exact main20 M31 _ _ ls hW hS (lv_sub hl [0, 1, 2, 3, 4] rfl) hf
      exact loop12 FU (0 : Int32) (0 : Int32) M4 _ _ ls hW hS (lv_sub hl [2, 3, 4, 1, 0] rfl) hL
    have hf := evy32
    refine lv_if_ne (tgt := 37) hx hb dX8_whatIs_29 (by decide) (fun c33 => ?_) (fun c33 => ?_)
    · have hf := i_f hf c33
      refine lv_bipush (v := (10 : Int32)) hx hb dX8_whatIs_37 (by decide) ?_
      exact main7 (10 : Int32) _ _ ls hW hS (lv_sub hl [1, 2, 0] rfl) hf
    · have hf := i_t hf c33
      refine lv_bipush (v := (6 : Int32)) hx hb dX8_whatIs_32 (by decide) ?_
      refine lv_goto (tgt := 39) hx hb dX8_whatIs_34 (by decide) ?_
      exact main7 (6 : Int32) _ _ ls hW hS (lv_sub hl [1, 2, 0] rfl) hf
  · have hf := i_f hf c3
    refine lv_aload_n hx hb dX8_whatIs_8 rfl (lv_at hl 0 rfl) ?_
    refine lv_bipush (v := (-2 : Int32)) hx hb dX8_whatIs_9 (by decide) ?_
    obtain ⟨x34, M35, hg36, hf⟩ := b_o2 hf
    refine x_ci hB (x_rv hB hW hS (As := [.int (-2 : Int32)]) (rest := []) (ct_X8_refuse l G hg36) (cl_RX8_50 hB.2.2.2.2.1 ⟨Nat.le_of_ble_eq_true rfl, Nat.le_of_ble_eq_true rfl⟩) tl0 (by decide) rfl rfl hl.1 rfl (Nat.le_of_ble_eq_true rfl) dX8_whatIs_11 ⟨Nat.le_refl _, Nat.le_refl _⟩) hS (fun H locs hW hS => ?_)
    exact e_i hB hW hS hr hlk (s_1 hf) (s_2 hf) dX8_whatIs_14
def f_X8_row (p1 : Int32) (M : Mem) : Option (Int32 × Mem) := (if 0 ≤ p1 then (jq (fun (M2 : Mem) => (bq2 (f_X8_refuse (-6 : Int32) M2) (fun (x5 : Int32) (M6 : Mem) => some (x5, M6)))) (fun (K4 : Mem → Option (Int32 × Mem)) => (if (99 : Int32) < p1 then (K4 M) else (if (gi M 0 8) < (16 : Int32) then (bq1 (f_X8_put 137 (gi M 0 8) p1 M) (fun (M10 : Mem) => nmq (si M10 0 8 ((gi M10 0 8) + (1 : Int32))) (fun (M12 : Mem) => some ((gi M12 0 8), M12)))) else (K4 M))))) else (bq2 (f_X8_refuse (-4 : Int32) M) (fun (x13 : Int32) (M14 : Mem) => some (x13, M14))))
set_option maxHeartbeats 4000000 in
set_option maxRecDepth 100000 in
theorem ct_X8_row (l : Launch) (G : GG) {p1 : Int32} {M : Mem} {r : Int32} {Mr : Mem}  (hf : f_X8_row p1 M = some (r, Mr)) : Met l yX8_row (wsq yX8_row cX8_row 2 (some .int)) (rmq 2 43) (va_Pc [.ref (G.2.2.1 0), .int p1] (World G M)) (Qi G r Mr) 0 0 (adA G) := by
  refine x_start (plainFor_of_name (by decide)) (Nat.le_of_ble_eq_true rfl) ?_
  intro p e s m args below meth c hB hr hlk hW hS ls hl
  have hx := hB.x
  have hb := hB.b
  have hl : lv_has ls 2 [(0, .ref (G.2.2.1 0)), (1, .int p1)] := hl
  unfold f_X8_row at hf
  refine lv_iload_n hx hb dX8_row_0 rfl (lv_at hl 1 rfl) ?_
  refine lv_if_ge (tgt := 11) hx hb dX8_row_1 (by decide) (fun c1 => ?_) (fun c1 => ?_)
  · have hf := i_t hf c1
    refine lv_iload_n hx hb dX8_row_11 rfl (lv_at hl 1 rfl) ?_
    refine lv_bipush (v := (99 : Int32)) hx hb dX8_row_12 (by decide) ?_
    obtain ⟨K4, eK4, hf⟩ := j_o hf
    have main3 : ∀ (M2 : Mem) (H : Heap) (locs : List Loc) (ls : Array Slot), Wd G M2 H → va_S (adA G) s.heap H locs → lv_has ls 2 [(0, .ref (G.2.2.1 0))] → K4 M2 = some (r, Mr) → W p l e (rmq 2 43) s m args below meth c H locs 0 0 (MQ below (Qi G r Mr) args s 0 0 (adA G)) (F0 m 29 ls []) := by
      intro M2 H locs ls hW hS hl hf
      subst eK4
      refine lv_aload_n hx hb dX8_row_29 rfl (lv_at hl 0 rfl) ?_
      refine lv_bipush (v := (-6 : Int32)) hx hb dX8_row_30 (by decide) ?_
      obtain ⟨x5, M6, hg7, hf⟩ := b_o2 hf
      refine x_ci hB (x_rv hB hW hS (As := [.int (-6 : Int32)]) (rest := []) (ct_X8_refuse l G hg7) (cl_RX8_50 hB.2.2.2.2.1 ⟨Nat.le_of_ble_eq_true rfl, Nat.le_of_ble_eq_true rfl⟩) tl0 (by decide) rfl rfl hl.1 rfl (Nat.le_of_ble_eq_true rfl) dX8_row_32 ⟨Nat.le_refl _, Nat.le_refl _⟩) hS (fun H locs hW hS => ?_)
      exact e_i hB hW hS hr hlk (s_1 hf) (s_2 hf) dX8_row_35
    refine lv_icmp_gt (tgt := 29) hx hb dX8_row_14 (by decide) (fun c8 => ?_) (fun c8 => ?_)
    · have hf := i_t hf c8
      exact main3 M _ _ ls hW hS (lv_sub hl [0] rfl) hf
    · have hf := i_f hf c8
      refine lv_aload_n hx hb dX8_row_17 rfl (lv_at hl 0 rfl) ?_
      refine fg8_8 hB hW tl0 wd2_99 dX8_row_18 ?_
      refine lv_aload_n hx hb dX8_row_21 rfl (lv_at hl 0 rfl) ?_
      refine fg8_6 hB hW tl0 wd2_97 dX8_row_22 ?_
      refine x_alen hB hW tl137 (by decide) al137 (v := (16 : Int32)) rfl dX8_row_25 ?_
      refine lv_icmp_lt (tgt := 36) hx hb dX8_row_26 (by decide) (fun c9 => ?_) (fun c9 => ?_)
      · have hf := i_t hf c9
        refine lv_aload_n hx hb dX8_row_36 rfl (lv_at hl 0 rfl) ?_
        refine fg8_6 hB hW tl0 wd2_97 dX8_row_37 ?_
        refine lv_aload_n hx hb dX8_row_40 rfl (lv_at hl 0 rfl) ?_
        refine fg8_8 hB hW tl0 wd2_99 dX8_row_41 ?_
        refine lv_iload_n hx hb dX8_row_44 rfl (lv_at hl 1 rfl) ?_
        obtain ⟨M10, hg11, hf⟩ := b_o1 hf
        refine x_cv hB (x_rs hB hW hS (As := [.ref (G.2.2.1 137), .int (gi M 0 8), .int p1]) (rest := []) (ct_X8_put l G tl137 hg11) (cl_RX8_99 hB.2.2.2.2.1 ⟨Nat.le_of_ble_eq_true rfl, Nat.le_of_ble_eq_true rfl⟩) rfl hl.1 rfl (Nat.le_of_ble_eq_true rfl) dX8_row_45 ⟨Nat.le_refl _, Nat.le_refl _⟩) hS (fun H locs hW hS => ?_)
        refine lv_aload_n hx hb dX8_row_48 rfl (lv_at hl 0 rfl) ?_
        refine lv_dup hx hb dX8_row_49 rfl ?_
        refine fg8_8 hB hW tl0 wd2_99 dX8_row_50 ?_
        refine lv_iconst (v := (1 : Int32)) hx hb dX8_row_53 (by decide) ?_
        refine lv_iadd hx hb dX8_row_54 ?_
        refine fp8_8 hB hW hS tl0 wd2_99 dX8_row_55 (fun H locs M12 eM12 hW hS => ?_)
        have hf := nm_o hf eM12
        refine lv_aload_n hx hb dX8_row_58 rfl (lv_at hl 0 rfl) ?_
        refine fg8_8 hB hW tl0 wd2_99 dX8_row_59 ?_
        exact e_i hB hW hS hr hlk (s_1 hf) (s_2 hf) dX8_row_62
      · have hf := i_f hf c9
        exact main3 M _ _ ls hW hS (lv_sub hl [0] rfl) hf
  · have hf := i_f hf c1
    refine lv_aload_n hx hb dX8_row_4 rfl (lv_at hl 0 rfl) ?_
    refine lv_bipush (v := (-4 : Int32)) hx hb dX8_row_5 (by decide) ?_
    obtain ⟨x13, M14, hg15, hf⟩ := b_o2 hf
    refine x_ci hB (x_rv hB hW hS (As := [.int (-4 : Int32)]) (rest := []) (ct_X8_refuse l G hg15) (cl_RX8_50 hB.2.2.2.2.1 ⟨Nat.le_of_ble_eq_true rfl, Nat.le_of_ble_eq_true rfl⟩) tl0 (by decide) rfl rfl hl.1 rfl (Nat.le_of_ble_eq_true rfl) dX8_row_7 ⟨Nat.le_refl _, Nat.le_refl _⟩) hS (fun H locs hW hS => ?_)
    exact e_i hB hW hS hr hlk (s_1 hf) (s_2 hf) dX8_row_10
def f_X8_firstNotSo_L2 (M : Mem) (K2 : Int32 → Option Int32) (x1 : Int32) : Option Int32 := (if (gi M 0 8) ≤ x1 then (if (gi M 126 3) ≤ (gi M 0 8) then some (-9 : Int32) else some (gi M 0 8)) else (if (gi M 126 3) ≤ x1 then some x1 else (bq1 (f_X8_at 137 x1 M) (fun (x7 : Int32) => bq1 (f_X8_at 132 x1 M) (fun (x9 : Int32) => (if x7 = x9 then (nmq (x1 + (1 : Int32)) (fun (x12 : Int32) => (K2 x12))) else some x1))))))
def f_X8_firstNotSo (M : Mem) : Option Int32 := (lq1 (f_X8_firstNotSo_L2 M) FU (0 : Int32))
set_option maxHeartbeats 4000000 in
set_option maxRecDepth 100000 in
theorem ct_X8_firstNotSo (l : Launch) (G : GG)  {M : Mem} {r : Int32}  (hf : f_X8_firstNotSo M = some r) : Met l yX8_firstNotSo (wsq yX8_firstNotSo cX8_firstNotSo 2 (some .int)) (rmq 1 21) (va_Pc [.ref (G.2.2.1 0)] (World G M)) (Qi G r M) 0 0 (adA G) := by
  refine x_start (plainFor_of_name (by decide)) (Nat.le_of_ble_eq_true rfl) ?_
  intro p e s m args below meth c hB hr hlk hW hS ls hl
  have hx := hB.x
  have hb := hB.b
  have hl : lv_has ls 2 [(0, .ref (G.2.2.1 0))] := hl
  unfold f_X8_firstNotSo at hf
  refine lv_iconst (v := (0 : Int32)) hx hb dX8_firstNotSo_0 (by decide) ?_
  refine lv_istore_n (lv' := [(1, .int (0 : Int32)), (0, .ref (G.2.2.1 0))]) hx hb dX8_firstNotSo_1 rfl hl (by decide) rfl (fun ls hl => ?_)
  have loop3 : ∀ (n : Nat) (x1 : Int32) (H : Heap) (locs : List Loc) (ls : Array Slot), Wd G M H → va_S (adA G) s.heap H locs → lv_has ls 2 [(0, .ref (G.2.2.1 0)), (1, .int x1)] → lq1 (f_X8_firstNotSo_L2 M) n x1 = some r → W p l e (rmq 1 21) s m args below meth c H locs 0 0 (MQ below (Qi G r M) args s 0 0 (adA G)) (F0 m 2 ls []) := by
    intro n
    induction n with
    | zero => intro x1 H locs ls hW hS hl hf; exact (l_z1 hf).elim
    | succ n ih =>
      intro x1 H locs ls hW hS hl hf
      have hf := l_s1 hf
      generalize lq1 (f_X8_firstNotSo_L2 M) n = K2 at ih hf
      unfold f_X8_firstNotSo_L2 at hf
      refine lv_iload_n hx hb dX8_firstNotSo_2 rfl (lv_at hl 1 rfl) ?_
      refine lv_aload_n hx hb dX8_firstNotSo_3 rfl (lv_at hl 0 rfl) ?_
      refine fg8_8 hB hW tl0 wd2_99 dX8_firstNotSo_4 ?_
      refine lv_icmp_ge (tgt := 51) hx hb dX8_firstNotSo_7 (by decide) (fun c4 => ?_) (fun c4 => ?_)
      · have hf := i_t hf c4
        refine lv_aload_n hx hb dX8_firstNotSo_51 rfl (lv_at hl 0 rfl) ?_
        refine fg8_8 hB hW tl0 wd2_99 dX8_firstNotSo_52 ?_
        refine lv_aload_n hx hb dX8_firstNotSo_55 rfl (lv_at hl 0 rfl) ?_
        refine fg8_5 hB hW tl0 wd2_96 dX8_firstNotSo_56 ?_
        refine fg6_3 hB hW tl126 wd2_68 dX8_firstNotSo_59 ?_
        refine lv_icmp_ge (tgt := 72) hx hb dX8_firstNotSo_62 (by decide) (fun c5 => ?_) (fun c5 => ?_)
        · have hf := i_t hf c5
          refine lv_bipush (v := (-9 : Int32)) hx hb dX8_firstNotSo_72 (by decide) ?_
          exact e_i hB hW hS hr hlk (Option.some.inj hf) rfl dX8_firstNotSo_74
        · have hf := i_f hf c5
          refine lv_aload_n hx hb dX8_firstNotSo_65 rfl (lv_at hl 0 rfl) ?_
          refine fg8_8 hB hW tl0 wd2_99 dX8_firstNotSo_66 ?_
          refine lv_goto (tgt := 74) hx hb dX8_firstNotSo_69 (by decide) ?_
          exact e_i hB hW hS hr hlk (Option.some.inj hf) rfl dX8_firstNotSo_74
      · have hf := i_f hf c4
        refine lv_iload_n hx hb dX8_firstNotSo_10 rfl (lv_at hl 1 rfl) ?_
        refine lv_aload_n hx hb dX8_firstNotSo_11 rfl (lv_at hl 0 rfl) ?_
        refine fg8_5 hB hW tl0 wd2_96 dX8_firstNotSo_12 ?_
        refine fg6_3 hB hW tl126 wd2_68 dX8_firstNotSo_15 ?_
        refine lv_icmp_ge (tgt := 43) hx hb dX8_firstNotSo_18 (by decide) (fun c6 => ?_) (fun c6 => ?_)
        · have hf := i_t hf c6
          refine lv_iload_n hx hb dX8_firstNotSo_43 rfl (lv_at hl 1 rfl) ?_
          exact e_i hB hW hS hr hlk (Option.some.inj hf) rfl dX8_firstNotSo_44
        · have hf := i_f hf c6
          refine lv_aload_n hx hb dX8_firstNotSo_21 rfl (lv_at hl 0 rfl) ?_
          refine fg8_6 hB hW tl0 wd2_97 dX8_firstNotSo_22 ?_
          refine lv_iload_n hx hb dX8_firstNotSo_25 rfl (lv_at hl 1 rfl) ?_
          obtain ⟨x7, hg8, hf⟩ := b_o1 hf
          refine x_ci hB (x_rs hB hW hS (As := [.ref (G.2.2.1 137), .int x1]) (rest := []) (ct_X8_at l G tl137 hg8) (cl_RX8_95 hB.2.2.2.2.1 ⟨Nat.le_of_ble_eq_true rfl, Nat.le_of_ble_eq_true rfl⟩) rfl hl.1 rfl (Nat.le_of_ble_eq_true rfl) dX8_firstNotSo_26 ⟨Nat.le_refl _, Nat.le_refl _⟩) hS (fun H locs hW hS => ?_)
          refine lv_aload_n hx hb dX8_firstNotSo_29 rfl (lv_at hl 0 rfl) ?_
          refine fg8_5 hB hW tl0 wd2_96 dX8_firstNotSo_30 ?_
          refine fg6_2 hB hW tl126 wd2_66 dX8_firstNotSo_33 ?_
          refine lv_iload_n hx hb dX8_firstNotSo_36 rfl (lv_at hl 1 rfl) ?_
          obtain ⟨x9, hg10, hf⟩ := b_o1 hf
          refine x_ci hB (x_rs hB hW hS (As := [.ref (G.2.2.1 132), .int x1]) (rest := [.int x7]) (ct_X8_at l G tl132 hg10) (cl_RX8_95 hB.2.2.2.2.1 ⟨Nat.le_of_ble_eq_true rfl, Nat.le_of_ble_eq_true rfl⟩) rfl hl.1 rfl (Nat.le_of_ble_eq_true rfl) dX8_firstNotSo_37 ⟨Nat.le_refl _, Nat.le_refl _⟩) hS (fun H locs hW hS => ?_)
          refine lv_icmp_eq (tgt := 45) hx hb dX8_firstNotSo_40 (by decide) (fun c11 => ?_) (fun c11 => ?_)
          · have hf := i_t hf c11
            obtain ⟨x12, ex12⟩ : ∃ y : Int32, y = x1 + (1 : Int32) := ⟨_, rfl⟩
            have hf := nm_o hf ex12
            refine lv_iinc (v := x12) (lv' := [(1, .int x12), (0, .ref (G.2.2.1 0))]) hx hb dX8_firstNotSo_45 hl (k := 1) rfl (by rw [ex12]; rfl) (by decide) rfl (fun ls hl => ?_)
            refine lv_goto (tgt := 2) hx hb dX8_firstNotSo_48 (by decide) ?_
            exact ih x12 _ _ ls hW hS (lv_sub hl [1, 0] rfl) hf
          · have hf := i_f hf c11
            refine lv_iload_n hx hb dX8_firstNotSo_43 rfl (lv_at hl 1 rfl) ?_
            exact e_i hB hW hS hr hlk (Option.some.inj hf) rfl dX8_firstNotSo_44
  exact loop3 FU (0 : Int32) _ _ ls hW hS (lv_sub hl [1, 0] rfl) hf
theorem cl_RX8_345 {R : Room} {s : State} {args : Array Value} (ht : ∀ w ∈ lw_all, w.before args s = true) (hR : 1 + 1 ≤ R.frames ∧ 8 + (2 + 11) + 21 ≤ R.locals) : CallW R s args RX8 RX8 345 yX8_firstNotSo cX8_firstNotSo 2 (some .int) (wsq yX8_firstNotSo cX8_firstNotSo 2 (some .int)) (rmq 1 21) 0 0 0 := cwV 0 ht (goodV wd5_38 wd5_40 wsel_34 wd1_1 wd5_41) rfl rfl rfl (by decide +kernel) hR
def f_X8_judge (M : Mem) : Option (Int32 × Mem) := (bq2 (f_X6_set 1 (0 : Int32) M) (fun (x1 : Int32) (M2 : Mem) => bq1 (f_X8_firstNotSo M2) (fun (x4 : Int32) => nmq (si M2 0 8 (0 : Int32)) (fun (M6 : Mem) => some (x4, M6)))))
set_option maxHeartbeats 4000000 in
set_option maxRecDepth 100000 in
theorem ct_X8_judge (l : Launch) (G : GG)  {M : Mem} {r : Int32} {Mr : Mem}  (hf : f_X8_judge M = some (r, Mr)) : Met l yX8_judge (wsq yX8_judge cX8_judge 2 (some .int)) (rmq 6 152) (va_Pc [.ref (G.2.2.1 0)] (World G M)) (Qi G r Mr) 0 0 (adA G) := by
  refine x_start (plainFor_of_name (by decide)) (Nat.le_of_ble_eq_true rfl) ?_
  intro p e s m args below meth c hB hr hlk hW hS ls hl
  have hx := hB.x
  have hb := hB.b
  have hl : lv_has ls 2 [(0, .ref (G.2.2.1 0))] := hl
  unfold f_X8_judge at hf
  refine lv_aload_n hx hb dX8_judge_0 rfl (lv_at hl 0 rfl) ?_
  refine fg8_5 hB hW tl0 wd2_96 dX8_judge_1 ?_
  refine lv_aload_n hx hb dX8_judge_4 rfl (lv_at hl 0 rfl) ?_
  refine fg8_0 hB hW tl0 wd2_91 dX8_judge_5 ?_
  refine lv_iconst (v := (0 : Int32)) hx hb dX8_judge_8 (by decide) ?_
  obtain ⟨x1, M2, hg3, hf⟩ := b_o2 hf
  refine x_ci hB (x_rv hB hW hS (As := [.ref (G.2.2.1 1), .int (0 : Int32)]) (rest := []) (ct_X6_set l G tl1 hg3) (cl_RX8_229 hB.2.2.2.2.1 ⟨Nat.le_of_ble_eq_true rfl, Nat.le_of_ble_eq_true rfl⟩) tl126 (by decide) rfl rfl hl.1 rfl (Nat.le_of_ble_eq_true rfl) dX8_judge_9 ⟨Nat.le_refl _, Nat.le_refl _⟩) hS (fun H locs hW hS => ?_)
  refine lv_pop hx hb dX8_judge_12 rfl ?_
  refine lv_aload_n hx hb dX8_judge_13 rfl (lv_at hl 0 rfl) ?_
  obtain ⟨x4, hg5, hf⟩ := b_o1 hf
  refine x_ci hB (x_rv hB hW hS (As := []) (rest := []) (ct_X8_firstNotSo l G hg5) (cl_RX8_345 hB.2.2.2.2.1 ⟨Nat.le_of_ble_eq_true rfl, Nat.le_of_ble_eq_true rfl⟩) tl0 (by decide) rfl rfl hl.1 rfl (Nat.le_of_ble_eq_true rfl) dX8_judge_14 ⟨Nat.le_refl _, Nat.le_refl _⟩) hS (fun H locs hW hS => ?_)
  refine lv_istore_n (lv' := [(1, .int x4), (0, .ref (G.2.2.1 0))]) hx hb dX8_judge_17 rfl hl (by decide) rfl (fun ls hl => ?_)
  refine lv_aload_n hx hb dX8_judge_18 rfl (lv_at hl 1 rfl) ?_
  refine lv_iconst (v := (0 : Int32)) hx hb dX8_judge_19 (by decide) ?_
  refine fp8_8 hB hW hS tl0 wd2_99 dX8_judge_20 (fun H locs M6 eM6 hW hS => ?_)
  have hf := nm_o hf eM6
  refine lv_iload_n hx hb dX8_judge_23 rfl (lv_at hl 0 rfl) ?_
  exact e_i hB hW hS hr hlk (s_1 hf) (s_2 hf) dX8_judge_24
def f_X8_clear (M : Mem) : Option (Int32 × Mem) := (nmq ((gi M 0 8)) (fun (x1 : Int32) => nmq (si M 0 8 (0 : Int32)) (fun (M2 : Mem) => some (x1, M2))))
set_option maxHeartbeats 4000000 in
set_option maxRecDepth 100000 in
theorem ct_X8_clear (l : Launch) (G : GG)  {M : Mem} {r : Int32} {Mr : Mem}  (hf : f_X8_clear M = some (r, Mr)) : Met l yX8_clear (wsq yX8_clear cX8_clear 2 (some .int)) (rmq 0 0) (va_Pc [.ref (G.2.2.1 0)] (World G M)) (Qi G r Mr) 0 0 (adA G) := by
  refine x_start (plainFor_of_name (by decide)) (Nat.le_of_ble_eq_true rfl) ?_
  intro p e s m args below meth c hB hr hlk hW hS ls hl
  have hx := hB.x
  have hb := hB.b
  have hl : lv_has ls 2 [(0, .ref (G.2.2.1 0))] := hl
  unfold f_X8_clear at hf
  refine lv_aload_n hx hb dX8_clear_0 rfl (lv_at hl 0 rfl) ?_
  refine fg8_8 hB hW tl0 wd2_99 dX8_clear_1 ?_
  refine lv_topi (fun x1 ex1 => ?_)
  have hf := nm_o hf ex1
  refine lv_istore_n (lv' := [(1, .int x1), (0, .ref (G.2.2.1 0))]) hx hb dX8_clear_4 rfl hl (by decide) rfl (fun ls hl => ?_)
  refine lv_aload_n hx hb dX8_clear_5 rfl (lv_at hl 1 rfl) ?_
  refine lv_iconst (v := (0 : Int32)) hx hb dX8_clear_6 (by decide) ?_
  refine fp8_8 hB hW hS tl0 wd2_99 dX8_clear_7 (fun H locs M2 eM2 hW hS => ?_)
  have hf := nm_o hf eM2
  refine lv_iload_n hx hb dX8_clear_10 rfl (lv_at hl 0 rfl) ?_
  exact e_i hB hW hS hr hlk (s_1 hf) (s_2 hf) dX8_clear_11
