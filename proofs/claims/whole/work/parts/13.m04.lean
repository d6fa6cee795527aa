def f_X3_penaltyOfHyphen (k0 : Nat) (M : Mem) : Option Int32 := (if (gi M k0 11) = (5 : Int32) then some ((gi M k0 8) + (gi M k0 12)) else (bq1 (f_X3_isTight k0 M) (fun (x2 : Int32) => (if x2 = 0 then some (gi M k0 8) else some ((gi M k0 8) / (2 : Int32))))))
set_option maxHeartbeats 4000000 in
set_option maxRecDepth 100000 in
theorem ct_X3_penaltyOfHyphen (l : Launch) (G : GG) {k0 : Nat} {M : Mem} {r : Int32} (hk0 : isT 3 k0) (hf : f_X3_penaltyOfHyphen k0 M = some r) : Met l yX3_penaltyOfHyphen (wsq yX3_penaltyOfHyphen cX3_penaltyOfHyphen 1 (some .int)) (rmq 1 20) (va_Pc [.ref (G.2.2.1 k0)] (World G M)) (Qi G r M) 0 0 (adA G) := by
  refine x_start (plainFor_of_name (by decide)) (Nat.le_of_ble_eq_true rfl) ?_
  intro p e s m args below meth c hB hr hlk hW hS ls hl
  have hx := hB.x
  have hb := hB.b
  have hl : lv_has ls 1 [(0, .ref (G.2.2.1 k0))] := hl
  unfold f_X3_penaltyOfHyphen at hf
  refine lv_aload_n hx hb dX3_penaltyOfHyphen_0 rfl (lv_at hl 0 rfl) ?_
  refine fg3_11 hB hW hk0 wd1_126 dX3_penaltyOfHyphen_1 ?_
  refine lv_iconst (v := (5 : Int32)) hx hb dX3_penaltyOfHyphen_4 (by decide) ?_
  refine lv_icmp_ne (tgt := 18) hx hb dX3_penaltyOfHyphen_5 (by decide) (fun c1 => ?_) (fun c1 => ?_)
  · have hf := i_f hf c1
    refine lv_aload_n hx hb dX3_penaltyOfHyphen_18 rfl (lv_at hl 0 rfl) ?_
    obtain ⟨x2, hg3, hf⟩ := b_o1 hf
    refine x_ci hB (x_rv hB hW hS (As := []) (rest := []) (ct_X3_isTight l G hk0 hg3) (cl_RX3_106 hB.2.2.2.2.1 ⟨Nat.le_of_ble_eq_true rfl, Nat.le_of_ble_eq_true rfl⟩) hk0 (by decide) rfl rfl hl.1 rfl (Nat.le_of_ble_eq_true rfl) dX3_penaltyOfHyphen_19 ⟨Nat.le_refl _, Nat.le_refl _⟩) hS (fun H locs hW hS => ?_)
    refine lv_if_eq (tgt := 34) hx hb dX3_penaltyOfHyphen_22 (by decide) (fun c4 => ?_) (fun c4 => ?_)
    · have hf := i_t hf c4
      refine lv_aload_n hx hb dX3_penaltyOfHyphen_34 rfl (lv_at hl 0 rfl) ?_
      refine fg3_8 hB hW hk0 wd1_115 dX3_penaltyOfHyphen_35 ?_
      exact e_i hB hW hS hr hlk (Option.some.inj hf) rfl dX3_penaltyOfHyphen_38
    · have hf := i_f hf c4
      refine lv_aload_n hx hb dX3_penaltyOfHyphen_25 rfl (lv_at hl 0 rfl) ?_
      refine fg3_8 hB hW hk0 wd1_115 dX3_penaltyOfHyphen_26 ?_
      refine lv_iconst (v := (2 : Int32)) hx hb dX3_penaltyOfHyphen_29 (by decide) ?_
      refine lv_idiv hx hb dX3_penaltyOfHyphen_30 (by decide) ?_
      refine lv_goto (tgt := 38) hx hb dX3_penaltyOfHyphen_31 (by decide) ?_
      exact e_i hB hW hS hr hlk (Option.some.inj hf) rfl dX3_penaltyOfHyphen_38
  · have hf := i_t hf c1
    refine lv_aload_n hx hb dX3_penaltyOfHyphen_8 rfl (lv_at hl 0 rfl) ?_
    refine fg3_8 hB hW hk0 wd1_115 dX3_penaltyOfHyphen_9 ?_
    refine lv_aload_n hx hb dX3_penaltyOfHyphen_12 rfl (lv_at hl 0 rfl) ?_
    refine fg3_12 hB hW hk0 wd1_129 dX3_penaltyOfHyphen_13 ?_
    refine lv_iadd hx hb dX3_penaltyOfHyphen_16 ?_
    exact e_i hB hW hS hr hlk (Option.some.inj hf) rfl dX3_penaltyOfHyphen_17
theorem cl_RX2_31 {R : Room} {s : State} {args : Array Value} (ht : ∀ w ∈ lw_all, w.before args s = true) (hR : 0 + 1 ≤ R.frames ∧ 8 + (1 + 11) + 0 ≤ R.locals) : CallW R s args RX2 RX3 31 yX3_stretchOfGlue cX3_stretchOfGlue 1 (some .int) (wsq yX3_stretchOfGlue cX3_stretchOfGlue 1 (some .int)) (rmq 0 0) 0 0 0 := cwV 0 ht (goodV wd4_34 wd4_35 wd4_36 wd1_2 wd4_37) rfl rfl rfl (by decide +kernel) hR
theorem cl_RX2_38 {R : Room} {s : State} {args : Array Value} (ht : ∀ w ∈ lw_all, w.before args s = true) (hR : 1 + 1 ≤ R.frames ∧ 8 + (1 + 11) + 21 ≤ R.locals) : CallW R s args RX2 RX3 38 yX3_shrinkOfGlue cX3_shrinkOfGlue 1 (some .int) (wsq yX3_shrinkOfGlue cX3_shrinkOfGlue 1 (some .int)) (rmq 1 21) 0 0 0 := cwV 0 ht (goodV wd4_38 wd4_39 wd4_40 wd1_2 wd4_41) rfl rfl rfl (by decide +kernel) hR
theorem cl_RX2_44 {R : Room} {s : State} {args : Array Value} (ht : ∀ w ∈ lw_all, w.before args s = true) (hR : 1 + 1 ≤ R.frames ∧ 8 + (1 + 11) + 20 ≤ R.locals) : CallW R s args RX2 RX3 44 yX3_penaltyOfHyphen cX3_penaltyOfHyphen 1 (some .int) (wsq yX3_penaltyOfHyphen cX3_penaltyOfHyphen 1 (some .int)) (rmq 1 20) 0 0 0 := cwV 0 ht (goodV wd4_47 wd4_48 wd4_49 wd1_2 wd4_50) rfl rfl rfl (by decide +kernel) hR
def f_X2_measureBy (k1 : Nat) (M : Mem) : Option Mem := (nmq (si M 127 10 (gi M k1 3)) (fun (M1 : Mem) => nmq (si M1 127 11 (gi M1 k1 4)) (fun (M2 : Mem) => bq1 (f_X3_stretchOfGlue k1 M2) (fun (x3 : Int32) => nmq (si M2 127 12 x3) (fun (M5 : Mem) => bq1 (f_X3_shrinkOfGlue k1 M5) (fun (x6 : Int32) => nmq (si M5 127 13 x6) (fun (M8 : Mem) => bq1 (f_X3_penaltyOfHyphen k1 M8) (fun (x9 : Int32) => nmq (si M8 127 14 x9) (fun (M11 : Mem) => nmq (si M11 127 15 (gi M11 k1 10)) (fun (M12 : Mem) => nmq (si M12 127 16 (gi M12 k1 9)) (fun (M13 : Mem) => nmq (FP.fdiv (FP.i2f (gi M13 k1 7)) (1082130432 : UInt32)) (fun (x14 : UInt32) => gq (nN x14) (nmq (sf M13 127 17 x14) (fun (M16 : Mem) => some M16))))))))))))))
set_option maxHeartbeats 4000000 in
set_option maxRecDepth 100000 in
theorem ct_X2_measureBy (l : Launch) (G : GG) {k1 : Nat} {M : Mem} {Mr : Mem} (hk1 : isT 3 k1) (hf : f_X2_measureBy k1 M = some Mr) : Met l yX2_measureBy (wsq yX2_measureBy cX2_measureBy 2 none) (rmq 2 41) (va_Pc [.ref (G.2.2.1 127), .ref (G.2.2.1 k1)] (World G M)) (Qv G Mr) 0 0 (adA G) := by
  refine x_start (plainFor_of_name (by decide)) (Nat.le_of_ble_eq_true rfl) ?_
  intro p e s m args below meth c hB hr hlk hW hS ls hl
  have hx := hB.x
  have hb := hB.b
  have hl : lv_has ls 2 [(0, .ref (G.2.2.1 127)), (1, .ref (G.2.2.1 k1))] := hl
  unfold f_X2_measureBy at hf
  refine lv_aload_n hx hb dX2_measureBy_0 rfl (lv_at hl 0 rfl) ?_
  refine lv_aload_n hx hb dX2_measureBy_1 rfl (lv_at hl 1 rfl) ?_
  refine fg3_3 hB hW hk1 wd1_101 dX2_measureBy_2 ?_
  refine fp2_10 hB hW hS tl127 wd2_16 dX2_measureBy_5 (fun H locs M1 eM1 hW hS => ?_)
  have hf := nm_o hf eM1
  refine lv_aload_n hx hb dX2_measureBy_8 rfl (lv_at hl 0 rfl) ?_
  refine lv_aload_n hx hb dX2_measureBy_9 rfl (lv_at hl 1 rfl) ?_
  refine fg3_4 hB hW hk1 wd1_105 dX2_measureBy_10 ?_
  refine fp2_11 hB hW hS tl127 wd2_17 dX2_measureBy_13 (fun H locs M2 eM2 hW hS => ?_)
  have hf := nm_o hf eM2
  refine lv_aload_n hx hb dX2_measureBy_16 rfl (lv_at hl 0 rfl) ?_
  refine lv_aload_n hx hb dX2_measureBy_17 rfl (lv_at hl 1 rfl) ?_
  obtain ⟨x3, hg4, hf⟩ := b_o1 hf
  refine x_ci hB (x_rv hB hW hS (As := []) (rest := [.ref (G.2.2.1 127)]) (ct_X3_stretchOfGlue l G hk1 hg4) (cl_RX2_31 hB.2.2.2.2.1 ⟨Nat.le_of_ble_eq_true rfl, Nat.le_of_ble_eq_true rfl⟩) hk1 (by decide) rfl rfl hl.1 rfl (Nat.le_of_ble_eq_true rfl) dX2_measureBy_18 ⟨Nat.le_refl _, Nat.le_refl _⟩) hS (fun H locs hW hS => ?_)
  refine fp2_12 hB hW hS tl127 wd2_18 dX2_measureBy_21 (fun H locs M5 eM5 hW hS => ?_)
  have hf := nm_o hf eM5
  refine lv_aload_n hx hb dX2_measureBy_24 rfl (lv_at hl 0 rfl) ?_
  refine lv_aload_n hx hb dX2_measureBy_25 rfl (lv_at hl 1 rfl) ?_
  obtain ⟨x6, hg7, hf⟩ := b_o1 hf
  refine x_ci hB (x_rv hB hW hS (As := []) (rest := [.ref (G.2.2.1 127)]) (ct_X3_shrinkOfGlue l G hk1 hg7) (cl_RX2_38 hB.2.2.2.2.1 ⟨Nat.le_of_ble_eq_true rfl, Nat.le_of_ble_eq_true rfl⟩) hk1 (by decide) rfl rfl hl.1 rfl (Nat.le_of_ble_eq_true rfl) dX2_measureBy_26 ⟨Nat.le_refl _, Nat.le_refl _⟩) hS (fun H locs hW hS => ?_)
  refine fp2_13 hB hW hS tl127 wd2_19 dX2_measureBy_29 (fun H locs M8 eM8 hW hS => ?_)
  have hf := nm_o hf eM8
  refine lv_aload_n hx hb dX2_measureBy_32 rfl (lv_at hl 0 rfl) ?_
  refine lv_aload_n hx hb dX2_measureBy_33 rfl (lv_at hl 1 rfl) ?_
  obtain ⟨x9, hg10, hf⟩ := b_o1 hf
  refine x_ci hB (x_rv hB hW hS (As := []) (rest := [.ref (G.2.2.1 127)]) (ct_X3_penaltyOfHyphen l G hk1 hg10) (cl_RX2_44 hB.2.2.2.2.1 ⟨Nat.le_of_ble_eq_true rfl, Nat.le_of_ble_eq_true rfl⟩) hk1 (by decide) rfl rfl hl.1 rfl (Nat.le_of_ble_eq_true rfl) dX2_measureBy_34 ⟨Nat.le_refl _, Nat.le_refl _⟩) hS (fun H locs hW hS => ?_)
  refine fp2_14 hB hW hS tl127 wd2_20 dX2_measureBy_37 (fun H locs M11 eM11 hW hS => ?_)
  have hf := nm_o hf eM11
  refine lv_aload_n hx hb dX2_measureBy_40 rfl (lv_at hl 0 rfl) ?_
  refine lv_aload_n hx hb dX2_measureBy_41 rfl (lv_at hl 1 rfl) ?_
  refine fg3_10 hB hW hk1 wd1_122 dX2_measureBy_42 ?_
  refine fp2_15 hB hW hS tl127 wd2_21 dX2_measureBy_45 (fun H locs M12 eM12 hW hS => ?_)
  have hf := nm_o hf eM12
  refine lv_aload_n hx hb dX2_measureBy_48 rfl (lv_at hl 0 rfl) ?_
  refine lv_aload_n hx hb dX2_measureBy_49 rfl (lv_at hl 1 rfl) ?_
  refine fg3_9 hB hW hk1 wd1_119 dX2_measureBy_50 ?_
  refine fp2_16 hB hW hS tl127 wd2_22 dX2_measureBy_53 (fun H locs M13 eM13 hW hS => ?_)
  have hf := nm_o hf eM13
  refine lv_aload_n hx hb dX2_measureBy_56 rfl (lv_at hl 0 rfl) ?_
  refine lv_aload_n hx hb dX2_measureBy_57 rfl (lv_at hl 1 rfl) ?_
  refine fg3_7 hB hW hk1 wd1_112 dX2_measureBy_58 ?_
  refine lv_i2f hx hb dX2_measureBy_61 ?_
  refine lv_ldcf (v := (1082130432 : UInt32)) hx hb hB.ow (hB.w wd4_51) dX2_measureBy_62 ?_
  obtain ⟨x14, ex14⟩ : ∃ y : UInt32, y = FP.fdiv (FP.i2f (gi M13 k1 7)) (1082130432 : UInt32) := ⟨_, rfl⟩
  have hf := nm_o hf ex14
  obtain ⟨h15, hf⟩ := g_o hf
  refine y_fdiv hB ex14 h15 dX2_measureBy_64 ?_
  refine fp2_17 hB hW hS tl127 wd2_23 dX2_measureBy_65 (fun H locs M16 eM16 hW hS => ?_)
  have hf := nm_o hf eM16
  exact e_v hB hW hS hr hlk (Option.some.inj hf) dX2_measureBy_68
def f_J7_fill_e525d_L5 (k1 : Nat) (p2 : UInt32) (x1 : Int32) (K4 : Int32 → Mem → Option (Mem)) (x2 : Int32) (M3 : Mem) : Option (Mem) := (if x1 ≤ x2 then (some (M3)) else (gq (inB x2 (alen k1)) (nmq (sf M3 k1 ((x2 : Int32).toNatClampNeg) p2) (fun (M11 : Mem) => nmq (x2 + (1 : Int32)) (fun (x12 : Int32) => (K4 x12 M11))))))
def f_J7_fill_e525d (k1 : Nat) (p2 : UInt32) (M : Mem) : Option Mem := (nmq ((Int32.ofNat (alen k1))) (fun (x1 : Int32) => (bq1 (lq2 (f_J7_fill_e525d_L5 k1 p2 x1) FU (0 : Int32) M) (fun (M6 : Mem) => some M6))))
set_option maxHeartbeats 4000000 in
set_option maxRecDepth 100000 in
theorem ct_J7_fill_e525d (l : Launch) (G : GG) {k1 : Nat} {p2 : UInt32} {M : Mem} {Mr : Mem} (hk1 : isT 12 k1) (hf : f_J7_fill_e525d k1 p2 M = some Mr) : Met l yJ7_fill_e525d (wsq yJ7_fill_e525d cJ7_fill_e525d 4 none) (rmq 0 0) (va_Pc [.ref (G.2.2.1 k1), .float p2] (World G M)) (Qv G Mr) 0 0 (adA G) := by
  refine x_start (by decide +kernel) (Nat.le_of_ble_eq_true rfl) ?_
  intro p e s m args below meth c hB hr hlk hW hS ls hl
  have hx := hB.x
  have hb := hB.b
  have hl : lv_has ls 4 [(0, .ref (G.2.2.1 k1)), (1, .float p2)] := hl
  unfold f_J7_fill_e525d at hf
  refine lv_iconst (v := (0 : Int32)) hx hb dJ7_fill_e525d_0 (by decide) ?_
  refine lv_istore_n (lv' := [(2, .int (0 : Int32)), (0, .ref (G.2.2.1 k1)), (1, .float p2)]) hx hb dJ7_fill_e525d_1 rfl hl (by decide) rfl (fun ls hl => ?_)
  refine lv_aload_n hx hb dJ7_fill_e525d_2 rfl (lv_at hl 1 rfl) ?_
  refine x_alen hB hW hk1 (by decide) rfl (v := (Int32.ofNat (alen k1))) rfl dJ7_fill_e525d_3 ?_
  refine lv_topi (fun x1 ex1 => ?_)
  have hf := nm_o hf ex1
  refine lv_istore_n (lv' := [(3, .int x1), (2, .int (0 : Int32)), (0, .ref (G.2.2.1 k1)), (1, .float p2)]) hx hb dJ7_fill_e525d_4 rfl hl (by decide) rfl (fun ls hl => ?_)
  obtain ⟨M7, hL, hf⟩ := b_o1 hf
  have main8 : ∀ (M6 : Mem) (H : Heap) (locs : List Loc) (ls : Array Slot), Wd G M6 H → va_S (adA G) s.heap H locs → lv_has ls 4 [] → some (M6) = some (M7) → W p l e (rmq 0 0) s m args below meth c H locs 0 0 (MQ below (Qv G Mr) args s 0 0 (adA G)) (F0 m 20 ls []) := by
    intro M6 H locs ls hW hS hl hE
    cases hE
    exact e_v hB hW hS hr hlk (Option.some.inj hf) dJ7_fill_e525d_20
  have loop5 : ∀ (n : Nat) (x2 : Int32) (M3 : Mem) (H : Heap) (locs : List Loc) (ls : Array Slot), Wd G M3 H → va_S (adA G) s.heap H locs → lv_has ls 4 [(0, .ref (G.2.2.1 k1)), (1, .float p2), (2, .int x2), (3, .int x1)] → lq2 (f_J7_fill_e525d_L5 k1 p2 x1) n x2 M3 = some (M7) → W p l e (rmq 0 0) s m args below meth c H locs 0 0 (MQ below (Qv G Mr) args s 0 0 (adA G)) (F0 m 5 ls []) := by
    intro n
    induction n with
    | zero => intro x2 M3 H locs ls hW hS hl hf; exact (l_z2 hf).elim
    | succ n ih =>
      intro x2 M3 H locs ls hW hS hl hf
      have hf := l_s2 hf
      generalize lq2 (f_J7_fill_e525d_L5 k1 p2 x1) n = K4 at ih hf
      unfold f_J7_fill_e525d_L5 at hf
      refine lv_iload_n hx hb dJ7_fill_e525d_5 rfl (lv_at hl 2 rfl) ?_
      refine lv_iload_n hx hb dJ7_fill_e525d_6 rfl (lv_at hl 3 rfl) ?_
      refine lv_icmp_ge (tgt := 20) hx hb dJ7_fill_e525d_7 (by decide) (fun c9 => ?_) (fun c9 => ?_)
      · have hf := i_t hf c9
        exact main8 M3 _ _ ls hW hS (lv_sub hl [] rfl) hf
      · have hf := i_f hf c9
        refine lv_aload_n hx hb dJ7_fill_e525d_10 rfl (lv_at hl 0 rfl) ?_
        refine lv_iload_n hx hb dJ7_fill_e525d_11 rfl (lv_at hl 2 rfl) ?_
        refine lv_fload_n hx hb dJ7_fill_e525d_12 rfl (lv_at hl 1 rfl) ?_
        obtain ⟨h10, hf⟩ := g_o hf
        refine x_f hB hW hS hk1 rfl h10 dJ7_fill_e525d_13 (fun H locs M11 eM11 hW hS => ?_)
        have hf := nm_o hf eM11
        obtain ⟨x12, ex12⟩ : ∃ y : Int32, y = x2 + (1 : Int32) := ⟨_, rfl⟩
        have hf := nm_o hf ex12
        refine lv_iinc (v := x12) (lv' := [(2, .int x12), (0, .ref (G.2.2.1 k1)), (1, .float p2), (3, .int x1)]) hx hb dJ7_fill_e525d_14 hl (k := 2) rfl (by rw [ex12]; rfl) (by decide) rfl (fun ls hl => ?_)
        refine lv_goto (tgt := 5) hx hb dJ7_fill_e525d_17 (by decide) ?_
        exact ih x12 M11 _ _ ls hW hS (lv_sub hl [1, 2, 0, 3] rfl) hf
  exact loop5 FU (0 : Int32) M _ _ ls hW hS (lv_sub hl [2, 3, 1, 0] rfl) hL
theorem cl_RX6_79 {R : Room} {s : State} {args : Array Value} (ht : ∀ w ∈ lw_all, w.before args s = true) (hR : 0 + 1 ≤ R.frames ∧ 8 + (4 + 11) + 0 ≤ R.locals) : CallB R s args RX6 79 yJ7_fill_e525d cJ7_fill_e525d 4 none (wsq yJ7_fill_e525d cJ7_fill_e525d 4 none) (rmq 0 0) 0 0 2 ∧ (Cond.static yJ7_fill_e525d).before args s = true := va_cwS 2 ht (goodS wd4_56 wd4_57 wd1_15 wd4_58) rfl rfl rfl (by decide +kernel) hR
def f_X6_beginBests (k1 : Nat) (M : Mem) : Option Mem := (bq1 (f_J7_fill_e525d k1 (3212836864 : UInt32) M) (fun (M1 : Mem) => (if (Int32.ofNat (alen k1)) ≤ 0 then some M1 else (gq (inB (0 : Int32) (alen k1)) (nmq (sf M1 k1 (((0 : Int32) : Int32).toNatClampNeg) FP.fconst0) (fun (M5 : Mem) => some M5))))))
set_option maxHeartbeats 4000000 in
set_option maxRecDepth 100000 in
theorem ct_X6_beginBests (l : Launch) (G : GG) {k1 : Nat} {M : Mem} {Mr : Mem} (hk1 : isT 12 k1) (hf : f_X6_beginBests k1 M = some Mr) : Met l yX6_beginBests (wsq yX6_beginBests cX6_beginBests 1 none) (rmq 1 23) (va_Pc [.ref (G.2.2.1 k1)] (World G M)) (Qv G Mr) 0 0 (adA G) := by
  refine x_start (plainFor_of_name (by decide)) (Nat.le_of_ble_eq_true rfl) ?_
  intro p e s m args below meth c hB hr hlk hW hS ls hl
  have hx := hB.x
  have hb := hB.b
  have hl : lv_has ls 1 [(0, .ref (G.2.2.1 k1))] := hl
  unfold f_X6_beginBests at hf
  refine lv_aload_n hx hb dX6_beginBests_0 rfl (lv_at hl 0 rfl) ?_
  refine lv_ldcf (v := (3212836864 : UInt32)) hx hb hB.ow (hB.w wd4_55) dX6_beginBests_1 ?_
  obtain ⟨M1, hg2, hf⟩ := b_o1 hf
  refine x_cv hB (x_rs hB hW hS (As := [.ref (G.2.2.1 k1), .float (3212836864 : UInt32)]) (rest := []) (ct_J7_fill_e525d l G hk1 hg2) (cl_RX6_79 hB.2.2.2.2.1 ⟨Nat.le_of_ble_eq_true rfl, Nat.le_of_ble_eq_true rfl⟩) rfl hl.1 rfl (Nat.le_of_ble_eq_true rfl) dX6_beginBests_3 ⟨Nat.le_refl _, Nat.le_refl _⟩) hS (fun H locs hW hS => ?_)
  refine lv_aload_n hx hb dX6_beginBests_6 rfl (lv_at hl 0 rfl) ?_
  refine x_alen hB hW hk1 (by decide) rfl (v := (Int32.ofNat (alen k1))) rfl dX6_beginBests_7 ?_
  refine lv_if_le (tgt := 15) hx hb dX6_beginBests_8 (by decide) (fun c3 => ?_) (fun c3 => ?_)
  · have hf := i_t hf c3
    exact e_v hB hW hS hr hlk (Option.some.inj hf) dX6_beginBests_15
  · have hf := i_f hf c3
    refine lv_aload_n hx hb dX6_beginBests_11 rfl (lv_at hl 0 rfl) ?_
    refine lv_iconst (v := (0 : Int32)) hx hb dX6_beginBests_12 (by decide) ?_
    refine lv_fconst0 hx hb dX6_beginBests_13 ?_
    obtain ⟨h4, hf⟩ := g_o hf
    refine x_f hB hW hS hk1 rfl h4 dX6_beginBests_14 (fun H locs M5 eM5 hW hS => ?_)
    have hf := nm_o hf eM5
    exact e_v hB hW hS hr hlk (Option.some.inj hf) dX6_beginBests_15
def f_X6_bestAt (k1 : Nat) (p2 : Int32) (M : Mem) : Option UInt32 := (jq (fun (_ : Unit) => some (3212836864 : UInt32)) (fun (K2 : Unit → Option UInt32) => (if p2 < 0 then (K2 ()) else (if (Int32.ofNat (alen k1)) ≤ p2 then (K2 ()) else (gq (inB p2 (alen k1)) (some (gf M k1 ((p2 : Int32).toNatClampNeg))))))))
set_option maxHeartbeats 4000000 in
set_option maxRecDepth 100000 in
theorem ct_X6_bestAt (l : Launch) (G : GG) {k1 : Nat} {p2 : Int32} {M : Mem} {r : UInt32} (hk1 : isT 12 k1) (hf : f_X6_bestAt k1 p2 M = some r) : Met l yX6_bestAt (wsq yX6_bestAt cX6_bestAt 2 (some .float)) (rmq 0 0) (va_Pc [.ref (G.2.2.1 k1), .int p2] (World G M)) (Qf G r M) 0 0 (adA G) := by
  refine x_start (plainFor_of_name (by decide)) (Nat.le_of_ble_eq_true rfl) ?_
  intro p e s m args below meth c hB hr hlk hW hS ls hl
  have hx := hB.x
  have hb := hB.b
  have hl : lv_has ls 2 [(0, .ref (G.2.2.1 k1)), (1, .int p2)] := hl
  unfold f_X6_bestAt at hf
  refine lv_iload_n hx hb dX6_bestAt_0 rfl (lv_at hl 1 rfl) ?_
  obtain ⟨K2, eK2, hf⟩ := j_o hf
  have main1 : ∀ (_ : Unit) (H : Heap) (locs : List Loc) (ls : Array Slot), Wd G M H → va_S (adA G) s.heap H locs → lv_has ls 2 [] → K2 () = some r → W p l e (rmq 0 0) s m args below meth c H locs 0 0 (MQ below (Qf G r M) args s 0 0 (adA G)) (F0 m 16 ls []) := by
    intro _ H locs ls hW hS hl hf
    subst eK2
    refine lv_ldcf (v := (3212836864 : UInt32)) hx hb hB.ow (hB.w wd4_55) dX6_bestAt_16 ?_
    exact e_f hB hW hS hr hlk (Option.some.inj hf) rfl dX6_bestAt_18
  refine lv_if_lt (tgt := 16) hx hb dX6_bestAt_1 (by decide) (fun c3 => ?_) (fun c3 => ?_)
  · have hf := i_t hf c3
    exact main1 () _ _ ls hW hS (lv_sub hl [] rfl) hf
  · have hf := i_f hf c3
    refine lv_iload_n hx hb dX6_bestAt_4 rfl (lv_at hl 1 rfl) ?_
    refine lv_aload_n hx hb dX6_bestAt_5 rfl (lv_at hl 0 rfl) ?_
    refine x_alen hB hW hk1 (by decide) rfl (v := (Int32.ofNat (alen k1))) rfl dX6_bestAt_6 ?_
    refine lv_icmp_ge (tgt := 16) hx hb dX6_bestAt_7 (by decide) (fun c4 => ?_) (fun c4 => ?_)
    · have hf := i_t hf c4
      exact main1 () _ _ ls hW hS (lv_sub hl [] rfl) hf
    · have hf := i_f hf c4
      refine lv_aload_n hx hb dX6_bestAt_10 rfl (lv_at hl 0 rfl) ?_
      refine lv_iload_n hx hb dX6_bestAt_11 rfl (lv_at hl 1 rfl) ?_
      obtain ⟨h5, hf⟩ := g_o hf
      refine x_fald hB hW hk1 rfl h5 dX6_bestAt_12 ?_
      refine lv_goto (tgt := 18) hx hb dX6_bestAt_13 (by decide) ?_
      exact e_f hB hW hS hr hlk (Option.some.inj hf) rfl dX6_bestAt_18
theorem cl_RX2_76 {R : Room} {s : State} {args : Array Value} (hN : Nst s) (ht : ∀ w ∈ lw_all, w.before args s = true) (hR : 0 + 1 ≤ R.frames ∧ 8 + (2 + 11) + 0 ≤ R.locals) : va_CN R s args RX2 76 yX8_at "LinesOfFragments" cX8_at 2 (some .int) (wsq yX8_at cX8_at 2 (some .int)) (rmq 0 0) 0 0 2 ∧ (Cond.static yX8_at).before args s = true ∧ True := ⟨va_cnB 2 ht (goodC wd2_135) rfl rfl rfl (hN _ (List.mem_of_getElem? (l := nestL) (i := 21) rfl)) (ht _ wd1_1) (by decide +kernel) hR, ht _ wd2_134, trivial⟩
def f_X2_beginAt (p1 : Int32) (M : Mem) : Option Mem := (nmq (si M 127 1 p1) (fun (M1 : Mem) => nmq (si M1 127 2 (p1 - (1 : Int32))) (fun (M2 : Mem) => (bq1 ((if p1 ≤ 0 then (some ((0 : Int32))) else (bq1 (f_X8_at 131 (p1 - (1 : Int32)) M2) (fun (x10 : Int32) => (some (x10))))) : Option (Int32)) (fun (x3 : Int32) => (nmq (si M2 127 7 x3) (fun (M5 : Mem) => nmq (si M5 127 8 (0 : Int32)) (fun (M6 : Mem) => nmq (si M6 127 9 (0 : Int32)) (fun (M7 : Mem) => some M7)))))))))
set_option maxHeartbeats 4000000 in
set_option maxRecDepth 100000 in
theorem ct_X2_beginAt (l : Launch) (G : GG) {p1 : Int32} {M : Mem} {Mr : Mem}  (hf : f_X2_beginAt p1 M = some Mr) : Met l yX2_beginAt (wsq yX2_beginAt cX2_beginAt 2 none) (rmq 1 21) (va_Pc [.ref (G.2.2.1 127), .int p1] (World G M)) (Qv G Mr) 0 0 (adA G) := by
  refine x_start (plainFor_of_name (by decide)) (Nat.le_of_ble_eq_true rfl) ?_
  intro p e s m args below meth c hB hr hlk hW hS ls hl
  have hx := hB.x
  have hb := hB.b
  have hl : lv_has ls 2 [(0, .ref (G.2.2.1 127)), (1, .int p1)] := hl
  unfold f_X2_beginAt at hf
  refine lv_aload_n hx hb dX2_beginAt_0 rfl (lv_at hl 0 rfl) ?_
  refine lv_iload_n hx hb dX2_beginAt_1 rfl (lv_at hl 1 rfl) ?_
  refine fp2_1 hB hW hS tl127 wd1_238 dX2_beginAt_2 (fun H locs M1 eM1 hW hS => ?_)
  have hf := nm_o hf eM1
  refine lv_aload_n hx hb dX2_beginAt_5 rfl (lv_at hl 0 rfl) ?_
  refine lv_iload_n hx hb dX2_beginAt_6 rfl (lv_at hl 1 rfl) ?_
  refine lv_iconst (v := (1 : Int32)) hx hb dX2_beginAt_7 (by decide) ?_
  refine lv_isub hx hb dX2_beginAt_8 ?_
  refine fp2_2 hB hW hS tl127 wd2_1 dX2_beginAt_9 (fun H locs M2 eM2 hW hS => ?_)
  have hf := nm_o hf eM2
  refine lv_aload_n hx hb dX2_beginAt_12 rfl (lv_at hl 0 rfl) ?_
  refine lv_iload_n hx hb dX2_beginAt_13 rfl (lv_at hl 1 rfl) ?_
  obtain ⟨y8, hR, hf⟩ := b_o1 hf
  have main4 : ∀ (x3 : Int32) (H : Heap) (locs : List Loc) (ls : Array Slot), Wd G M2 H → va_S (adA G) s.heap H locs → lv_has ls 2 [(0, .ref (G.2.2.1 127))] → some (x3) = some (y8) → W p l e (rmq 1 21) s m args below meth c H locs 0 0 (MQ below (Qv G Mr) args s 0 0 (adA G)) (F0 m 34 ls [.int x3, .ref (G.2.2.1 127)]) := by
    intro x3 H locs ls hW hS hl hE
    cases hE
    refine fp2_7 hB hW hS tl127 wd2_13 dX2_beginAt_34 (fun H locs M5 eM5 hW hS => ?_)
    have hf := nm_o hf eM5
    refine lv_aload_n hx hb dX2_beginAt_37 rfl (lv_at hl 0 rfl) ?_
    refine lv_iconst (v := (0 : Int32)) hx hb dX2_beginAt_38 (by decide) ?_
    refine fp2_8 hB hW hS tl127 wd2_14 dX2_beginAt_39 (fun H locs M6 eM6 hW hS => ?_)
    have hf := nm_o hf eM6
    refine lv_aload_n hx hb dX2_beginAt_42 rfl (lv_at hl 0 rfl) ?_
    refine lv_iconst (v := (0 : Int32)) hx hb dX2_beginAt_43 (by decide) ?_
    refine fp2_9 hB hW hS tl127 wd2_15 dX2_beginAt_44 (fun H locs M7 eM7 hW hS => ?_)
    have hf := nm_o hf eM7
    exact e_v hB hW hS hr hlk (Option.some.inj hf) dX2_beginAt_47
  have hf := hR
  refine lv_if_le (tgt := 33) hx hb dX2_beginAt_14 (by decide) (fun c9 => ?_) (fun c9 => ?_)
  · have hf := i_t hf c9
    refine lv_iconst (v := (0 : Int32)) hx hb dX2_beginAt_33 (by decide) ?_
    exact main4 (0 : Int32) _ _ ls hW hS (lv_sub hl [0] rfl) hf
  · have hf := i_f hf c9
    refine lv_aload_n hx hb dX2_beginAt_17 rfl (lv_at hl 0 rfl) ?_
    refine fg2_0 hB hW tl127 wd1_236 dX2_beginAt_18 ?_
    refine fg0_2 hB hW tl128 wd1_223 dX2_beginAt_21 ?_
    refine lv_iload_n hx hb dX2_beginAt_24 rfl (lv_at hl 1 rfl) ?_
    refine lv_iconst (v := (1 : Int32)) hx hb dX2_beginAt_25 (by decide) ?_
    refine lv_isub hx hb dX2_beginAt_26 ?_
    obtain ⟨x10, hg11, hf⟩ := b_o1 hf
    refine x_ci hB (x_rn hB hW hS (As := [.ref (G.2.2.1 131), .int (p1 - (1 : Int32))]) (rest := [.ref (G.2.2.1 127)]) (ct_X8_at l G tl131 hg11) (cl_RX2_76 hB.nst hB.2.2.2.2.1 ⟨Nat.le_of_ble_eq_true rfl, Nat.le_of_ble_eq_true rfl⟩) rfl hl.1 rfl (Nat.le_of_ble_eq_true rfl) dX2_beginAt_27 ⟨Nat.le_refl _, Nat.le_refl _⟩) hS (fun H locs hW hS => ?_)
    refine lv_goto (tgt := 34) hx hb dX2_beginAt_30 (by decide) ?_
    exact main4 x10 _ _ ls hW hS (lv_sub hl [0] rfl) hf
def f_X2_ratioOfLine (M : Mem) : Option UInt32 := (nmq (((gi M 127 10) - (gi M 127 4))) (fun (x1 : Int32) => (if x1 = 0 then some FP.fconst0 else (jq (fun (_ : Unit) => (nmq ((if x1 ≤ 0 then ((gi M 127 13)) else ((gi M 127 12)))) (fun (x5 : Int32) => (nmq (((gi M 127 9) * x5)) (fun (x7 : Int32) => (if x7 = 0 then (if x1 ≤ 0 then some (3267756032 : UInt32) else some (1120272384 : UInt32)) else (nmq (FP.fdiv (FP.i2f x1) (FP.i2f x7)) (fun (x9 : UInt32) => gq (nN x9) (some x9))))))))) (fun (K4 : Unit → Option UInt32) => (if x1 ≤ 0 then (K4 ()) else (if (gi M 127 5) < (2 : Int32) then (K4 ()) else some FP.fconst0)))))))
set_option maxHeartbeats 4000000 in
set_option maxRecDepth 100000 in
theorem ct_X2_ratioOfLine (l : Launch) (G : GG)  {M : Mem} {r : UInt32}  (hf : f_X2_ratioOfLine M = some r) : Met l yX2_ratioOfLine (wsq yX2_ratioOfLine cX2_ratioOfLine 3 (some .float)) (rmq 0 0) (va_Pc [.ref (G.2.2.1 127)] (World G M)) (Qf G r M) 0 0 (adA G) := by
  refine x_start (plainFor_of_name (by decide)) (Nat.le_of_ble_eq_true rfl) ?_
  intro p e s m args below meth c hB hr hlk hW hS ls hl
  have hx := hB.x
  have hb := hB.b
  have hl : lv_has ls 3 [(0, .ref (G.2.2.1 127))] := hl
  unfold f_X2_ratioOfLine at hf
  refine lv_aload_n hx hb dX2_ratioOfLine_0 rfl (lv_at hl 0 rfl) ?_
  refine fg2_10 hB hW tl127 wd2_16 dX2_ratioOfLine_1 ?_
  refine lv_aload_n hx hb dX2_ratioOfLine_4 rfl (lv_at hl 0 rfl) ?_
  refine fg2_4 hB hW tl127 wd2_4 dX2_ratioOfLine_5 ?_
  refine lv_isub hx hb dX2_ratioOfLine_8 ?_
  refine lv_topi (fun x1 ex1 => ?_)
  have hf := nm_o hf ex1
  refine lv_istore_n (lv' := [(1, .int x1), (0, .ref (G.2.2.1 127))]) hx hb dX2_ratioOfLine_9 rfl hl (by decide) rfl (fun ls hl => ?_)
  refine lv_iload_n hx hb dX2_ratioOfLine_10 rfl (lv_at hl 0 rfl) ?_
  refine lv_if_eq (tgt := 26) hx hb dX2_ratioOfLine_11 (by decide) (fun c2 => ?_) (fun c2 => ?_)
  · have hf := i_t hf c2
    refine lv_fconst0 hx hb dX2_ratioOfLine_26 ?_
    exact e_f hB hW hS hr hlk (Option.some.inj hf) rfl dX2_ratioOfLine_27
  · have hf := i_f hf c2
    refine lv_iload_n hx hb dX2_ratioOfLine_14 rfl (lv_at hl 0 rfl) ?_
    obtain ⟨K4, eK4, hf⟩ := j_o hf
    have main3 : ∀ (_ : Unit) (H : Heap) (locs : List Loc) (ls : Array Slot), Wd G M H → va_S (adA G) s.heap H locs → lv_has ls 3 [(0, .ref (G.2.2.1 127)), (1, .int x1)] → K4 () = some r → W p l e (rmq 0 0) s m args below meth c H locs 0 0 (MQ below (Qf G r M) args s 0 0 (adA G)) (F0 m 28 ls []) := by
      intro _ H locs ls hW hS hl hf
      subst eK4
      refine lv_aload_n hx hb dX2_ratioOfLine_28 rfl (lv_at hl 0 rfl) ?_
      refine fg2_9 hB hW tl127 wd2_15 dX2_ratioOfLine_29 ?_
      refine lv_iload_n hx hb dX2_ratioOfLine_32 rfl (lv_at hl 1 rfl) ?_
      obtain ⟨y12, evy12⟩ : ∃ z : Int32, (if x1 ≤ 0 then ((gi M 127 13)) else ((gi M 127 12))) = z := ⟨_, rfl⟩
      have hf := nm_o hf evy12.symm
      have main6 : ∀ (x5 : Int32) (H : Heap) (locs : List Loc) (ls : Array Slot), Wd G M H → va_S (adA G) s.heap H locs → lv_has ls 3 [(1, .int x1)] → x5 = y12 → W p l e (rmq 0 0) s m args below meth c H locs 0 0 (MQ below (Qf G r M) args s 0 0 (adA G)) (F0 m 47 ls [.int x5, .int (gi M 127 9)]) := by
        intro x5 H locs ls hW hS hl hE
        have hE := hE.symm
        subst hE
        refine lv_imul hx hb dX2_ratioOfLine_47 ?_
        refine lv_topi (fun x7 ex7 => ?_)
        have hf := nm_o hf ex7
        refine lv_istore_n (lv' := [(2, .int x7), (1, .int x1)]) hx hb dX2_ratioOfLine_48 rfl hl (by decide) rfl (fun ls hl => ?_)
        refine lv_iload_n hx hb dX2_ratioOfLine_49 rfl (lv_at hl 0 rfl) ?_
        refine lv_if_ne (tgt := 65) hx hb dX2_ratioOfLine_50 (by decide) (fun c8 => ?_) (fun c8 => ?_)
        · have hf := i_f hf c8
          refine lv_iload_n hx hb dX2_ratioOfLine_65 rfl (lv_at hl 1 rfl) ?_
          refine lv_i2f hx hb dX2_ratioOfLine_66 ?_
          refine lv_iload_n hx hb dX2_ratioOfLine_67 rfl (lv_at hl 0 rfl) ?_
          refine lv_i2f hx hb dX2_ratioOfLine_68 ?_
          obtain ⟨x9, ex9⟩ : ∃ y : UInt32, y = FP.fdiv (FP.i2f x1) (FP.i2f x7) := ⟨_, rfl⟩
          have hf := nm_o hf ex9
          obtain ⟨h10, hf⟩ := g_o hf
          refine y_fdiv hB ex9 h10 dX2_ratioOfLine_69 ?_
          exact e_f hB hW hS hr hlk (Option.some.inj hf) rfl dX2_ratioOfLine_70
        · have hf := i_t hf c8
          refine lv_iload_n hx hb dX2_ratioOfLine_53 rfl (lv_at hl 1 rfl) ?_
          refine lv_if_le (tgt := 62) hx hb dX2_ratioOfLine_54 (by decide) (fun c11 => ?_) (fun c11 => ?_)
          · have hf := i_t hf c11
            refine lv_ldcf (v := (3267756032 : UInt32)) hx hb hB.ow (hB.w wd4_80) dX2_ratioOfLine_62 ?_
            exact e_f hB hW hS hr hlk (Option.some.inj hf) rfl dX2_ratioOfLine_64
          · have hf := i_f hf c11
            refine lv_ldcf (v := (1120272384 : UInt32)) hx hb hB.ow (hB.w wd4_79) dX2_ratioOfLine_57 ?_
            refine lv_goto (tgt := 64) hx hb dX2_ratioOfLine_59 (by decide) ?_
            exact e_f hB hW hS hr hlk (Option.some.inj hf) rfl dX2_ratioOfLine_64
      have hf := evy12
      refine lv_if_le (tgt := 43) hx hb dX2_ratioOfLine_33 (by decide) (fun c13 => ?_) (fun c13 => ?_)
      · have hf := i_t hf c13
        refine lv_aload_n hx hb dX2_ratioOfLine_43 rfl (lv_at hl 0 rfl) ?_
        refine fg2_13 hB hW tl127 wd2_19 dX2_ratioOfLine_44 ?_
        exact main6 (gi M 127 13) _ _ ls hW hS (lv_sub hl [1] rfl) hf
      · have hf := i_f hf c13
        refine lv_aload_n hx hb dX2_ratioOfLine_36 rfl (lv_at hl 0 rfl) ?_
        refine fg2_12 hB hW tl127 wd2_18 dX2_ratioOfLine_37 ?_
        refine lv_goto (tgt := 47) hx hb dX2_ratioOfLine_40 (by decide) ?_
        exact main6 (gi M 127 12) _ _ ls hW hS (lv_sub hl [1] rfl) hf
    refine lv_if_le (tgt := 28) hx hb dX2_ratioOfLine_15 (by decide) (fun c14 => ?_) (fun c14 => ?_)
    · have hf := i_t hf c14
      exact main3 () _ _ ls hW hS (lv_sub hl [1, 0] rfl) hf
    · have hf := i_f hf c14
      refine lv_aload_n hx hb dX2_ratioOfLine_18 rfl (lv_at hl 1 rfl) ?_
      refine fg2_5 hB hW tl127 wd2_7 dX2_ratioOfLine_19 ?_
      refine lv_iconst (v := (2 : Int32)) hx hb dX2_ratioOfLine_22 (by decide) ?_
      refine lv_icmp_lt (tgt := 28) hx hb dX2_ratioOfLine_23 (by decide) (fun c15 => ?_) (fun c15 => ?_)
      · have hf := i_t hf c15
        exact main3 () _ _ ls hW hS (lv_sub hl [1, 0] rfl) hf
      · have hf := i_f hf c15
        refine lv_fconst0 hx hb dX2_ratioOfLine_26 ?_
        exact e_f hB hW hS hr hlk (Option.some.inj hf) rfl dX2_ratioOfLine_27
theorem cl_RX2_104 {R : Room} {s : State} {args : Array Value} (ht : ∀ w ∈ lw_all, w.before args s = true) (hR : 0 + 1 ≤ R.frames ∧ 8 + (3 + 11) + 0 ≤ R.locals) : CallW R s args RX2 RX2 104 yX2_ratioOfLine cX2_ratioOfLine 3 (some .float) (wsq yX2_ratioOfLine cX2_ratioOfLine 3 (some .float)) (rmq 0 0) 0 0 0 := cwV 0 ht (goodV wd4_75 wd4_77 wsel_24 wd1_8 wd4_78) rfl rfl rfl (by decide +kernel) hR
def f_X2_grow (M : Mem) : Option Mem := (bq1 ((if (gi M 127 2) < (gi M 127 1) then (some (M)) else (if (gi M 127 5) = 0 then (nmq (si M 127 9 ((gi M 127 9) + (1 : Int32))) (fun (M26 : Mem) => (some (M26)))) else (some (M)))) : Option (Mem)) (fun (M1 : Mem) => (nmq (si M1 127 2 ((gi M1 127 2) + (1 : Int32))) (fun (M3 : Mem) => bq1 (f_X8_at 129 (gi M3 127 2) M3) (fun (x4 : Int32) => nmq (si M3 127 8 ((gi M3 127 8) + x4)) (fun (M6 : Mem) => bq1 (f_X8_at 131 (gi M6 127 2) M6) (fun (x7 : Int32) => nmq (si M6 127 5 x7) (fun (M9 : Mem) => bq1 (f_X8_at 130 (gi M9 127 2) M9) (fun (x10 : Int32) => bq1 (f_X8_at 130 (gi M9 127 1) M9) (fun (x12 : Int32) => nmq (si M9 127 3 ((x10 - x12) + (1 : Int32))) (fun (M14 : Mem) => (nmq ((if (gi M14 127 5) = (1 : Int32) then ((2 : Int32)) else ((0 : Int32)))) (fun (x15 : Int32) => (nmq (si M14 127 4 (((gi M14 127 8) + ((gi M14 127 9) * (gi M14 127 11))) + x15)) (fun (M17 : Mem) => bq1 (f_X2_ratioOfLine M17) (fun (x18 : UInt32) => nmq (sf M17 127 6 x18) (fun (M20 : Mem) => some M20)))))))))))))))))
set_option maxHeartbeats 4000000 in
set_option maxRecDepth 100000 in
theorem ct_X2_grow (l : Launch) (G : GG)  {M : Mem} {Mr : Mem}  (hf : f_X2_grow M = some Mr) : Met l yX2_grow (wsq yX2_grow cX2_grow 1 none) (rmq 1 22) (va_Pc [.ref (G.2.2.1 127)] (World G M)) (Qv G Mr) 0 0 (adA G) := by
  refine x_start (plainFor_of_name (by decide)) (Nat.le_of_ble_eq_true rfl) ?_
  intro p e s m args below meth c hB hr hlk hW hS ls hl
  have hx := hB.x
  have hb := hB.b
  have hl : lv_has ls 1 [(0, .ref (G.2.2.1 127))] := hl
  unfold f_X2_grow at hf
  refine lv_aload_n hx hb dX2_grow_0 rfl (lv_at hl 0 rfl) ?_
  refine fg2_2 hB hW tl127 wd2_1 dX2_grow_1 ?_
  refine lv_aload_n hx hb dX2_grow_4 rfl (lv_at hl 0 rfl) ?_
  refine fg2_1 hB hW tl127 wd1_238 dX2_grow_5 ?_
  obtain ⟨M23, hR, hf⟩ := b_o1 hf
  have main2 : ∀ (M1 : Mem) (H : Heap) (locs : List Loc) (ls : Array Slot), Wd G M1 H → va_S (adA G) s.heap H locs → lv_has ls 1 [(0, .ref (G.2.2.1 127))] → some (M1) = some (M23) → W p l e (rmq 1 22) s m args below meth c H locs 0 0 (MQ below (Qv G Mr) args s 0 0 (adA G)) (F0 m 28 ls []) := by
    intro M1 H locs ls hW hS hl hE
    cases hE
    refine lv_aload_n hx hb dX2_grow_28 rfl (lv_at hl 0 rfl) ?_
    refine lv_dup hx hb dX2_grow_29 rfl ?_
    refine fg2_2 hB hW tl127 wd2_1 dX2_grow_30 ?_
    refine lv_iconst (v := (1 : Int32)) hx hb dX2_grow_33 (by decide) ?_
    refine lv_iadd hx hb dX2_grow_34 ?_
    refine fp2_2 hB hW hS tl127 wd2_1 dX2_grow_35 (fun H locs M3 eM3 hW hS => ?_)
    have hf := nm_o hf eM3
    refine lv_aload_n hx hb dX2_grow_38 rfl (lv_at hl 0 rfl) ?_
    refine lv_dup hx hb dX2_grow_39 rfl ?_
    refine fg2_8 hB hW tl127 wd2_14 dX2_grow_40 ?_
    refine lv_aload_n hx hb dX2_grow_43 rfl (lv_at hl 0 rfl) ?_
    refine fg2_0 hB hW tl127 wd1_236 dX2_grow_44 ?_
    refine fg0_0 hB hW tl128 wd1_219 dX2_grow_47 ?_
    refine lv_aload_n hx hb dX2_grow_50 rfl (lv_at hl 0 rfl) ?_
    refine fg2_2 hB hW tl127 wd2_1 dX2_grow_51 ?_
    obtain ⟨x4, hg5, hf⟩ := b_o1 hf
    refine x_ci hB (x_rn hB hW hS (As := [.ref (G.2.2.1 129), .int (gi M3 127 2)]) (rest := [.int (gi M3 127 8), .ref (G.2.2.1 127)]) (ct_X8_at l G tl129 hg5) (cl_RX2_76 hB.nst hB.2.2.2.2.1 ⟨Nat.le_of_ble_eq_true rfl, Nat.le_of_ble_eq_true rfl⟩) rfl hl.1 rfl (Nat.le_of_ble_eq_true rfl) dX2_grow_54 ⟨Nat.le_refl _, Nat.le_refl _⟩) hS (fun H locs hW hS => ?_)
    refine lv_iadd hx hb dX2_grow_57 ?_
    refine fp2_8 hB hW hS tl127 wd2_14 dX2_grow_58 (fun H locs M6 eM6 hW hS => ?_)
    have hf := nm_o hf eM6
    refine lv_aload_n hx hb dX2_grow_61 rfl (lv_at hl 0 rfl) ?_
    refine lv_aload_n hx hb dX2_grow_62 rfl (lv_at hl 0 rfl) ?_
    refine fg2_0 hB hW tl127 wd1_236 dX2_grow_63 ?_
    refine fg0_2 hB hW tl128 wd1_223 dX2_grow_66 ?_
    refine lv_aload_n hx hb dX2_grow_69 rfl (lv_at hl 0 rfl) ?_
    refine fg2_2 hB hW tl127 wd2_1 dX2_grow_70 ?_
    obtain ⟨x7, hg8, hf⟩ := b_o1 hf
    refine x_ci hB (x_rn hB hW hS (As := [.ref (G.2.2.1 131), .int (gi M6 127 2)]) (rest := [.ref (G.2.2.1 127)]) (ct_X8_at l G tl131 hg8) (cl_RX2_76 hB.nst hB.2.2.2.2.1 ⟨Nat.le_of_ble_eq_true rfl, Nat.le_of_ble_eq_true rfl⟩) rfl hl.1 rfl (Nat.le_of_ble_eq_true rfl) dX2_grow_73 ⟨Nat.le_refl _, Nat.le_refl _⟩) hS (fun H locs hW hS => ?_)
    refine fp2_5 hB hW hS tl127 wd2_7 dX2_grow_76 (fun H locs M9 eM9 hW hS => ?_)
    have hf := nm_o hf eM9
    refine lv_aload_n hx hb dX2_grow_79 rfl (lv_at hl 0 rfl) ?_
    refine lv_aload_n hx hb dX2_grow_80 rfl (lv_at hl 0 rfl) ?_
    refine fg2_0 hB hW tl127 wd1_236 dX2_grow_81 ?_
    refine fg0_1 hB hW tl128 wd1_221 dX2_grow_84 ?_
    refine lv_aload_n hx hb dX2_grow_87 rfl (lv_at hl 0 rfl) ?_
    refine fg2_2 hB hW tl127 wd2_1 dX2_grow_88 ?_
    obtain ⟨x10, hg11, hf⟩ := b_o1 hf
    refine x_ci hB (x_rn hB hW hS (As := [.ref (G.2.2.1 130), .int (gi M9 127 2)]) (rest := [.ref (G.2.2.1 127)]) (ct_X8_at l G tl130 hg11) (cl_RX2_76 hB.nst hB.2.2.2.2.1 ⟨Nat.le_of_ble_eq_true rfl, Nat.le_of_ble_eq_true rfl⟩) rfl hl.1 rfl (Nat.le_of_ble_eq_true rfl) dX2_grow_91 ⟨Nat.le_refl _, Nat.le_refl _⟩) hS (fun H locs hW hS => ?_)
    refine lv_aload_n hx hb dX2_grow_94 rfl (lv_at hl 0 rfl) ?_
    refine fg2_0 hB hW tl127 wd1_236 dX2_grow_95 ?_
    refine fg0_1 hB hW tl128 wd1_221 dX2_grow_98 ?_
    refine lv_aload_n hx hb dX2_grow_101 rfl (lv_at hl 0 rfl) ?_
    refine fg2_1 hB hW tl127 wd1_238 dX2_grow_102 ?_
    obtain ⟨x12, hg13, hf⟩ := b_o1 hf
    refine x_ci hB (x_rn hB hW hS (As := [.ref (G.2.2.1 130), .int (gi M9 127 1)]) (rest := [.int x10, .ref (G.2.2.1 127)]) (ct_X8_at l G tl130 hg13) (cl_RX2_76 hB.nst hB.2.2.2.2.1 ⟨Nat.le_of_ble_eq_true rfl, Nat.le_of_ble_eq_true rfl⟩) rfl hl.1 rfl (Nat.le_of_ble_eq_true rfl) dX2_grow_105 ⟨Nat.le_refl _, Nat.le_refl _⟩) hS (fun H locs hW hS => ?_)
    refine lv_isub hx hb dX2_grow_108 ?_
    refine lv_iconst (v := (1 : Int32)) hx hb dX2_grow_109 (by decide) ?_
    refine lv_iadd hx hb dX2_grow_110 ?_
    refine fp2_3 hB hW hS tl127 wd2_2 dX2_grow_111 (fun H locs M14 eM14 hW hS => ?_)
    have hf := nm_o hf eM14
    refine lv_aload_n hx hb dX2_grow_114 rfl (lv_at hl 0 rfl) ?_
    refine lv_aload_n hx hb dX2_grow_115 rfl (lv_at hl 0 rfl) ?_
    refine fg2_8 hB hW tl127 wd2_14 dX2_grow_116 ?_
    refine lv_aload_n hx hb dX2_grow_119 rfl (lv_at hl 0 rfl) ?_
    refine fg2_9 hB hW tl127 wd2_15 dX2_grow_120 ?_
    refine lv_aload_n hx hb dX2_grow_123 rfl (lv_at hl 0 rfl) ?_
    refine fg2_11 hB hW tl127 wd2_17 dX2_grow_124 ?_
    refine lv_imul hx hb dX2_grow_127 ?_
    refine lv_iadd hx hb dX2_grow_128 ?_
    refine lv_aload_n hx hb dX2_grow_129 rfl (lv_at hl 0 rfl) ?_
    refine fg2_5 hB hW tl127 wd2_7 dX2_grow_130 ?_
    refine lv_iconst (v := (1 : Int32)) hx hb dX2_grow_133 (by decide) ?_
    obtain ⟨y21, evy21⟩ : ∃ z : Int32, (if (gi M14 127 5) = (1 : Int32) then ((2 : Int32)) else ((0 : Int32))) = z := ⟨_, rfl⟩
    have hf := nm_o hf evy21.symm
    have main16 : ∀ (x15 : Int32) (H : Heap) (locs : List Loc) (ls : Array Slot), Wd G M14 H → va_S (adA G) s.heap H locs → lv_has ls 1 [(0, .ref (G.2.2.1 127))] → x15 = y21 → W p l e (rmq 1 22) s m args below meth c H locs 0 0 (MQ below (Qv G Mr) args s 0 0 (adA G)) (F0 m 142 ls [.int x15, .int ((gi M14 127 8) + ((gi M14 127 9) * (gi M14 127 11))), .ref (G.2.2.1 127)]) := by
      intro x15 H locs ls hW hS hl hE
      have hE := hE.symm
      subst hE
      refine lv_iadd hx hb dX2_grow_142 ?_
      refine fp2_4 hB hW hS tl127 wd2_4 dX2_grow_143 (fun H locs M17 eM17 hW hS => ?_)
      have hf := nm_o hf eM17
      refine lv_aload_n hx hb dX2_grow_146 rfl (lv_at hl 0 rfl) ?_
      refine lv_aload_n hx hb dX2_grow_147 rfl (lv_at hl 0 rfl) ?_
      obtain ⟨x18, hg19, hf⟩ := b_o1 hf
      refine x_cf hB (x_rv hB hW hS (As := []) (rest := [.ref (G.2.2.1 127)]) (ct_X2_ratioOfLine l G hg19) (cl_RX2_104 hB.2.2.2.2.1 ⟨Nat.le_of_ble_eq_true rfl, Nat.le_of_ble_eq_true rfl⟩) tl127 (by decide) rfl rfl hl.1 rfl (Nat.le_of_ble_eq_true rfl) dX2_grow_148 ⟨Nat.le_refl _, Nat.le_refl _⟩) hS (fun H locs hW hS => ?_)
      refine fp2_6 hB hW hS tl127 wd2_10 dX2_grow_151 (fun H locs M20 eM20 hW hS => ?_)
      have hf := nm_o hf eM20
      exact e_v hB hW hS hr hlk (Option.some.inj hf) dX2_grow_154
    have hf := evy21
    refine lv_icmp_ne (tgt := 141) hx hb dX2_grow_134 (by decide) (fun c22 => ?_) (fun c22 => ?_)
    · have hf := i_f hf c22
      refine lv_iconst (v := (0 : Int32)) hx hb dX2_grow_141 (by decide) ?_
      exact main16 (0 : Int32) _ _ ls hW hS (lv_sub hl [0] rfl) hf
    · have hf := i_t hf c22
      refine lv_iconst (v := (2 : Int32)) hx hb dX2_grow_137 (by decide) ?_
      refine lv_goto (tgt := 142) hx hb dX2_grow_138 (by decide) ?_
      exact main16 (2 : Int32) _ _ ls hW hS (lv_sub hl [0] rfl) hf
  have hf := hR
  refine lv_icmp_lt (tgt := 28) hx hb dX2_grow_8 (by decide) (fun c24 => ?_) (fun c24 => ?_)
  · have hf := i_t hf c24
    exact main2 M _ _ ls hW hS (lv_sub hl [0] rfl) hf
  · have hf := i_f hf c24
    refine lv_aload_n hx hb dX2_grow_11 rfl (lv_at hl 0 rfl) ?_
    refine fg2_5 hB hW tl127 wd2_7 dX2_grow_12 ?_
    refine lv_if_ne (tgt := 28) hx hb dX2_grow_15 (by decide) (fun c25 => ?_) (fun c25 => ?_)
    · have hf := i_f hf c25
      exact main2 M _ _ ls hW hS (lv_sub hl [0] rfl) hf
    · have hf := i_t hf c25
      refine lv_aload_n hx hb dX2_grow_18 rfl (lv_at hl 0 rfl) ?_
      refine lv_dup hx hb dX2_grow_19 rfl ?_
      refine fg2_9 hB hW tl127 wd2_15 dX2_grow_20 ?_
      refine lv_iconst (v := (1 : Int32)) hx hb dX2_grow_23 (by decide) ?_
      refine lv_iadd hx hb dX2_grow_24 ?_
      refine fp2_9 hB hW hS tl127 wd2_15 dX2_grow_25 (fun H locs M26 eM26 hW hS => ?_)
      have hf := nm_o hf eM26
      exact main2 M26 _ _ ls hW hS (lv_sub hl [0] rfl) hf
def f_X2_fits (M : Mem) : Option Int32 := (if (fcl (gf M 127 6) (3212836864 : UInt32)) < 0 then some (0 : Int32) else (if 0 < (fcg (gf M 127 6) (gf M 127 17)) then some (0 : Int32) else some (1 : Int32)))
set_option maxHeartbeats 4000000 in
set_option maxRecDepth 100000 in
theorem ct_X2_fits (l : Launch) (G : GG)  {M : Mem} {r : Int32}  (hf : f_X2_fits M = some r) : Met l yX2_fits (wsq yX2_fits cX2_fits 1 (some .boolean)) (rmq 0 0) (va_Pc [.ref (G.2.2.1 127)] (World G M)) (Qi G r M) 0 0 (adA G) := by
  refine x_start (plainFor_of_name (by decide)) (Nat.le_of_ble_eq_true rfl) ?_
  intro p e s m args below meth c hB hr hlk hW hS ls hl
  have hx := hB.x
  have hb := hB.b
  have hl : lv_has ls 1 [(0, .ref (G.2.2.1 127))] := hl
  unfold f_X2_fits at hf
  refine lv_aload_n hx hb dX2_fits_0 rfl (lv_at hl 0 rfl) ?_
  refine fg2_6 hB hW tl127 wd2_10 dX2_fits_1 ?_
  refine lv_ldcf (v := (3212836864 : UInt32)) hx hb hB.ow (hB.w wd4_85) dX2_fits_4 ?_
  refine lv_fcmp hx hb dX2_fits_6 ?_
  refine lv_if_lt (tgt := 26) hx hb dX2_fits_7 (by decide) (fun c1 => ?_) (fun c1 => ?_)
  · have hf := i_t hf c1
    refine lv_iconst (v := (0 : Int32)) hx hb dX2_fits_26 (by decide) ?_
    exact e_z (by decide) hB hW hS hr hlk (Option.some.inj hf) rfl dX2_fits_27
  · have hf := i_f hf c1
    refine lv_aload_n hx hb dX2_fits_10 rfl (lv_at hl 0 rfl) ?_
    refine fg2_6 hB hW tl127 wd2_10 dX2_fits_11 ?_
    refine lv_aload_n hx hb dX2_fits_14 rfl (lv_at hl 0 rfl) ?_
    refine fg2_17 hB hW tl127 wd2_23 dX2_fits_15 ?_
    refine lv_fcmp hx hb dX2_fits_18 ?_
    refine lv_if_gt (tgt := 26) hx hb dX2_fits_19 (by decide) (fun c2 => ?_) (fun c2 => ?_)
    · have hf := i_t hf c2
      refine lv_iconst (v := (0 : Int32)) hx hb dX2_fits_26 (by decide) ?_
      exact e_z (by decide) hB hW hS hr hlk (Option.some.inj hf) rfl dX2_fits_27
    · have hf := i_f hf c2
      refine lv_iconst (v := (1 : Int32)) hx hb dX2_fits_22 (by decide) ?_
      refine lv_goto (tgt := 27) hx hb dX2_fits_23 (by decide) ?_
      exact e_z (by decide) hB hW hS hr hlk (Option.some.inj hf) rfl dX2_fits_27
def f_X2_badnessOfLine (M : Mem) : Option UInt32 := (nmq ((if 0 ≤ (fcg (gf M 127 6) FP.fconst0) then ((gf M 127 6)) else ((FP.fneg (gf M 127 6))))) (fun (x1 : UInt32) => (nmq (FP.fmul x1 x1) (fun (x3 : UInt32) => gq (nN x3) (nmq (FP.fmul x3 x1) (fun (x5 : UInt32) => gq (nN x5) (nmq (FP.fmul x5 (1120403456 : UInt32)) (fun (x7 : UInt32) => gq (nN x7) (some x7)))))))))
set_option maxHeartbeats 4000000 in
set_option maxRecDepth 100000 in
theorem ct_X2_badnessOfLine (l : Launch) (G : GG)  {M : Mem} {r : UInt32}  (hf : f_X2_badnessOfLine M = some r) : Met l yX2_badnessOfLine (wsq yX2_badnessOfLine cX2_badnessOfLine 2 (some .float)) (rmq 0 0) (va_Pc [.ref (G.2.2.1 127)] (World G M)) (Qf G r M) 0 0 (adA G) := by
  refine x_start (plainFor_of_name (by decide)) (Nat.le_of_ble_eq_true rfl) ?_
  intro p e s m args below meth c hB hr hlk hW hS ls hl
  have hx := hB.x
  have hb := hB.b
  have hl : lv_has ls 2 [(0, .ref (G.2.2.1 127))] := hl
  unfold f_X2_badnessOfLine at hf
  refine lv_aload_n hx hb dX2_badnessOfLine_0 rfl (lv_at hl 0 rfl) ?_
  refine fg2_6 hB hW tl127 wd2_10 dX2_badnessOfLine_1 ?_
  refine lv_fconst0 hx hb dX2_badnessOfLine_4 ?_
  refine lv_fcmp hx hb dX2_badnessOfLine_5 ?_
  obtain ⟨y9, evy9⟩ : ∃ z : UInt32, (if 0 ≤ (fcg (gf M 127 6) FP.fconst0) then ((gf M 127 6)) else ((FP.fneg (gf M 127 6)))) = z := ⟨_, rfl⟩
  have hf := nm_o hf evy9.symm
  have main2 : ∀ (x1 : UInt32) (H : Heap) (locs : List Loc) (ls : Array Slot), Wd G M H → va_S (adA G) s.heap H locs → lv_has ls 2 [] → x1 = y9 → W p l e (rmq 0 0) s m args below meth c H locs 0 0 (MQ below (Qf G r M) args s 0 0 (adA G)) (F0 m 21 ls [.float x1]) := by
    intro x1 H locs ls hW hS hl hE
    have hE := hE.symm
    subst hE
    refine lv_fstore_n (lv' := [(1, .float y9)]) hx hb dX2_badnessOfLine_21 rfl hl (by decide) rfl (fun ls hl => ?_)
    refine lv_fload_n hx hb dX2_badnessOfLine_22 rfl (lv_at hl 0 rfl) ?_
    refine lv_fload_n hx hb dX2_badnessOfLine_23 rfl (lv_at hl 0 rfl) ?_
    obtain ⟨x3, ex3⟩ : ∃ y : UInt32, y = FP.fmul y9 y9 := ⟨_, rfl⟩
    have hf := nm_o hf ex3
    obtain ⟨h4, hf⟩ := g_o hf
    refine y_fmul hB ex3 h4 dX2_badnessOfLine_24 ?_
    refine lv_fload_n hx hb dX2_badnessOfLine_25 rfl (lv_at hl 0 rfl) ?_
    obtain ⟨x5, ex5⟩ : ∃ y : UInt32, y = FP.fmul x3 y9 := ⟨_, rfl⟩
    have hf := nm_o hf ex5
    obtain ⟨h6, hf⟩ := g_o hf
    refine y_fmul hB ex5 h6 dX2_badnessOfLine_26 ?_
    refine lv_ldcf (v := (1120403456 : UInt32)) hx hb hB.ow (hB.w wd4_94) dX2_badnessOfLine_27 ?_
    obtain ⟨x7, ex7⟩ : ∃ y : UInt32, y = FP.fmul x5 (1120403456 : UInt32) := ⟨_, rfl⟩
    have hf := nm_o hf ex7
    obtain ⟨h8, hf⟩ := g_o hf
    refine y_fmul hB ex7 h8 dX2_badnessOfLine_29 ?_
    exact e_f hB hW hS hr hlk (Option.some.inj hf) rfl dX2_badnessOfLine_30
  have hf := evy9
  refine lv_if_ge (tgt := 17) hx hb dX2_badnessOfLine_6 (by decide) (fun c10 => ?_) (fun c10 => ?_)
  · have hf := i_t hf c10
    refine lv_aload_n hx hb dX2_badnessOfLine_17 rfl (lv_at hl 0 rfl) ?_
    refine fg2_6 hB hW tl127 wd2_10 dX2_badnessOfLine_18 ?_
    exact main2 (gf M 127 6) _ _ ls hW hS (lv_sub hl [] rfl) hf
  · have hf := i_f hf c10
    refine lv_aload_n hx hb dX2_badnessOfLine_9 rfl (lv_at hl 0 rfl) ?_
    refine fg2_6 hB hW tl127 wd2_10 dX2_badnessOfLine_10 ?_
    refine lv_fneg hx hb dX2_badnessOfLine_13 ?_
    refine lv_goto (tgt := 21) hx hb dX2_badnessOfLine_14 (by decide) ?_
    exact main2 (FP.fneg (gf M 127 6)) _ _ ls hW hS (lv_sub hl [] rfl) hf
def f_X2_demeritsByManner (p1 : UInt32) (p2 : UInt32) (M : Mem) : Option UInt32 := (if (gi M 127 15) = 0 then (nmq (FP.fmul p1 p1) (fun (x7 : UInt32) => gq (nN x7) (nmq (FP.fmul p2 p2) (fun (x9 : UInt32) => gq (nN x9) (nmq (FP.fadd x7 x9) (fun (x11 : UInt32) => gq (nN x11) (some x11))))))) else (nmq (FP.fadd p1 p2) (fun (x2 : UInt32) => gq (nN x2) ((if (gi M 127 15) = (1 : Int32) then (nmq (FP.fmul x2 x2) (fun (x5 : UInt32) => gq (nN x5) (some x5))) else some x2)))))
set_option maxHeartbeats 4000000 in
set_option maxRecDepth 100000 in
theorem ct_X2_demeritsByManner (l : Launch) (G : GG) {p1 : UInt32} {p2 : UInt32} {M : Mem} {r : UInt32}  (hf : f_X2_demeritsByManner p1 p2 M = some r) : Met l yX2_demeritsByManner (wsq yX2_demeritsByManner cX2_demeritsByManner 4 (some .float)) (rmq 0 0) (va_Pc [.ref (G.2.2.1 127), .float p1, .float p2] (World G M)) (Qf G r M) 0 0 (adA G) := by
  refine x_start (plainFor_of_name (by decide)) (Nat.le_of_ble_eq_true rfl) ?_
  intro p e s m args below meth c hB hr hlk hW hS ls hl
  have hx := hB.x
  have hb := hB.b
  have hl : lv_has ls 4 [(0, .ref (G.2.2.1 127)), (1, .float p1), (2, .float p2)] := hl
  unfold f_X2_demeritsByManner at hf
  refine lv_aload_n hx hb dX2_demeritsByManner_0 rfl (lv_at hl 0 rfl) ?_
  refine fg2_15 hB hW tl127 wd2_21 dX2_demeritsByManner_1 ?_
  refine lv_if_ne (tgt := 15) hx hb dX2_demeritsByManner_4 (by decide) (fun c1 => ?_) (fun c1 => ?_)
  · have hf := i_f hf c1
    refine lv_fload_n hx hb dX2_demeritsByManner_15 rfl (lv_at hl 1 rfl) ?_
    refine lv_fload_n hx hb dX2_demeritsByManner_16 rfl (lv_at hl 2 rfl) ?_
    obtain ⟨x2, ex2⟩ : ∃ y : UInt32, y = FP.fadd p1 p2 := ⟨_, rfl⟩
    have hf := nm_o hf ex2
    obtain ⟨h3, hf⟩ := g_o hf
    refine y_fadd hB ex2 h3 dX2_demeritsByManner_17 ?_
    refine lv_fstore_n (lv' := [(3, .float x2), (0, .ref (G.2.2.1 127)), (1, .float p1), (2, .float p2)]) hx hb dX2_demeritsByManner_18 rfl hl (by decide) rfl (fun ls hl => ?_)
    refine lv_aload_n hx hb dX2_demeritsByManner_19 rfl (lv_at hl 1 rfl) ?_
    refine fg2_15 hB hW tl127 wd2_21 dX2_demeritsByManner_20 ?_
    refine lv_iconst (v := (1 : Int32)) hx hb dX2_demeritsByManner_23 (by decide) ?_
    refine lv_icmp_ne (tgt := 33) hx hb dX2_demeritsByManner_24 (by decide) (fun c4 => ?_) (fun c4 => ?_)
    · have hf := i_f hf c4
      refine lv_fload_n hx hb dX2_demeritsByManner_33 rfl (lv_at hl 0 rfl) ?_
      exact e_f hB hW hS hr hlk (Option.some.inj hf) rfl dX2_demeritsByManner_34
    · have hf := i_t hf c4
      refine lv_fload_n hx hb dX2_demeritsByManner_27 rfl (lv_at hl 0 rfl) ?_
      refine lv_fload_n hx hb dX2_demeritsByManner_28 rfl (lv_at hl 0 rfl) ?_
      obtain ⟨x5, ex5⟩ : ∃ y : UInt32, y = FP.fmul x2 x2 := ⟨_, rfl⟩
      have hf := nm_o hf ex5
      obtain ⟨h6, hf⟩ := g_o hf
      refine y_fmul hB ex5 h6 dX2_demeritsByManner_29 ?_
      refine lv_goto (tgt := 34) hx hb dX2_demeritsByManner_30 (by decide) ?_
      exact e_f hB hW hS hr hlk (Option.some.inj hf) rfl dX2_demeritsByManner_34
  · have hf := i_t hf c1
    refine lv_fload_n hx hb dX2_demeritsByManner_7 rfl (lv_at hl 1 rfl) ?_
    refine lv_fload_n hx hb dX2_demeritsByManner_8 rfl (lv_at hl 1 rfl) ?_
    obtain ⟨x7, ex7⟩ : ∃ y : UInt32, y = FP.fmul p1 p1 := ⟨_, rfl⟩
    have hf := nm_o hf ex7
    obtain ⟨h8, hf⟩ := g_o hf
    refine y_fmul hB ex7 h8 dX2_demeritsByManner_9 ?_
    refine lv_fload_n hx hb dX2_demeritsByManner_10 rfl (lv_at hl 2 rfl) ?_
    refine lv_fload_n hx hb dX2_demeritsByManner_11 rfl (lv_at hl 2 rfl) ?_
    obtain ⟨x9, ex9⟩ : ∃ y : UInt32, y = FP.fmul p2 p2 := ⟨_, rfl⟩
    have hf := nm_o hf ex9
    obtain ⟨h10, hf⟩ := g_o hf
    refine y_fmul hB ex9 h10 dX2_demeritsByManner_12 ?_
    obtain ⟨x11, ex11⟩ : ∃ y : UInt32, y = FP.fadd x7 x9 := ⟨_, rfl⟩
    have hf := nm_o hf ex11
    obtain ⟨h12, hf⟩ := g_o hf
    refine y_fadd hB ex11 h12 dX2_demeritsByManner_13 ?_
    exact e_f hB hW hS hr hlk (Option.some.inj hf) rfl dX2_demeritsByManner_14
def f_X2_isWidow (M : Mem) : Option Int32 := (if (gi M 127 3) = (1 : Int32) then (if (gi M 127 5) < (2 : Int32) then some (0 : Int32) else (if (gi M 127 1) ≤ 0 then some (0 : Int32) else (if (2 : Int32) ≤ (gi M 127 7) then some (0 : Int32) else some (1 : Int32)))) else some (0 : Int32))
set_option maxHeartbeats 4000000 in
set_option maxRecDepth 100000 in
theorem ct_X2_isWidow (l : Launch) (G : GG)  {M : Mem} {r : Int32}  (hf : f_X2_isWidow M = some r) : Met l yX2_isWidow (wsq yX2_isWidow cX2_isWidow 1 (some .boolean)) (rmq 0 0) (va_Pc [.ref (G.2.2.1 127)] (World G M)) (Qi G r M) 0 0 (adA G) := by
  refine x_start (plainFor_of_name (by decide)) (Nat.le_of_ble_eq_true rfl) ?_
  intro p e s m args below meth c hB hr hlk hW hS ls hl
  have hx := hB.x
  have hb := hB.b
  have hl : lv_has ls 1 [(0, .ref (G.2.2.1 127))] := hl
  unfold f_X2_isWidow at hf
  refine lv_aload_n hx hb dX2_isWidow_0 rfl (lv_at hl 0 rfl) ?_
  refine fg2_3 hB hW tl127 wd2_2 dX2_isWidow_1 ?_
  refine lv_iconst (v := (1 : Int32)) hx hb dX2_isWidow_4 (by decide) ?_
  refine lv_icmp_ne (tgt := 35) hx hb dX2_isWidow_5 (by decide) (fun c1 => ?_) (fun c1 => ?_)
  · have hf := i_f hf c1
    refine lv_iconst (v := (0 : Int32)) hx hb dX2_isWidow_35 (by decide) ?_
    exact e_z (by decide) hB hW hS hr hlk (Option.some.inj hf) rfl dX2_isWidow_36
  · have hf := i_t hf c1
    refine lv_aload_n hx hb dX2_isWidow_8 rfl (lv_at hl 0 rfl) ?_
    refine fg2_5 hB hW tl127 wd2_7 dX2_isWidow_9 ?_
    refine lv_iconst (v := (2 : Int32)) hx hb dX2_isWidow_12 (by decide) ?_
    refine lv_icmp_lt (tgt := 35) hx hb dX2_isWidow_13 (by decide) (fun c2 => ?_) (fun c2 => ?_)
    · have hf := i_t hf c2
      refine lv_iconst (v := (0 : Int32)) hx hb dX2_isWidow_35 (by decide) ?_
      exact e_z (by decide) hB hW hS hr hlk (Option.some.inj hf) rfl dX2_isWidow_36
    · have hf := i_f hf c2
      refine lv_aload_n hx hb dX2_isWidow_16 rfl (lv_at hl 0 rfl) ?_
      refine fg2_1 hB hW tl127 wd1_238 dX2_isWidow_17 ?_
      refine lv_if_le (tgt := 35) hx hb dX2_isWidow_20 (by decide) (fun c3 => ?_) (fun c3 => ?_)
      · have hf := i_t hf c3
        refine lv_iconst (v := (0 : Int32)) hx hb dX2_isWidow_35 (by decide) ?_
        exact e_z (by decide) hB hW hS hr hlk (Option.some.inj hf) rfl dX2_isWidow_36
      · have hf := i_f hf c3
        refine lv_aload_n hx hb dX2_isWidow_23 rfl (lv_at hl 0 rfl) ?_
        refine fg2_7 hB hW tl127 wd2_13 dX2_isWidow_24 ?_
        refine lv_iconst (v := (2 : Int32)) hx hb dX2_isWidow_27 (by decide) ?_
        refine lv_icmp_ge (tgt := 35) hx hb dX2_isWidow_28 (by decide) (fun c4 => ?_) (fun c4 => ?_)
        · have hf := i_t hf c4
          refine lv_iconst (v := (0 : Int32)) hx hb dX2_isWidow_35 (by decide) ?_
          exact e_z (by decide) hB hW hS hr hlk (Option.some.inj hf) rfl dX2_isWidow_36
        · have hf := i_f hf c4
          refine lv_iconst (v := (1 : Int32)) hx hb dX2_isWidow_31 (by decide) ?_
          refine lv_goto (tgt := 36) hx hb dX2_isWidow_32 (by decide) ?_
          exact e_z (by decide) hB hW hS hr hlk (Option.some.inj hf) rfl dX2_isWidow_36
theorem cl_RX2_113 {R : Room} {s : State} {args : Array Value} (ht : ∀ w ∈ lw_all, w.before args s = true) (hR : 0 + 1 ≤ R.frames ∧ 8 + (2 + 11) + 0 ≤ R.locals) : CallW R s args RX2 RX2 113 yX2_badnessOfLine cX2_badnessOfLine 2 (some .float) (wsq yX2_badnessOfLine cX2_badnessOfLine 2 (some .float)) (rmq 0 0) 0 0 0 := cwV 0 ht (goodV wd4_90 wd4_91 wd4_92 wd1_8 wd4_93) rfl rfl rfl (by decide +kernel) hR
theorem cl_RX2_116 {R : Room} {s : State} {args : Array Value} (ht : ∀ w ∈ lw_all, w.before args s = true) (hR : 0 + 1 ≤ R.frames ∧ 8 + (4 + 11) + 0 ≤ R.locals) : CallW R s args RX2 RX2 116 yX2_demeritsByManner cX2_demeritsByManner 4 (some .float) (wsq yX2_demeritsByManner cX2_demeritsByManner 4 (some .float)) (rmq 0 0) 0 0 2 := cwV 2 ht (goodV wd4_95 wd4_97 wsel_25 wd1_8 wd4_98) rfl rfl rfl (by decide +kernel) hR
theorem cl_RX2_121 {R : Room} {s : State} {args : Array Value} (ht : ∀ w ∈ lw_all, w.before args s = true) (hR : 0 + 1 ≤ R.frames ∧ 8 + (1 + 11) + 0 ≤ R.locals) : CallW R s args RX2 RX2 121 yX2_isWidow cX2_isWidow 1 (some .boolean) (wsq yX2_isWidow cX2_isWidow 1 (some .boolean)) (rmq 0 0) 0 0 0 := cwV 0 ht (goodV wd4_100 wd4_101 wd4_102 wd1_8 wd4_103) rfl rfl rfl (by decide +kernel) hR
def f_X2_demeritsOfLine (M : Mem) : Option UInt32 := (nmq ((if (gi M 127 5) = (1 : Int32) then ((FP.i2f (gi M 127 14))) else (FP.fconst0))) (fun (x1 : UInt32) => (bq1 (f_X2_badnessOfLine M) (fun (x3 : UInt32) => nmq (FP.fadd FP.fconst1 x3) (fun (x5 : UInt32) => gq (nN x5) (bq1 (f_X2_demeritsByManner x5 x1 M) (fun (x7 : UInt32) => (bq1 ((if (gi M 127 5) = (1 : Int32) then (if (gi M 127 7) = (1 : Int32) then (nmq (FP.fadd x7 (1161527296 : UInt32)) (fun (x21 : UInt32) => gq (nN x21) ((some (x21))))) else (some (x7))) else (some (x7))) : Option (UInt32)) (fun (x9 : UInt32) => (bq1 (f_X2_isWidow M) (fun (x11 : Int32) => (if x11 = 0 then some x9 else (nmq (FP.fmul (FP.i2f (gi M 127 16)) (1148846080 : UInt32)) (fun (x14 : UInt32) => gq (nN x14) (nmq (FP.fadd x9 x14) (fun (x16 : UInt32) => gq (nN x16) (some x16)))))))))))))))))
set_option maxHeartbeats 4000000 in
set_option maxRecDepth 100000 in
theorem ct_X2_demeritsOfLine (l : Launch) (G : GG)  {M : Mem} {r : UInt32}  (hf : f_X2_demeritsOfLine M = some r) : Met l yX2_demeritsOfLine (wsq yX2_demeritsOfLine cX2_demeritsOfLine 3 (some .float)) (rmq 1 23) (va_Pc [.ref (G.2.2.1 127)] (World G M)) (Qf G r M) 0 0 (adA G) := by
  refine x_start (plainFor_of_name (by decide)) (Nat.le_of_ble_eq_true rfl) ?_
  intro p e s m args below meth c hB hr hlk hW hS ls hl
  have hx := hB.x
  have hb := hB.b
  have hl : lv_has ls 3 [(0, .ref (G.2.2.1 127))] := hl
  unfold f_X2_demeritsOfLine at hf
  refine lv_aload_n hx hb dX2_demeritsOfLine_0 rfl (lv_at hl 0 rfl) ?_
  refine fg2_5 hB hW tl127 wd2_7 dX2_demeritsOfLine_1 ?_
  refine lv_iconst (v := (1 : Int32)) hx hb dX2_demeritsOfLine_4 (by decide) ?_
  obtain ⟨y23, evy23⟩ : ∃ z : UInt32, (if (gi M 127 5) = (1 : Int32) then ((FP.i2f (gi M 127 14))) else (FP.fconst0)) = z := ⟨_, rfl⟩
  have hf := nm_o hf evy23.symm
  have main2 : ∀ (x1 : UInt32) (H : Heap) (locs : List Loc) (ls : Array Slot), Wd G M H → va_S (adA G) s.heap H locs → lv_has ls 3 [(0, .ref (G.2.2.1 127))] → x1 = y23 → W p l e (rmq 1 23) s m args below meth c H locs 0 0 (MQ below (Qf G r M) args s 0 0 (adA G)) (F0 m 17 ls [.float x1]) := by
    intro x1 H locs ls hW hS hl hE
    have hE := hE.symm
    subst hE
    refine lv_fstore_n (lv' := [(1, .float y23), (0, .ref (G.2.2.1 127))]) hx hb dX2_demeritsOfLine_17 rfl hl (by decide) rfl (fun ls hl => ?_)
    refine lv_aload_n hx hb dX2_demeritsOfLine_18 rfl (lv_at hl 1 rfl) ?_
    refine lv_fconst1 hx hb dX2_demeritsOfLine_19 ?_
    refine lv_aload_n hx hb dX2_demeritsOfLine_20 rfl (lv_at hl 1 rfl) ?_
    obtain ⟨x3, hg4, hf⟩ := b_o1 hf
    refine x_cf hB (x_rv hB hW hS (As := []) (rest := [.float FP.fconst1, .ref (G.2.2.1 127)]) (ct_X2_badnessOfLine l G hg4) (cl_RX2_113 hB.2.2.2.2.1 ⟨Nat.le_of_ble_eq_true rfl, Nat.le_of_ble_eq_true rfl⟩) tl127 (by decide) rfl rfl hl.1 rfl (Nat.le_of_ble_eq_true rfl) dX2_demeritsOfLine_21 ⟨Nat.le_refl _, Nat.le_refl _⟩) hS (fun H locs hW hS => ?_)
    obtain ⟨x5, ex5⟩ : ∃ y : UInt32, y = FP.fadd FP.fconst1 x3 := ⟨_, rfl⟩
    have hf := nm_o hf ex5
    obtain ⟨h6, hf⟩ := g_o hf
    refine y_fadd hB ex5 h6 dX2_demeritsOfLine_24 ?_
    refine lv_fload_n hx hb dX2_demeritsOfLine_25 rfl (lv_at hl 0 rfl) ?_
    obtain ⟨x7, hg8, hf⟩ := b_o1 hf
    refine x_cf hB (x_rv hB hW hS (As := [.float x5, .float y23]) (rest := []) (ct_X2_demeritsByManner l G hg8) (cl_RX2_116 hB.2.2.2.2.1 ⟨Nat.le_of_ble_eq_true rfl, Nat.le_of_ble_eq_true rfl⟩) tl127 (by decide) rfl rfl hl.1 rfl (Nat.le_of_ble_eq_true rfl) dX2_demeritsOfLine_26 ⟨Nat.le_refl _, Nat.le_refl _⟩) hS (fun H locs hW hS => ?_)
    refine lv_fstore_n (lv' := [(2, .float x7), (1, .float y23), (0, .ref (G.2.2.1 127))]) hx hb dX2_demeritsOfLine_29 rfl hl (by decide) rfl (fun ls hl => ?_)
    refine lv_aload_n hx hb dX2_demeritsOfLine_30 rfl (lv_at hl 2 rfl) ?_
    refine fg2_5 hB hW tl127 wd2_7 dX2_demeritsOfLine_31 ?_
    refine lv_iconst (v := (1 : Int32)) hx hb dX2_demeritsOfLine_34 (by decide) ?_
    obtain ⟨y18, hR, hf⟩ := b_o1 hf
    have main10 : ∀ (x9 : UInt32) (H : Heap) (locs : List Loc) (ls : Array Slot), Wd G M H → va_S (adA G) s.heap H locs → lv_has ls 3 [(0, .ref (G.2.2.1 127)), (2, .float x9)] → some (x9) = some (y18) → W p l e (rmq 1 23) s m args below meth c H locs 0 0 (MQ below (Qf G r M) args s 0 0 (adA G)) (F0 m 51 ls []) := by
      intro x9 H locs ls hW hS hl hE
      cases hE
      refine lv_aload_n hx hb dX2_demeritsOfLine_51 rfl (lv_at hl 0 rfl) ?_
      obtain ⟨x11, hg12, hf⟩ := b_o1 hf
      refine x_ci hB (x_rv hB hW hS (As := []) (rest := []) (ct_X2_isWidow l G hg12) (cl_RX2_121 hB.2.2.2.2.1 ⟨Nat.le_of_ble_eq_true rfl, Nat.le_of_ble_eq_true rfl⟩) tl127 (by decide) rfl rfl hl.1 rfl (Nat.le_of_ble_eq_true rfl) dX2_demeritsOfLine_52 ⟨Nat.le_refl _, Nat.le_refl _⟩) hS (fun H locs hW hS => ?_)
      refine lv_if_eq (tgt := 69) hx hb dX2_demeritsOfLine_55 (by decide) (fun c13 => ?_) (fun c13 => ?_)
      · have hf := i_t hf c13
        refine lv_fload_n hx hb dX2_demeritsOfLine_69 rfl (lv_at hl 1 rfl) ?_
        exact e_f hB hW hS hr hlk (Option.some.inj hf) rfl dX2_demeritsOfLine_70
      · have hf := i_f hf c13
        refine lv_fload_n hx hb dX2_demeritsOfLine_58 rfl (lv_at hl 1 rfl) ?_
        refine lv_aload_n hx hb dX2_demeritsOfLine_59 rfl (lv_at hl 0 rfl) ?_
        refine fg2_16 hB hW tl127 wd2_22 dX2_demeritsOfLine_60 ?_
        refine lv_i2f hx hb dX2_demeritsOfLine_63 ?_
        refine lv_ldcf (v := (1148846080 : UInt32)) hx hb hB.ow (hB.w wd4_104) dX2_demeritsOfLine_64 ?_
        obtain ⟨x14, ex14⟩ : ∃ y : UInt32, y = FP.fmul (FP.i2f (gi M 127 16)) (1148846080 : UInt32) := ⟨_, rfl⟩
        have hf := nm_o hf ex14
        obtain ⟨h15, hf⟩ := g_o hf
        refine y_fmul hB ex14 h15 dX2_demeritsOfLine_66 ?_
        obtain ⟨x16, ex16⟩ : ∃ y : UInt32, y = FP.fadd y18 x14 := ⟨_, rfl⟩
        have hf := nm_o hf ex16
        obtain ⟨h17, hf⟩ := g_o hf
        refine y_fadd hB ex16 h17 dX2_demeritsOfLine_67 ?_
        refine lv_fstore_n (lv' := [(2, .float x16), (0, .ref (G.2.2.1 127))]) hx hb dX2_demeritsOfLine_68 rfl hl (by decide) rfl (fun ls hl => ?_)
        refine lv_fload_n hx hb dX2_demeritsOfLine_69 rfl (lv_at hl 0 rfl) ?_
        exact e_f hB hW hS hr hlk (Option.some.inj hf) rfl dX2_demeritsOfLine_70
    have hf := hR
    refine lv_icmp_ne (tgt := 51) hx hb dX2_demeritsOfLine_35 (by decide) (fun c19 => ?_) (fun c19 => ?_)
    · have hf := i_f hf c19
      exact main10 x7 _ _ ls hW hS (lv_sub hl [2, 0] rfl) hf
    · have hf := i_t hf c19
      refine lv_aload_n hx hb dX2_demeritsOfLine_38 rfl (lv_at hl 2 rfl) ?_
      refine fg2_7 hB hW tl127 wd2_13 dX2_demeritsOfLine_39 ?_
      refine lv_iconst (v := (1 : Int32)) hx hb dX2_demeritsOfLine_42 (by decide) ?_
      refine lv_icmp_ne (tgt := 51) hx hb dX2_demeritsOfLine_43 (by decide) (fun c20 => ?_) (fun c20 => ?_)
      · have hf := i_f hf c20
        exact main10 x7 _ _ ls hW hS (lv_sub hl [2, 0] rfl) hf
      · have hf := i_t hf c20
        refine lv_fload_n hx hb dX2_demeritsOfLine_46 rfl (lv_at hl 0 rfl) ?_
        refine lv_ldcf (v := (1161527296 : UInt32)) hx hb hB.ow (hB.w wd4_99) dX2_demeritsOfLine_47 ?_
        obtain ⟨x21, ex21⟩ : ∃ y : UInt32, y = FP.fadd x7 (1161527296 : UInt32) := ⟨_, rfl⟩
        have hf := nm_o hf ex21
        obtain ⟨h22, hf⟩ := g_o hf
        refine y_fadd hB ex21 h22 dX2_demeritsOfLine_49 ?_
        refine lv_fstore_n (lv' := [(2, .float x21), (1, .float y23), (0, .ref (G.2.2.1 127))]) hx hb dX2_demeritsOfLine_50 rfl hl (by decide) rfl (fun ls hl => ?_)
        exact main10 x21 _ _ ls hW hS (lv_sub hl [2, 0] rfl) hf
  have hf := evy23
  refine lv_icmp_ne (tgt := 16) hx hb dX2_demeritsOfLine_5 (by decide) (fun c24 => ?_) (fun c24 => ?_)
  · have hf := i_f hf c24
    refine lv_fconst0 hx hb dX2_demeritsOfLine_16 ?_
    exact main2 FP.fconst0 _ _ ls hW hS (lv_sub hl [0] rfl) hf
  · have hf := i_t hf c24
    refine lv_aload_n hx hb dX2_demeritsOfLine_8 rfl (lv_at hl 0 rfl) ?_
    refine fg2_14 hB hW tl127 wd2_20 dX2_demeritsOfLine_9 ?_
    refine lv_i2f hx hb dX2_demeritsOfLine_12 ?_
    refine lv_goto (tgt := 17) hx hb dX2_demeritsOfLine_13 (by decide) ?_
    exact main2 (FP.i2f (gi M 127 14)) _ _ ls hW hS (lv_sub hl [0] rfl) hf
theorem cl_RX6_74 {R : Room} {s : State} {args : Array Value} (ht : ∀ w ∈ lw_all, w.before args s = true) (hR : 0 + 1 ≤ R.frames ∧ 8 + (2 + 11) + 0 ≤ R.locals) : CallB R s args RX6 74 yX6_bestAt cX6_bestAt 2 (some .float) (wsq yX6_bestAt cX6_bestAt 2 (some .float)) (rmq 0 0) 0 0 2 ∧ (Cond.static yX6_bestAt).before args s = true := va_cwS 2 ht (goodS wd4_63 wd4_64 wd1_7 wd4_65) rfl rfl rfl (by decide +kernel) hR
theorem cl_RX6_145 {R : Room} {s : State} {args : Array Value} (hN : Nst s) (ht : ∀ w ∈ lw_all, w.before args s = true) (hR : 0 + 1 ≤ R.frames ∧ 8 + (3 + 11) + 0 ≤ R.locals) : va_CN R s args RX6 145 yX8_put "LinesOfFragments" cX8_put 3 none (wsq yX8_put cX8_put 3 none) (rmq 0 0) 0 0 3 ∧ (Cond.static yX8_put).before args s = true ∧ True := ⟨va_cnB 3 ht (goodC wd2_138) rfl rfl rfl (hN _ (List.mem_of_getElem? (l := nestL) (i := 22) rfl)) (ht _ wd1_1) (by decide +kernel) hR, ht _ wd2_137, trivial⟩
def f_X6_offer (k1 : Nat) (p2 : Int32) (p3 : UInt32) (M : Mem) : Option Mem := (bq1 (f_X6_bestAt k1 p2 M) (fun (x1 : UInt32) => (if p2 < 0 then some M else (if (Int32.ofNat (alen k1)) ≤ p2 then some M else (jq (fun (_ : Unit) => (gq (inB p2 (alen k1)) (nmq (sf M k1 ((p2 : Int32).toNatClampNeg) p3) (fun (M8 : Mem) => bq1 (f_X8_put 136 p2 (gi M8 127 1) M8) (fun (M9 : Mem) => some M9))))) (fun (K6 : Unit → Option Mem) => (if (fcg x1 FP.fconst0) < 0 then (K6 ()) else (if 0 ≤ (fcg p3 x1) then some M else (K6 ())))))))))
set_option maxHeartbeats 4000000 in
set_option maxRecDepth 100000 in
theorem ct_X6_offer (l : Launch) (G : GG) {k1 : Nat} {p2 : Int32} {p3 : UInt32} {M : Mem} {Mr : Mem} (hk1 : isT 12 k1) (hf : f_X6_offer k1 p2 p3 M = some Mr) : Met l yX6_offer (wsq yX6_offer cX6_offer 5 none) (rmq 1 22) (va_Pc [.ref (G.2.2.1 126), .ref (G.2.2.1 k1), .int p2, .float p3] (World G M)) (Qv G Mr) 0 0 (adA G) := by
  refine x_start (plainFor_of_name (by decide)) (Nat.le_of_ble_eq_true rfl) ?_
  intro p e s m args below meth c hB hr hlk hW hS ls hl
  have hx := hB.x
  have hb := hB.b
  have hl : lv_has ls 5 [(0, .ref (G.2.2.1 126)), (1, .ref (G.2.2.1 k1)), (2, .int p2), (3, .float p3)] := hl
  unfold f_X6_offer at hf
  refine lv_aload_n hx hb dX6_offer_0 rfl (lv_at hl 1 rfl) ?_
  refine lv_iload_n hx hb dX6_offer_1 rfl (lv_at hl 2 rfl) ?_
  obtain ⟨x1, hg2, hf⟩ := b_o1 hf
  refine x_cf hB (x_rs hB hW hS (As := [.ref (G.2.2.1 k1), .int p2]) (rest := []) (ct_X6_bestAt l G hk1 hg2) (cl_RX6_74 hB.2.2.2.2.1 ⟨Nat.le_of_ble_eq_true rfl, Nat.le_of_ble_eq_true rfl⟩) rfl hl.1 rfl (Nat.le_of_ble_eq_true rfl) dX6_offer_2 ⟨Nat.le_refl _, Nat.le_refl _⟩) hS (fun H locs hW hS => ?_)
  refine lv_fstore (lv' := [(4, .float x1), (0, .ref (G.2.2.1 126)), (1, .ref (G.2.2.1 k1)), (2, .int p2), (3, .float p3)]) hx hb dX6_offer_5 hl (by decide) rfl (fun ls hl => ?_)
  refine lv_iload_n hx hb dX6_offer_7 rfl (lv_at hl 3 rfl) ?_
  refine lv_if_lt (tgt := 50) hx hb dX6_offer_8 (by decide) (fun c3 => ?_) (fun c3 => ?_)
  · have hf := i_t hf c3
    exact e_v hB hW hS hr hlk (Option.some.inj hf) dX6_offer_50
  · have hf := i_f hf c3
    refine lv_iload_n hx hb dX6_offer_11 rfl (lv_at hl 3 rfl) ?_
    refine lv_aload_n hx hb dX6_offer_12 rfl (lv_at hl 2 rfl) ?_
    refine x_alen hB hW hk1 (by decide) rfl (v := (Int32.ofNat (alen k1))) rfl dX6_offer_13 ?_
    refine lv_icmp_ge (tgt := 50) hx hb dX6_offer_14 (by decide) (fun c4 => ?_) (fun c4 => ?_)
    · have hf := i_t hf c4
      exact e_v hB hW hS hr hlk (Option.some.inj hf) dX6_offer_50
    · have hf := i_f hf c4
      refine lv_fload hx hb dX6_offer_17 (lv_at hl 0 rfl) ?_
      refine lv_fconst0 hx hb dX6_offer_19 ?_
      refine lv_fcmp hx hb dX6_offer_20 ?_
      obtain ⟨K6, eK6, hf⟩ := j_o hf
      have main5 : ∀ (_ : Unit) (H : Heap) (locs : List Loc) (ls : Array Slot), Wd G M H → va_S (adA G) s.heap H locs → lv_has ls 5 [(0, .ref (G.2.2.1 126)), (1, .ref (G.2.2.1 k1)), (2, .int p2), (3, .float p3)] → K6 () = some Mr → W p l e (rmq 1 22) s m args below meth c H locs 0 0 (MQ below (Qv G Mr) args s 0 0 (adA G)) (F0 m 31 ls []) := by
        intro _ H locs ls hW hS hl hf
        subst eK6
        refine lv_aload_n hx hb dX6_offer_31 rfl (lv_at hl 1 rfl) ?_
        refine lv_iload_n hx hb dX6_offer_32 rfl (lv_at hl 2 rfl) ?_
        refine lv_fload_n hx hb dX6_offer_33 rfl (lv_at hl 3 rfl) ?_
        obtain ⟨h7, hf⟩ := g_o hf
        refine x_f hB hW hS hk1 rfl h7 dX6_offer_34 (fun H locs M8 eM8 hW hS => ?_)
        have hf := nm_o hf eM8
        refine lv_aload_n hx hb dX6_offer_35 rfl (lv_at hl 0 rfl) ?_
        refine fg6_7 hB hW tl126 wd2_72 dX6_offer_36 ?_
        refine lv_iload_n hx hb dX6_offer_39 rfl (lv_at hl 2 rfl) ?_
        refine lv_aload_n hx hb dX6_offer_40 rfl (lv_at hl 0 rfl) ?_
        refine fg6_1 hB hW tl126 wd2_63 dX6_offer_41 ?_
        refine fg2_1 hB hW tl127 wd1_239 dX6_offer_44 ?_
        obtain ⟨M9, hg10, hf⟩ := b_o1 hf
        refine x_cv hB (x_rn hB hW hS (As := [.ref (G.2.2.1 136), .int p2, .int (gi M8 127 1)]) (rest := []) (ct_X8_put l G tl136 hg10) (cl_RX6_145 hB.nst hB.2.2.2.2.1 ⟨Nat.le_of_ble_eq_true rfl, Nat.le_of_ble_eq_true rfl⟩) rfl hl.1 rfl (Nat.le_of_ble_eq_true rfl) dX6_offer_47 ⟨Nat.le_refl _, Nat.le_refl _⟩) hS (fun H locs hW hS => ?_)
        exact e_v hB hW hS hr hlk (Option.some.inj hf) dX6_offer_50
      refine lv_if_lt (tgt := 31) hx hb dX6_offer_21 (by decide) (fun c11 => ?_) (fun c11 => ?_)
      · have hf := i_t hf c11
        exact main5 () _ _ ls hW hS (lv_sub hl [1, 2, 3, 4] rfl) hf
      · have hf := i_f hf c11
        refine lv_fload_n hx hb dX6_offer_24 rfl (lv_at hl 4 rfl) ?_
        refine lv_fload hx hb dX6_offer_25 (lv_at hl 0 rfl) ?_
        refine lv_fcmp hx hb dX6_offer_27 ?_
        refine lv_if_ge (tgt := 50) hx hb dX6_offer_28 (by decide) (fun c12 => ?_) (fun c12 => ?_)
        · have hf := i_t hf c12
          exact e_v hB hW hS hr hlk (Option.some.inj hf) dX6_offer_50
        · have hf := i_f hf c12
          exact main5 () _ _ ls hW hS (lv_sub hl [1, 2, 3, 4] rfl) hf
def f_X2_isFull (M : Mem) : Option Int32 := (if (gi M 127 5) = (2 : Int32) then some (1 : Int32) else (if ((gi M 127 8) + ((gi M 127 9) * ((gi M 127 11) - (gi M 127 13)))) ≤ (gi M 127 10) then some (0 : Int32) else some (1 : Int32)))
set_option maxHeartbeats 4000000 in
set_option maxRecDepth 100000 in
theorem ct_X2_isFull (l : Launch) (G : GG)  {M : Mem} {r : Int32}  (hf : f_X2_isFull M = some r) : Met l yX2_isFull (wsq yX2_isFull cX2_isFull 1 (some .boolean)) (rmq 0 0) (va_Pc [.ref (G.2.2.1 127)] (World G M)) (Qi G r M) 0 0 (adA G) := by
  refine x_start (plainFor_of_name (by decide)) (Nat.le_of_ble_eq_true rfl) ?_
  intro p e s m args below meth c hB hr hlk hW hS ls hl
  have hx := hB.x
  have hb := hB.b
  have hl : lv_has ls 1 [(0, .ref (G.2.2.1 127))] := hl
  unfold f_X2_isFull at hf
  refine lv_aload_n hx hb dX2_isFull_0 rfl (lv_at hl 0 rfl) ?_
  refine fg2_5 hB hW tl127 wd2_7 dX2_isFull_1 ?_
  refine lv_iconst (v := (2 : Int32)) hx hb dX2_isFull_4 (by decide) ?_
  refine lv_icmp_eq (tgt := 34) hx hb dX2_isFull_5 (by decide) (fun c1 => ?_) (fun c1 => ?_)
  · have hf := i_t hf c1
    refine lv_iconst (v := (1 : Int32)) hx hb dX2_isFull_34 (by decide) ?_
    refine lv_goto (tgt := 39) hx hb dX2_isFull_35 (by decide) ?_
    exact e_z (by decide) hB hW hS hr hlk (Option.some.inj hf) rfl dX2_isFull_39
  · have hf := i_f hf c1
    refine lv_aload_n hx hb dX2_isFull_8 rfl (lv_at hl 0 rfl) ?_
    refine fg2_8 hB hW tl127 wd2_14 dX2_isFull_9 ?_
    refine lv_aload_n hx hb dX2_isFull_12 rfl (lv_at hl 0 rfl) ?_
    refine fg2_9 hB hW tl127 wd2_15 dX2_isFull_13 ?_
    refine lv_aload_n hx hb dX2_isFull_16 rfl (lv_at hl 0 rfl) ?_
    refine fg2_11 hB hW tl127 wd2_17 dX2_isFull_17 ?_
    refine lv_aload_n hx hb dX2_isFull_20 rfl (lv_at hl 0 rfl) ?_
    refine fg2_13 hB hW tl127 wd2_19 dX2_isFull_21 ?_
    refine lv_isub hx hb dX2_isFull_24 ?_
    refine lv_imul hx hb dX2_isFull_25 ?_
    refine lv_iadd hx hb dX2_isFull_26 ?_
    refine lv_aload_n hx hb dX2_isFull_27 rfl (lv_at hl 0 rfl) ?_
    refine fg2_10 hB hW tl127 wd2_16 dX2_isFull_28 ?_
    refine lv_icmp_le (tgt := 38) hx hb dX2_isFull_31 (by decide) (fun c2 => ?_) (fun c2 => ?_)
    · have hf := i_t hf c2
      refine lv_iconst (v := (0 : Int32)) hx hb dX2_isFull_38 (by decide) ?_
      exact e_z (by decide) hB hW hS hr hlk (Option.some.inj hf) rfl dX2_isFull_39
    · have hf := i_f hf c2
      refine lv_iconst (v := (1 : Int32)) hx hb dX2_isFull_34 (by decide) ?_
      refine lv_goto (tgt := 39) hx hb dX2_isFull_35 (by decide) ?_
      exact e_z (by decide) hB hW hS hr hlk (Option.some.inj hf) rfl dX2_isFull_39
theorem cl_RX6_105 {R : Room} {s : State} {args : Array Value} (ht : ∀ w ∈ lw_all, w.before args s = true) (hR : 1 + 1 ≤ R.frames ∧ 8 + (2 + 11) + 21 ≤ R.locals) : CallW R s args RX6 RX2 105 yX2_beginAt cX2_beginAt 2 none (wsq yX2_beginAt cX2_beginAt 2 none) (rmq 1 21) 0 0 1 := cwV 1 ht (goodV wd4_66 wd4_67 wd4_68 wd1_8 wd4_69) rfl rfl rfl (by decide +kernel) hR
theorem cl_RX6_112 {R : Room} {s : State} {args : Array Value} (ht : ∀ w ∈ lw_all, w.before args s = true) (hR : 1 + 1 ≤ R.frames ∧ 8 + (1 + 11) + 22 ≤ R.locals) : CallW R s args RX6 RX2 112 yX2_grow cX2_grow 1 none (wsq yX2_grow cX2_grow 1 none) (rmq 1 22) 0 0 0 := cwV 0 ht (goodV wd4_71 wd4_72 wd4_73 wd1_8 wd4_74) rfl rfl rfl (by decide +kernel) hR
theorem cl_RX6_132 {R : Room} {s : State} {args : Array Value} (ht : ∀ w ∈ lw_all, w.before args s = true) (hR : 0 + 1 ≤ R.frames ∧ 8 + (1 + 11) + 0 ≤ R.locals) : CallW R s args RX6 RX2 132 yX2_fits cX2_fits 1 (some .boolean) (wsq yX2_fits cX2_fits 1 (some .boolean)) (rmq 0 0) 0 0 0 := cwV 0 ht (goodV wd4_81 wd4_82 wd4_83 wd1_8 wd4_84) rfl rfl rfl (by decide +kernel) hR
theorem cl_RX6_135 {R : Room} {s : State} {args : Array Value} (ht : ∀ w ∈ lw_all, w.before args s = true) (hR : 1 + 1 ≤ R.frames ∧ 8 + (3 + 11) + 23 ≤ R.locals) : CallW R s args RX6 RX2 135 yX2_demeritsOfLine cX2_demeritsOfLine 3 (some .float) (wsq yX2_demeritsOfLine cX2_demeritsOfLine 3 (some .float)) (rmq 1 23) 0 0 0 := cwV 0 ht (goodV wd4_86 wd4_87 wd4_88 wd1_8 wd4_89) rfl rfl rfl (by decide +kernel) hR
theorem cl_RX6_138 {R : Room} {s : State} {args : Array Value} (ht : ∀ w ∈ lw_all, w.before args s = true) (hR : 1 + 1 ≤ R.frames ∧ 8 + (5 + 11) + 22 ≤ R.locals) : CallW R s args RX6 RX6 138 yX6_offer cX6_offer 5 none (wsq yX6_offer cX6_offer 5 none) (rmq 1 22) 0 0 3 := cwV 3 ht (goodV wd4_105 wd4_107 wsel_26 wd1_7 wd4_108) rfl rfl rfl (by decide +kernel) hR
theorem cl_RX6_142 {R : Room} {s : State} {args : Array Value} (ht : ∀ w ∈ lw_all, w.before args s = true) (hR : 0 + 1 ≤ R.frames ∧ 8 + (1 + 11) + 0 ≤ R.locals) : CallW R s args RX6 RX2 142 yX2_isFull cX2_isFull 1 (some .boolean) (wsq yX2_isFull cX2_isFull 1 (some .boolean)) (rmq 0 0) 0 0 0 := cwV 0 ht (goodV wd4_110 wd4_111 wd4_112 wd1_8 wd4_113) rfl rfl rfl (by decide +kernel) hR
def f_X6_reachFrom_L28 (k3 : Nat) (x1 : UInt32) (K9 : Int32 → Mem → Option Mem) (x7 : Int32) (M8 : Mem) : Option Mem := (if (gi M8 128 3) < x7 then some M8 else (bq1 (f_X2_grow M8) (fun (M12 : Mem) => bq1 (f_X2_fits M12) (fun (x14 : Int32) => (bq1 ((if x14 = 0 then (some (M12)) else (bq1 (f_X2_demeritsOfLine M12) (fun (x24 : UInt32) => nmq (FP.fadd x1 x24) (fun (x26 : UInt32) => gq (nN x26) (bq1 (f_X6_offer k3 x7 x26 M12) (fun (M28 : Mem) => (some (M28)))))))) : Option (Mem)) (fun (M16 : Mem) => (bq1 (f_X2_isFull M16) (fun (x18 : Int32) => (if x18 = 0 then (nmq (x7 + (1 : Int32)) (fun (x21 : Int32) => (K9 x21 M16))) else some M16)))))))))
def f_X6_reachFrom (p1 : Int32) (k2 : Nat) (k3 : Nat) (M : Mem) : Option Mem := (bq1 (f_X6_bestAt k2 p1 M) (fun (x1 : UInt32) => (if 0 ≤ (fcg x1 FP.fconst0) then (bq1 (f_X2_beginAt p1 M) (fun (M4 : Mem) => nmq ((p1 + (1 : Int32))) (fun (x6 : Int32) => (lq2 (f_X6_reachFrom_L28 k3 x1) FU x6 M4)))) else some M)))
set_option maxHeartbeats 4000000 in
set_option maxRecDepth 100000 in
theorem ct_X6_reachFrom (l : Launch) (G : GG) {p1 : Int32} {k2 : Nat} {k3 : Nat} {M : Mem} {Mr : Mem} (hk2 : isT 12 k2) (hk3 : isT 12 k3) (hf : f_X6_reachFrom p1 k2 k3 M = some Mr) : Met l yX6_reachFrom (wsq yX6_reachFrom cX6_reachFrom 6 none) (rmq 2 46) (va_Pc [.ref (G.2.2.1 126), .int p1, .ref (G.2.2.1 k2), .ref (G.2.2.1 k3)] (World G M)) (Qv G Mr) 0 0 (adA G) := by
  refine x_start (plainFor_of_name (by decide)) (Nat.le_of_ble_eq_true rfl) ?_
  intro p e s m args below meth c hB hr hlk hW hS ls hl
  have hx := hB.x
  have hb := hB.b
  have hl : lv_has ls 6 [(0, .ref (G.2.2.1 126)), (1, .int p1), (2, .ref (G.2.2.1 k2)), (3, .ref (G.2.2.1 k3))] := hl
  unfold f_X6_reachFrom at hf
  refine lv_aload_n hx hb dX6_reachFrom_0 rfl (lv_at hl 2 rfl) ?_
  refine lv_iload_n hx hb dX6_reachFrom_1 rfl (lv_at hl 1 rfl) ?_
  obtain ⟨x1, hg2, hf⟩ := b_o1 hf
  refine x_cf hB (x_rs hB hW hS (As := [.ref (G.2.2.1 k2), .int p1]) (rest := []) (ct_X6_bestAt l G hk2 hg2) (cl_RX6_74 hB.2.2.2.2.1 ⟨Nat.le_of_ble_eq_true rfl, Nat.le_of_ble_eq_true rfl⟩) rfl hl.1 rfl (Nat.le_of_ble_eq_true rfl) dX6_reachFrom_2 ⟨Nat.le_refl _, Nat.le_refl _⟩) hS (fun H locs hW hS => ?_)
  refine lv_fstore (lv' := [(4, .float x1), (0, .ref (G.2.2.1 126)), (1, .int p1), (2, .ref (G.2.2.1 k2)), (3, .ref (G.2.2.1 k3))]) hx hb dX6_reachFrom_5 hl (by decide) rfl (fun ls hl => ?_)
  refine lv_fload hx hb dX6_reachFrom_7 (lv_at hl 0 rfl) ?_
  refine lv_fconst0 hx hb dX6_reachFrom_9 ?_
  refine lv_fcmp hx hb dX6_reachFrom_10 ?_
  refine lv_if_ge (tgt := 15) hx hb dX6_reachFrom_11 (by decide) (fun c3 => ?_) (fun c3 => ?_)
  · have hf := i_t hf c3
    refine lv_aload_n hx hb dX6_reachFrom_15 rfl (lv_at hl 1 rfl) ?_
    refine fg6_1 hB hW tl126 wd2_63 dX6_reachFrom_16 ?_
    refine lv_iload_n hx hb dX6_reachFrom_19 rfl (lv_at hl 2 rfl) ?_
    obtain ⟨M4, hg5, hf⟩ := b_o1 hf
    refine x_cv hB (x_rv hB hW hS (As := [.int p1]) (rest := []) (ct_X2_beginAt l G hg5) (cl_RX6_105 hB.2.2.2.2.1 ⟨Nat.le_of_ble_eq_true rfl, Nat.le_of_ble_eq_true rfl⟩) tl127 (by decide) rfl rfl hl.1 rfl (Nat.le_of_ble_eq_true rfl) dX6_reachFrom_20 ⟨Nat.le_refl _, Nat.le_refl _⟩) hS (fun H locs hW hS => ?_)
    refine lv_iload_n hx hb dX6_reachFrom_23 rfl (lv_at hl 2 rfl) ?_
    refine lv_iconst (v := (1 : Int32)) hx hb dX6_reachFrom_24 (by decide) ?_
    refine lv_iadd hx hb dX6_reachFrom_25 ?_
    refine lv_topi (fun x6 ex6 => ?_)
    have hf := nm_o hf ex6
    refine lv_istore (lv' := [(5, .int x6), (4, .float x1), (0, .ref (G.2.2.1 126)), (1, .int p1), (2, .ref (G.2.2.1 k2)), (3, .ref (G.2.2.1 k3))]) hx hb dX6_reachFrom_26 hl (by decide) rfl (fun ls hl => ?_)
    have loop10 : ∀ (n : Nat) (x7 : Int32) (M8 : Mem) (H : Heap) (locs : List Loc) (ls : Array Slot), Wd G M8 H → va_S (adA G) s.heap H locs → lv_has ls 6 [(0, .ref (G.2.2.1 126)), (3, .ref (G.2.2.1 k3)), (4, .float x1), (5, .int x7)] → lq2 (f_X6_reachFrom_L28 k3 x1) n x7 M8 = some Mr → W p l e (rmq 2 46) s m args below meth c H locs 0 0 (MQ below (Qv G Mr) args s 0 0 (adA G)) (F0 m 28 ls []) := by
      intro n
      induction n with
      | zero => intro x7 M8 H locs ls hW hS hl hf; exact (l_z2 hf).elim
      | succ n ih =>
        intro x7 M8 H locs ls hW hS hl hf
        have hf := l_s2 hf
        generalize lq2 (f_X6_reachFrom_L28 k3 x1) n = K9 at ih hf
        unfold f_X6_reachFrom_L28 at hf
        refine lv_iload hx hb dX6_reachFrom_28 (lv_at hl 3 rfl) ?_
        refine lv_aload_n hx hb dX6_reachFrom_30 rfl (lv_at hl 0 rfl) ?_
        refine fg6_0 hB hW tl126 wd2_61 dX6_reachFrom_31 ?_
        refine fg0_3 hB hW tl128 wd1_225 dX6_reachFrom_34 ?_
        refine lv_icmp_gt (tgt := 91) hx hb dX6_reachFrom_37 (by decide) (fun c11 => ?_) (fun c11 => ?_)
        · have hf := i_t hf c11
          exact e_v hB hW hS hr hlk (Option.some.inj hf) dX6_reachFrom_91
        · have hf := i_f hf c11
          refine lv_aload_n hx hb dX6_reachFrom_40 rfl (lv_at hl 0 rfl) ?_
          refine fg6_1 hB hW tl126 wd2_63 dX6_reachFrom_41 ?_
          obtain ⟨M12, hg13, hf⟩ := b_o1 hf
          refine x_cv hB (x_rv hB hW hS (As := []) (rest := []) (ct_X2_grow l G hg13) (cl_RX6_112 hB.2.2.2.2.1 ⟨Nat.le_of_ble_eq_true rfl, Nat.le_of_ble_eq_true rfl⟩) tl127 (by decide) rfl rfl hl.1 rfl (Nat.le_of_ble_eq_true rfl) dX6_reachFrom_44 ⟨Nat.le_refl _, Nat.le_refl _⟩) hS (fun H locs hW hS => ?_)
          refine lv_aload_n hx hb dX6_reachFrom_47 rfl (lv_at hl 0 rfl) ?_
          refine fg6_1 hB hW tl126 wd2_63 dX6_reachFrom_48 ?_
          obtain ⟨x14, hg15, hf⟩ := b_o1 hf
          refine x_ci hB (x_rv hB hW hS (As := []) (rest := []) (ct_X2_fits l G hg15) (cl_RX6_132 hB.2.2.2.2.1 ⟨Nat.le_of_ble_eq_true rfl, Nat.le_of_ble_eq_true rfl⟩) tl127 (by decide) rfl rfl hl.1 rfl (Nat.le_of_ble_eq_true rfl) dX6_reachFrom_51 ⟨Nat.le_refl _, Nat.le_refl _⟩) hS (fun H locs hW hS => ?_)
          obtain ⟨M22, hR, hf⟩ := b_o1 hf
          have main17 : ∀ (M16 : Mem) (H : Heap) (locs : List Loc) (ls : Array Slot), Wd G M16 H → va_S (adA G) s.heap H locs → lv_has ls 6 [(0, .ref (G.2.2.1 126)), (3, .ref (G.2.2.1 k3)), (4, .float x1), (5, .int x7)] → some (M16) = some (M22) → W p l e (rmq 2 46) s m args below meth c H locs 0 0 (MQ below (Qv G Mr) args s 0 0 (adA G)) (F0 m 74 ls []) := by
            intro M16 H locs ls hW hS hl hE
            cases hE
            refine lv_aload_n hx hb dX6_reachFrom_74 rfl (lv_at hl 0 rfl) ?_
            refine fg6_1 hB hW tl126 wd2_63 dX6_reachFrom_75 ?_
            obtain ⟨x18, hg19, hf⟩ := b_o1 hf
            refine x_ci hB (x_rv hB hW hS (As := []) (rest := []) (ct_X2_isFull l G hg19) (cl_RX6_142 hB.2.2.2.2.1 ⟨Nat.le_of_ble_eq_true rfl, Nat.le_of_ble_eq_true rfl⟩) tl127 (by decide) rfl rfl hl.1 rfl (Nat.le_of_ble_eq_true rfl) dX6_reachFrom_78 ⟨Nat.le_refl _, Nat.le_refl _⟩) hS (fun H locs hW hS => ?_)
            refine lv_if_eq (tgt := 85) hx hb dX6_reachFrom_81 (by decide) (fun c20 => ?_) (fun c20 => ?_)
            · have hf := i_t hf c20
              obtain ⟨x21, ex21⟩ : ∃ y : Int32, y = x7 + (1 : Int32) := ⟨_, rfl⟩
              have hf := nm_o hf ex21
              refine lv_iinc (v := x21) (lv' := [(5, .int x21), (0, .ref (G.2.2.1 126)), (3, .ref (G.2.2.1 k3)), (4, .float x1)]) hx hb dX6_reachFrom_85 hl (k := 3) rfl (by rw [ex21]; rfl) (by decide) rfl (fun ls hl => ?_)
              refine lv_goto (tgt := 28) hx hb dX6_reachFrom_88 (by decide) ?_
              exact ih x21 M22 _ _ ls hW hS (lv_sub hl [1, 2, 3, 0] rfl) hf
            · have hf := i_f hf c20
              exact e_v hB hW hS hr hlk (Option.some.inj hf) dX6_reachFrom_84
          have hf := hR
          refine lv_if_eq (tgt := 74) hx hb dX6_reachFrom_54 (by decide) (fun c23 => ?_) (fun c23 => ?_)
          · have hf := i_t hf c23
            exact main17 M12 _ _ ls hW hS (lv_sub hl [0, 1, 2, 3] rfl) hf
          · have hf := i_f hf c23
            refine lv_aload_n hx hb dX6_reachFrom_57 rfl (lv_at hl 0 rfl) ?_
            refine lv_aload_n hx hb dX6_reachFrom_58 rfl (lv_at hl 1 rfl) ?_
            refine lv_iload hx hb dX6_reachFrom_59 (lv_at hl 3 rfl) ?_
            refine lv_fload hx hb dX6_reachFrom_61 (lv_at hl 2 rfl) ?_
            refine lv_aload_n hx hb dX6_reachFrom_63 rfl (lv_at hl 0 rfl) ?_
            refine fg6_1 hB hW tl126 wd2_63 dX6_reachFrom_64 ?_
            obtain ⟨x24, hg25, hf⟩ := b_o1 hf
            refine x_cf hB (x_rv hB hW hS (As := []) (rest := [.float x1, .int x7, .ref (G.2.2.1 k3), .ref (G.2.2.1 126)]) (ct_X2_demeritsOfLine l G hg25) (cl_RX6_135 hB.2.2.2.2.1 ⟨Nat.le_of_ble_eq_true rfl, Nat.le_of_ble_eq_true rfl⟩) tl127 (by decide) rfl rfl hl.1 rfl (Nat.le_of_ble_eq_true rfl) dX6_reachFrom_67 ⟨Nat.le_refl _, Nat.le_refl _⟩) hS (fun H locs hW hS => ?_)
            obtain ⟨x26, ex26⟩ : ∃ y : UInt32, y = FP.fadd x1 x24 := ⟨_, rfl⟩
            have hf := nm_o hf ex26
            obtain ⟨h27, hf⟩ := g_o hf
            refine y_fadd hB ex26 h27 dX6_reachFrom_70 ?_
            obtain ⟨M28, hg29, hf⟩ := b_o1 hf
            refine x_cv hB (x_rv hB hW hS (As := [.ref (G.2.2.1 k3), .int x7, .float x26]) (rest := []) (ct_X6_offer l G hk3 hg29) (cl_RX6_138 hB.2.2.2.2.1 ⟨Nat.le_of_ble_eq_true rfl, Nat.le_of_ble_eq_true rfl⟩) tl126 (by decide) rfl rfl hl.1 rfl (Nat.le_of_ble_eq_true rfl) dX6_reachFrom_71 ⟨Nat.le_refl _, Nat.le_refl _⟩) hS (fun H locs hW hS => ?_)
            exact main17 M28 _ _ ls hW hS (lv_sub hl [0, 1, 2, 3] rfl) hf
    exact loop10 FU x6 M4 _ _ ls hW hS (lv_sub hl [2, 5, 1, 0] rfl) hf
  · have hf := i_f hf c3
    exact e_v hB hW hS hr hlk (Option.some.inj hf) dX6_reachFrom_14
def f_X6_leastTotal (M : Mem) : Option UInt32 := (bq1 (f_X6_bestAt 133 (gi M 128 3) M) (fun (x1 : UInt32) => some x1))
set_option maxHeartbeats 4000000 in
set_option maxRecDepth 100000 in
theorem ct_X6_leastTotal (l : Launch) (G : GG)  {M : Mem} {r : UInt32}  (hf : f_X6_leastTotal M = some r) : Met l yX6_leastTotal (wsq yX6_leastTotal cX6_leastTotal 1 (some .float)) (rmq 1 21) (va_Pc [.ref (G.2.2.1 126)] (World G M)) (Qf G r M) 0 0 (adA G) := by
  refine x_start (plainFor_of_name (by decide)) (Nat.le_of_ble_eq_true rfl) ?_
  intro p e s m args below meth c hB hr hlk hW hS ls hl
  have hx := hB.x
  have hb := hB.b
  have hl : lv_has ls 1 [(0, .ref (G.2.2.1 126))] := hl
  unfold f_X6_leastTotal at hf
  refine lv_aload_n hx hb dX6_leastTotal_0 rfl (lv_at hl 0 rfl) ?_
  refine fg6_4 hB hW tl126 wd2_69 dX6_leastTotal_1 ?_
  refine lv_aload_n hx hb dX6_leastTotal_4 rfl (lv_at hl 0 rfl) ?_
  refine fg6_0 hB hW tl126 wd2_61 dX6_leastTotal_5 ?_
  refine fg0_3 hB hW tl128 wd1_225 dX6_leastTotal_8 ?_
  obtain ⟨x1, hg2, hf⟩ := b_o1 hf
  refine x_cf hB (x_rs hB hW hS (As := [.ref (G.2.2.1 133), .int (gi M 128 3)]) (rest := []) (ct_X6_bestAt l G tl133 hg2) (cl_RX6_74 hB.2.2.2.2.1 ⟨Nat.le_of_ble_eq_true rfl, Nat.le_of_ble_eq_true rfl⟩) rfl hl.1 rfl (Nat.le_of_ble_eq_true rfl) dX6_leastTotal_11 ⟨Nat.le_refl _, Nat.le_refl _⟩) hS (fun H locs hW hS => ?_)
  exact e_f hB hW hS hr hlk (Option.some.inj hf) rfl dX6_leastTotal_14
theorem cl_RX6_101 {R : Room} {s : State} {args : Array Value} (hN : Nst s) (ht : ∀ w ∈ lw_all, w.before args s = true) (hR : 0 + 1 ≤ R.frames ∧ 8 + (2 + 11) + 0 ≤ R.locals) : va_CN R s args RX6 101 yX8_at "LinesOfFragments" cX8_at 2 (some .int) (wsq yX8_at cX8_at 2 (some .int)) (rmq 0 0) 0 0 2 ∧ (Cond.static yX8_at).before args s = true ∧ True := ⟨va_cnB 2 ht (goodC wd2_135) rfl rfl rfl (hN _ (List.mem_of_getElem? (l := nestL) (i := 23) rfl)) (ht _ wd1_1) (by decide +kernel) hR, ht _ wd2_134, trivial⟩
def f_X6_traceBack_L59  (K12 : Int32 → Int32 → Mem → Option (Mem)) (x9 : Int32) (x10 : Int32) (M11 : Mem) : Option (Mem) := (if x10 < 0 then (some (M11)) else (bq1 (f_X8_at 136 x9 M11) (fun (x18 : Int32) => bq1 (f_X8_put 132 x10 x18 M11) (fun (M20 : Mem) => nmq (x10 + (-1 : Int32)) (fun (x22 : Int32) => (K12 x18 x22 M20))))))
def f_X6_traceBack_L8  (K4 : Int32 → Mem → Option (Mem)) (x2 : Int32) (M3 : Mem) : Option (Mem) := (if (192 : Int32) ≤ (gi M3 126 3) then (some (M3)) else (if x2 ≤ 0 then (some (M3)) else (bq1 (f_X8_at 136 x2 M3) (fun (x27 : Int32) => nmq (si M3 126 3 ((gi M3 126 3) + (1 : Int32))) (fun (M29 : Mem) => (K4 x27 M29))))))
def f_X6_traceBack (M : Mem) : Option Mem := (nmq ((gi M 128 3)) (fun (x1 : Int32) => (bq1 (lq2 f_X6_traceBack_L8 FU x1 M) (fun (M6 : Mem) => (nmq ((gi M6 128 3)) (fun (x7 : Int32) => nmq (((gi M6 126 3) - (1 : Int32))) (fun (x8 : Int32) => (bq1 (lq3 f_X6_traceBack_L59 FU x7 x8 M6) (fun (M14 : Mem) => some M14)))))))))
set_option maxHeartbeats 4000000 in
set_option maxRecDepth 100000 in
theorem ct_X6_traceBack (l : Launch) (G : GG)  {M : Mem} {Mr : Mem}  (hf : f_X6_traceBack M = some Mr) : Met l yX6_traceBack (wsq yX6_traceBack cX6_traceBack 3 none) (rmq 1 22) (va_Pc [.ref (G.2.2.1 126)] (World G M)) (Qv G Mr) 0 0 (adA G) := by
  refine x_start (plainFor_of_name (by decide)) (Nat.le_of_ble_eq_true rfl) ?_
  intro p e s m args below meth c hB hr hlk hW hS ls hl
  have hx := hB.x
  have hb := hB.b
  have hl : lv_has ls 3 [(0, .ref (G.2.2.1 126))] := hl
  unfold f_X6_traceBack at hf
  refine lv_aload_n hx hb dX6_traceBack_0 rfl (lv_at hl 0 rfl) ?_
  refine fg6_0 hB hW tl126 wd2_61 dX6_traceBack_1 ?_
  refine fg0_3 hB hW tl128 wd1_225 dX6_traceBack_4 ?_
  refine lv_topi (fun x1 ex1 => ?_)
  have hf := nm_o hf ex1
  refine lv_istore_n (lv' := [(1, .int x1), (0, .ref (G.2.2.1 126))]) hx hb dX6_traceBack_7 rfl hl (by decide) rfl (fun ls hl => ?_)
  obtain ⟨M23, hL, hf⟩ := b_o1 hf
  have main24 : ∀ (M6 : Mem) (H : Heap) (locs : List Loc) (ls : Array Slot), Wd G M6 H → va_S (adA G) s.heap H locs → lv_has ls 3 [(0, .ref (G.2.2.1 126))] → some (M6) = some (M23) → W p l e (rmq 1 22) s m args below meth c H locs 0 0 (MQ below (Qv G Mr) args s 0 0 (adA G)) (F0 m 44 ls []) := by
    intro M6 H locs ls hW hS hl hE
    cases hE
    refine lv_aload_n hx hb dX6_traceBack_44 rfl (lv_at hl 0 rfl) ?_
    refine fg6_0 hB hW tl126 wd2_61 dX6_traceBack_45 ?_
    refine fg0_3 hB hW tl128 wd1_225 dX6_traceBack_48 ?_
    refine lv_topi (fun x7 ex7 => ?_)
    have hf := nm_o hf ex7
    refine lv_istore_n (lv' := [(1, .int x7), (0, .ref (G.2.2.1 126))]) hx hb dX6_traceBack_51 rfl hl (by decide) rfl (fun ls hl => ?_)
    refine lv_aload_n hx hb dX6_traceBack_52 rfl (lv_at hl 1 rfl) ?_
    refine fg6_3 hB hW tl126 wd2_67 dX6_traceBack_53 ?_
    refine lv_iconst (v := (1 : Int32)) hx hb dX6_traceBack_56 (by decide) ?_
    refine lv_isub hx hb dX6_traceBack_57 ?_
    refine lv_topi (fun x8 ex8 => ?_)
    have hf := nm_o hf ex8
    refine lv_istore_n (lv' := [(2, .int x8), (1, .int x7), (0, .ref (G.2.2.1 126))]) hx hb dX6_traceBack_58 rfl hl (by decide) rfl (fun ls hl => ?_)
    obtain ⟨M15, hL, hf⟩ := b_o1 hf
    have main16 : ∀ (M14 : Mem) (H : Heap) (locs : List Loc) (ls : Array Slot), Wd G M14 H → va_S (adA G) s.heap H locs → lv_has ls 3 [] → some (M14) = some (M15) → W p l e (rmq 1 22) s m args below meth c H locs 0 0 (MQ below (Qv G Mr) args s 0 0 (adA G)) (F0 m 87 ls []) := by
      intro M14 H locs ls hW hS hl hE
      cases hE
      exact e_v hB hW hS hr hlk (Option.some.inj hf) dX6_traceBack_87
    have loop13 : ∀ (n : Nat) (x9 : Int32) (x10 : Int32) (M11 : Mem) (H : Heap) (locs : List Loc) (ls : Array Slot), Wd G M11 H → va_S (adA G) s.heap H locs → lv_has ls 3 [(0, .ref (G.2.2.1 126)), (1, .int x9), (2, .int x10)] → lq3 f_X6_traceBack_L59 n x9 x10 M11 = some (M15) → W p l e (rmq 1 22) s m args below meth c H locs 0 0 (MQ below (Qv G Mr) args s 0 0 (adA G)) (F0 m 59 ls []) := by
      intro n
      induction n with
      | zero => intro x9 x10 M11 H locs ls hW hS hl hf; exact (l_z3 hf).elim
      | succ n ih =>
        intro x9 x10 M11 H locs ls hW hS hl hf
        have hf := l_s3 hf
        generalize lq3 f_X6_traceBack_L59 n = K12 at ih hf
        unfold f_X6_traceBack_L59 at hf
        refine lv_iload_n hx hb dX6_traceBack_59 rfl (lv_at hl 2 rfl) ?_
        refine lv_if_lt (tgt := 87) hx hb dX6_traceBack_60 (by decide) (fun c17 => ?_) (fun c17 => ?_)
        · have hf := i_t hf c17
          exact main16 M11 _ _ ls hW hS (lv_sub hl [] rfl) hf
        · have hf := i_f hf c17
          refine lv_aload_n hx hb dX6_traceBack_63 rfl (lv_at hl 0 rfl) ?_
          refine fg6_7 hB hW tl126 wd2_72 dX6_traceBack_64 ?_
          refine lv_iload_n hx hb dX6_traceBack_67 rfl (lv_at hl 1 rfl) ?_
          obtain ⟨x18, hg19, hf⟩ := b_o1 hf
          refine x_ci hB (x_rn hB hW hS (As := [.ref (G.2.2.1 136), .int x9]) (rest := []) (ct_X8_at l G tl136 hg19) (cl_RX6_101 hB.nst hB.2.2.2.2.1 ⟨Nat.le_of_ble_eq_true rfl, Nat.le_of_ble_eq_true rfl⟩) rfl hl.1 rfl (Nat.le_of_ble_eq_true rfl) dX6_traceBack_68 ⟨Nat.le_refl _, Nat.le_refl _⟩) hS (fun H locs hW hS => ?_)
          refine lv_istore_n (lv' := [(1, .int x18), (0, .ref (G.2.2.1 126)), (2, .int x10)]) hx hb dX6_traceBack_71 rfl hl (by decide) rfl (fun ls hl => ?_)
          refine lv_aload_n hx hb dX6_traceBack_72 rfl (lv_at hl 1 rfl) ?_
          refine fg6_2 hB hW tl126 wd2_65 dX6_traceBack_73 ?_
          refine lv_iload_n hx hb dX6_traceBack_76 rfl (lv_at hl 2 rfl) ?_
          refine lv_iload_n hx hb dX6_traceBack_77 rfl (lv_at hl 0 rfl) ?_
          obtain ⟨M20, hg21, hf⟩ := b_o1 hf
          refine x_cv hB (x_rn hB hW hS (As := [.ref (G.2.2.1 132), .int x10, .int x18]) (rest := []) (ct_X8_put l G tl132 hg21) (cl_RX6_145 hB.nst hB.2.2.2.2.1 ⟨Nat.le_of_ble_eq_true rfl, Nat.le_of_ble_eq_true rfl⟩) rfl hl.1 rfl (Nat.le_of_ble_eq_true rfl) dX6_traceBack_78 ⟨Nat.le_refl _, Nat.le_refl _⟩) hS (fun H locs hW hS => ?_)
          obtain ⟨x22, ex22⟩ : ∃ y : Int32, y = x10 + (-1 : Int32) := ⟨_, rfl⟩
          have hf := nm_o hf ex22
          refine lv_iinc (v := x22) (lv' := [(2, .int x22), (1, .int x18), (0, .ref (G.2.2.1 126))]) hx hb dX6_traceBack_81 hl (k := 2) rfl (by rw [ex22]; rfl) (by decide) rfl (fun ls hl => ?_)
          refine lv_goto (tgt := 59) hx hb dX6_traceBack_84 (by decide) ?_
          exact ih x18 x22 M20 _ _ ls hW hS (lv_sub hl [2, 1, 0] rfl) hf
    exact loop13 FU x7 x8 M23 _ _ ls hW hS (lv_sub hl [2, 1, 0] rfl) hL
  have loop5 : ∀ (n : Nat) (x2 : Int32) (M3 : Mem) (H : Heap) (locs : List Loc) (ls : Array Slot), Wd G M3 H → va_S (adA G) s.heap H locs → lv_has ls 3 [(0, .ref (G.2.2.1 126)), (1, .int x2)] → lq2 f_X6_traceBack_L8 n x2 M3 = some (M23) → W p l e (rmq 1 22) s m args below meth c H locs 0 0 (MQ below (Qv G Mr) args s 0 0 (adA G)) (F0 m 8 ls []) := by
    intro n
    induction n with
    | zero => intro x2 M3 H locs ls hW hS hl hf; exact (l_z2 hf).elim
    | succ n ih =>
      intro x2 M3 H locs ls hW hS hl hf
      have hf := l_s2 hf
      generalize lq2 f_X6_traceBack_L8 n = K4 at ih hf
      unfold f_X6_traceBack_L8 at hf
      refine lv_aload_n hx hb dX6_traceBack_8 rfl (lv_at hl 0 rfl) ?_
      refine fg6_3 hB hW tl126 wd2_67 dX6_traceBack_9 ?_
      refine lv_sipush (v := (192 : Int32)) hx hb dX6_traceBack_12 (by decide) ?_
      refine lv_icmp_ge (tgt := 44) hx hb dX6_traceBack_15 (by decide) (fun c25 => ?_) (fun c25 => ?_)
      · have hf := i_t hf c25
        exact main24 M3 _ _ ls hW hS (lv_sub hl [0] rfl) hf
      · have hf := i_f hf c25
        refine lv_iload_n hx hb dX6_traceBack_18 rfl (lv_at hl 1 rfl) ?_
        refine lv_if_le (tgt := 44) hx hb dX6_traceBack_19 (by decide) (fun c26 => ?_) (fun c26 => ?_)
        · have hf := i_t hf c26
          exact main24 M3 _ _ ls hW hS (lv_sub hl [0] rfl) hf
        · have hf := i_f hf c26
          refine lv_aload_n hx hb dX6_traceBack_22 rfl (lv_at hl 0 rfl) ?_
          refine fg6_7 hB hW tl126 wd2_72 dX6_traceBack_23 ?_
          refine lv_iload_n hx hb dX6_traceBack_26 rfl (lv_at hl 1 rfl) ?_
          obtain ⟨x27, hg28, hf⟩ := b_o1 hf
          refine x_ci hB (x_rn hB hW hS (As := [.ref (G.2.2.1 136), .int x2]) (rest := []) (ct_X8_at l G tl136 hg28) (cl_RX6_101 hB.nst hB.2.2.2.2.1 ⟨Nat.le_of_ble_eq_true rfl, Nat.le_of_ble_eq_true rfl⟩) rfl hl.1 rfl (Nat.le_of_ble_eq_true rfl) dX6_traceBack_27 ⟨Nat.le_refl _, Nat.le_refl _⟩) hS (fun H locs hW hS => ?_)
          refine lv_istore_n (lv' := [(1, .int x27), (0, .ref (G.2.2.1 126))]) hx hb dX6_traceBack_30 rfl hl (by decide) rfl (fun ls hl => ?_)
          refine lv_aload_n hx hb dX6_traceBack_31 rfl (lv_at hl 1 rfl) ?_
          refine lv_dup hx hb dX6_traceBack_32 rfl ?_
          refine fg6_3 hB hW tl126 wd2_67 dX6_traceBack_33 ?_
          refine lv_iconst (v := (1 : Int32)) hx hb dX6_traceBack_36 (by decide) ?_
          refine lv_iadd hx hb dX6_traceBack_37 ?_
          refine fp6_3 hB hW hS tl126 wd2_67 dX6_traceBack_38 (fun H locs M29 eM29 hW hS => ?_)
          have hf := nm_o hf eM29
          refine lv_goto (tgt := 8) hx hb dX6_traceBack_41 (by decide) ?_
          exact ih x27 M29 _ _ ls hW hS (lv_sub hl [1, 0] rfl) hf
  exact loop5 FU x1 M _ _ ls hW hS (lv_sub hl [1, 0] rfl) hL
theorem cl_RX6_50 {R : Room} {s : State} {args : Array Value} (ht : ∀ w ∈ lw_all, w.before args s = true) (hR : 2 + 1 ≤ R.frames ∧ 8 + (2 + 11) + 41 ≤ R.locals) : CallW R s args RX6 RX2 50 yX2_measureBy cX2_measureBy 2 none (wsq yX2_measureBy cX2_measureBy 2 none) (rmq 2 41) 0 0 1 := cwV 1 ht (goodV wd4_30 wd4_31 wd4_32 wd1_8 wd4_33) rfl rfl rfl (by decide +kernel) hR
theorem cl_RX6_54 {R : Room} {s : State} {args : Array Value} (ht : ∀ w ∈ lw_all, w.before args s = true) (hR : 1 + 1 ≤ R.frames ∧ 8 + (1 + 11) + 23 ≤ R.locals) : CallB R s args RX6 54 yX6_beginBests cX6_beginBests 1 none (wsq yX6_beginBests cX6_beginBests 1 none) (rmq 1 23) 0 0 1 ∧ (Cond.static yX6_beginBests).before args s = true := va_cwS 1 ht (goodS wd4_52 wd4_53 wd1_7 wd4_54) rfl rfl rfl (by decide +kernel) hR
theorem cl_RX6_62 {R : Room} {s : State} {args : Array Value} (ht : ∀ w ∈ lw_all, w.before args s = true) (hR : 2 + 1 ≤ R.frames ∧ 8 + (6 + 11) + 46 ≤ R.locals) : CallW R s args RX6 RX6 62 yX6_reachFrom cX6_reachFrom 6 none (wsq yX6_reachFrom cX6_reachFrom 6 none) (rmq 2 46) 0 0 3 := cwV 3 ht (goodV wd4_59 wd4_61 wsel_23 wd1_7 wd4_62) rfl rfl rfl (by decide +kernel) hR
theorem cl_RX6_67 {R : Room} {s : State} {args : Array Value} (ht : ∀ w ∈ lw_all, w.before args s = true) (hR : 1 + 1 ≤ R.frames ∧ 8 + (1 + 11) + 21 ≤ R.locals) : CallW R s args RX6 RX6 67 yX6_leastTotal cX6_leastTotal 1 (some .float) (wsq yX6_leastTotal cX6_leastTotal 1 (some .float)) (rmq 1 21) 0 0 0 := cwV 0 ht (goodV wd4_114 wd4_115 wd4_116 wd1_7 wd4_117) rfl rfl rfl (by decide +kernel) hR
theorem cl_RX6_71 {R : Room} {s : State} {args : Array Value} (ht : ∀ w ∈ lw_all, w.before args s = true) (hR : 1 + 1 ≤ R.frames ∧ 8 + (3 + 11) + 22 ≤ R.locals) : CallW R s args RX6 RX6 71 yX6_traceBack cX6_traceBack 3 none (wsq yX6_traceBack cX6_traceBack 3 none) (rmq 1 22) 0 0 0 := cwV 0 ht (goodV wd4_118 wd4_120 wsel_27 wd1_7 wd4_121) rfl rfl rfl (by decide +kernel) hR
def f_X6_solve_L17  (K7 : Int32 → Mem → Option (Mem)) (x5 : Int32) (M6 : Mem) : Option (Mem) := (if (gi M6 128 3) ≤ x5 then (some (M6)) else (bq1 (f_X6_reachFrom x5 133 133 M6) (fun (M19 : Mem) => nmq (x5 + (1 : Int32)) (fun (x21 : Int32) => (K7 x21 M19)))))
def f_X6_solve (k1 : Nat) (M : Mem) : Option (Int32 × Mem) := (bq1 (f_X2_measureBy k1 M) (fun (M1 : Mem) => bq1 (f_X6_beginBests 133 M1) (fun (M3 : Mem) => (bq1 (lq2 f_X6_solve_L17 FU (0 : Int32) M3) (fun (M9 : Mem) => (nmq (si M9 126 3 (0 : Int32)) (fun (M10 : Mem) => bq1 (f_X6_leastTotal M10) (fun (x11 : UInt32) => (if 0 ≤ (fcg x11 FP.fconst0) then (bq1 (f_X6_traceBack M10) (fun (M14 : Mem) => some ((gi M14 126 3), M14))) else some ((-9 : Int32), M10))))))))))
set_option maxHeartbeats 4000000 in
set_option maxRecDepth 100000 in
theorem ct_X6_solve (l : Launch) (G : GG) {k1 : Nat} {M : Mem} {r : Int32} {Mr : Mem} (hk1 : isT 3 k1) (hf : f_X6_solve k1 M = some (r, Mr)) : Met l yX6_solve (wsq yX6_solve cX6_solve 3 (some .int)) (rmq 3 71) (va_Pc [.ref (G.2.2.1 126), .ref (G.2.2.1 k1)] (World G M)) (Qi G r Mr) 0 0 (adA G) := by
  refine x_start (plainFor_of_name (by decide)) (Nat.le_of_ble_eq_true rfl) ?_
  intro p e s m args below meth c hB hr hlk hW hS ls hl
  have hx := hB.x
  have hb := hB.b
  have hl : lv_has ls 3 [(0, .ref (G.2.2.1 126)), (1, .ref (G.2.2.1 k1))] := hl
  unfold f_X6_solve at hf
  refine lv_aload_n hx hb dX6_solve_0 rfl (lv_at hl 0 rfl) ?_
  refine fg6_1 hB hW tl126 wd2_63 dX6_solve_1 ?_
  refine lv_aload_n hx hb dX6_solve_4 rfl (lv_at hl 1 rfl) ?_
  obtain ⟨M1, hg2, hf⟩ := b_o1 hf
  refine x_cv hB (x_rv hB hW hS (As := [.ref (G.2.2.1 k1)]) (rest := []) (ct_X2_measureBy l G hk1 hg2) (cl_RX6_50 hB.2.2.2.2.1 ⟨Nat.le_of_ble_eq_true rfl, Nat.le_of_ble_eq_true rfl⟩) tl127 (by decide) rfl rfl hl.1 rfl (Nat.le_of_ble_eq_true rfl) dX6_solve_5 ⟨Nat.le_refl _, Nat.le_refl _⟩) hS (fun H locs hW hS => ?_)
  refine lv_aload_n hx hb dX6_solve_8 rfl (lv_at hl 0 rfl) ?_
  refine fg6_4 hB hW tl126 wd2_69 dX6_solve_9 ?_
  obtain ⟨M3, hg4, hf⟩ := b_o1 hf
  refine x_cv hB (x_rs hB hW hS (As := [.ref (G.2.2.1 133)]) (rest := []) (ct_X6_beginBests l G tl133 hg4) (cl_RX6_54 hB.2.2.2.2.1 ⟨Nat.le_of_ble_eq_true rfl, Nat.le_of_ble_eq_true rfl⟩) rfl hl.1 rfl (Nat.le_of_ble_eq_true rfl) dX6_solve_12 ⟨Nat.le_refl _, Nat.le_refl _⟩) hS (fun H locs hW hS => ?_)
  refine lv_iconst (v := (0 : Int32)) hx hb dX6_solve_15 (by decide) ?_
  refine lv_istore_n (lv' := [(2, .int (0 : Int32)), (0, .ref (G.2.2.1 126)), (1, .ref (G.2.2.1 k1))]) hx hb dX6_solve_16 rfl hl (by decide) rfl (fun ls hl => ?_)
  obtain ⟨M16, hL, hf⟩ := b_o1 hf
  have main17 : ∀ (M9 : Mem) (H : Heap) (locs : List Loc) (ls : Array Slot), Wd G M9 H → va_S (adA G) s.heap H locs → lv_has ls 3 [(0, .ref (G.2.2.1 126))] → some (M9) = some (M16) → W p l e (rmq 3 71) s m args below meth c H locs 0 0 (MQ below (Qi G r Mr) args s 0 0 (adA G)) (F0 m 47 ls []) := by
    intro M9 H locs ls hW hS hl hE
    cases hE
    refine lv_aload_n hx hb dX6_solve_47 rfl (lv_at hl 0 rfl) ?_
    refine lv_iconst (v := (0 : Int32)) hx hb dX6_solve_48 (by decide) ?_
    refine fp6_3 hB hW hS tl126 wd2_67 dX6_solve_49 (fun H locs M10 eM10 hW hS => ?_)
    have hf := nm_o hf eM10
    refine lv_aload_n hx hb dX6_solve_52 rfl (lv_at hl 0 rfl) ?_
    obtain ⟨x11, hg12, hf⟩ := b_o1 hf
    refine x_cf hB (x_rv hB hW hS (As := []) (rest := []) (ct_X6_leastTotal l G hg12) (cl_RX6_67 hB.2.2.2.2.1 ⟨Nat.le_of_ble_eq_true rfl, Nat.le_of_ble_eq_true rfl⟩) tl126 (by decide) rfl rfl hl.1 rfl (Nat.le_of_ble_eq_true rfl) dX6_solve_53 ⟨Nat.le_refl _, Nat.le_refl _⟩) hS (fun H locs hW hS => ?_)
    refine lv_fconst0 hx hb dX6_solve_56 ?_
    refine lv_fcmp hx hb dX6_solve_57 ?_
    refine lv_if_ge (tgt := 64) hx hb dX6_solve_58 (by decide) (fun c13 => ?_) (fun c13 => ?_)
    · have hf := i_t hf c13
      refine lv_aload_n hx hb dX6_solve_64 rfl (lv_at hl 0 rfl) ?_
      obtain ⟨M14, hg15, hf⟩ := b_o1 hf
      refine x_cv hB (x_rv hB hW hS (As := []) (rest := []) (ct_X6_traceBack l G hg15) (cl_RX6_71 hB.2.2.2.2.1 ⟨Nat.le_of_ble_eq_true rfl, Nat.le_of_ble_eq_true rfl⟩) tl126 (by decide) rfl rfl hl.1 rfl (Nat.le_of_ble_eq_true rfl) dX6_solve_65 ⟨Nat.le_refl _, Nat.le_refl _⟩) hS (fun H locs hW hS => ?_)
      refine lv_aload_n hx hb dX6_solve_68 rfl (lv_at hl 0 rfl) ?_
      refine fg6_3 hB hW tl126 wd2_67 dX6_solve_69 ?_
      exact e_i hB hW hS hr hlk (s_1 hf) (s_2 hf) dX6_solve_72
    · have hf := i_f hf c13
      refine lv_bipush (v := (-9 : Int32)) hx hb dX6_solve_61 (by decide) ?_
      exact e_i hB hW hS hr hlk (s_1 hf) (s_2 hf) dX6_solve_63
  have loop8 : ∀ (n : Nat) (x5 : Int32) (M6 : Mem) (H : Heap) (locs : List Loc) (ls : Array Slot), Wd G M6 H → va_S (adA G) s.heap H locs → lv_has ls 3 [(0, .ref (G.2.2.1 126)), (2, .int x5)] → lq2 f_X6_solve_L17 n x5 M6 = some (M16) → W p l e (rmq 3 71) s m args below meth c H locs 0 0 (MQ below (Qi G r Mr) args s 0 0 (adA G)) (F0 m 17 ls []) := by
    intro n
    induction n with
    | zero => intro x5 M6 H locs ls hW hS hl hf; exact (l_z2 hf).elim
    | succ n ih =>
      intro x5 M6 H locs ls hW hS hl hf
      have hf := l_s2 hf
      generalize lq2 f_X6_solve_L17 n = K7 at ih hf
      unfold f_X6_solve_L17 at hf
      refine lv_iload_n hx hb dX6_solve_17 rfl (lv_at hl 1 rfl) ?_
      refine lv_aload_n hx hb dX6_solve_18 rfl (lv_at hl 0 rfl) ?_
      refine fg6_0 hB hW tl126 wd2_61 dX6_solve_19 ?_
      refine fg0_3 hB hW tl128 wd1_225 dX6_solve_22 ?_
      refine lv_icmp_ge (tgt := 47) hx hb dX6_solve_25 (by decide) (fun c18 => ?_) (fun c18 => ?_)
      · have hf := i_t hf c18
        exact main17 M6 _ _ ls hW hS (lv_sub hl [0] rfl) hf
      · have hf := i_f hf c18
        refine lv_aload_n hx hb dX6_solve_28 rfl (lv_at hl 0 rfl) ?_
        refine lv_iload_n hx hb dX6_solve_29 rfl (lv_at hl 1 rfl) ?_
        refine lv_aload_n hx hb dX6_solve_30 rfl (lv_at hl 0 rfl) ?_
        refine fg6_4 hB hW tl126 wd2_69 dX6_solve_31 ?_
        refine lv_aload_n hx hb dX6_solve_34 rfl (lv_at hl 0 rfl) ?_
        refine fg6_4 hB hW tl126 wd2_69 dX6_solve_35 ?_
        obtain ⟨M19, hg20, hf⟩ := b_o1 hf
        refine x_cv hB (x_rv hB hW hS (As := [.int x5, .ref (G.2.2.1 133), .ref (G.2.2.1 133)]) (rest := []) (ct_X6_reachFrom l G tl133 tl133 hg20) (cl_RX6_62 hB.2.2.2.2.1 ⟨Nat.le_of_ble_eq_true rfl, Nat.le_of_ble_eq_true rfl⟩) tl126 (by decide) rfl rfl hl.1 rfl (Nat.le_of_ble_eq_true rfl) dX6_solve_38 ⟨Nat.le_refl _, Nat.le_refl _⟩) hS (fun H locs hW hS => ?_)
        obtain ⟨x21, ex21⟩ : ∃ y : Int32, y = x5 + (1 : Int32) := ⟨_, rfl⟩
        have hf := nm_o hf ex21
        refine lv_iinc (v := x21) (lv' := [(2, .int x21), (0, .ref (G.2.2.1 126))]) hx hb dX6_solve_41 hl (k := 1) rfl (by rw [ex21]; rfl) (by decide) rfl (fun ls hl => ?_)
        refine lv_goto (tgt := 17) hx hb dX6_solve_44 (by decide) ?_
        exact ih x21 M19 _ _ ls hW hS (lv_sub hl [1, 0] rfl) hf
  exact loop8 FU (0 : Int32) M3 _ _ ls hW hS (lv_sub hl [1, 0] rfl) hL
theorem cl_RX6_40 {R : Room} {s : State} {args : Array Value} (ht : ∀ w ∈ lw_all, w.before args s = true) (hR : 4 + 1 ≤ R.frames ∧ 8 + (6 + 11) + 105 ≤ R.locals) : CallW R s args RX6 RX0 40 yX0_cut cX0_cut 6 none (wsq yX0_cut cX0_cut 6 none) (rmq 4 105) 0 0 2 := cwV 2 ht (goodV wd4_1 wd4_2 wd4_3 wd1_9 wd4_4) rfl rfl rfl (by decide +kernel) hR
theorem cl_RX6_46 {R : Room} {s : State} {args : Array Value} (ht : ∀ w ∈ lw_all, w.before args s = true) (hR : 3 + 1 ≤ R.frames ∧ 8 + (3 + 11) + 71 ≤ R.locals) : CallW R s args RX6 RX6 46 yX6_solve cX6_solve 3 (some .int) (wsq yX6_solve cX6_solve 3 (some .int)) (rmq 3 71) 0 0 1 := cwV 1 ht (goodV wd4_26 wd4_27 wd4_28 wd1_7 wd4_29) rfl rfl rfl (by decide +kernel) hR
def f_X6_set (k1 : Nat) (p2 : Int32) (M : Mem) : Option (Int32 × Mem) := (bq1 (f_X0_cut k1 p2 M) (fun (M1 : Mem) => bq2 (f_X6_solve k1 M1) (fun (x3 : Int32) (M4 : Mem) => some (x3, M4))))
set_option maxHeartbeats 4000000 in
set_option maxRecDepth 100000 in
theorem ct_X6_set (l : Launch) (G : GG) {k1 : Nat} {p2 : Int32} {M : Mem} {r : Int32} {Mr : Mem} (hk1 : isT 3 k1) (hf : f_X6_set k1 p2 M = some (r, Mr)) : Met l yX6_set (wsq yX6_set cX6_set 3 (some .int)) (rmq 5 130) (va_Pc [.ref (G.2.2.1 126), .ref (G.2.2.1 k1), .int p2] (World G M)) (Qi G r Mr) 0 0 (adA G) := by
  refine x_start (plainFor_of_name (by decide)) (Nat.le_of_ble_eq_true rfl) ?_
  intro p e s m args below meth c hB hr hlk hW hS ls hl
  have hx := hB.x
  have hb := hB.b
  have hl : lv_has ls 3 [(0, .ref (G.2.2.1 126)), (1, .ref (G.2.2.1 k1)), (2, .int p2)] := hl
  unfold f_X6_set at hf
  refine lv_aload_n hx hb dX6_set_0 rfl (lv_at hl 0 rfl) ?_
  refine fg6_0 hB hW tl126 wd2_61 dX6_set_1 ?_
  refine lv_aload_n hx hb dX6_set_4 rfl (lv_at hl 1 rfl) ?_
  refine lv_iload_n hx hb dX6_set_5 rfl (lv_at hl 2 rfl) ?_
  obtain ⟨M1, hg2, hf⟩ := b_o1 hf
  refine x_cv hB (x_rv hB hW hS (As := [.ref (G.2.2.1 k1), .int p2]) (rest := []) (ct_X0_cut l G hk1 hg2) (cl_RX6_40 hB.2.2.2.2.1 ⟨Nat.le_of_ble_eq_true rfl, Nat.le_of_ble_eq_true rfl⟩) tl128 (by decide) rfl rfl hl.1 rfl (Nat.le_of_ble_eq_true rfl) dX6_set_6 ⟨Nat.le_refl _, Nat.le_refl _⟩) hS (fun H locs hW hS => ?_)
  refine lv_aload_n hx hb dX6_set_9 rfl (lv_at hl 0 rfl) ?_
  refine lv_aload_n hx hb dX6_set_10 rfl (lv_at hl 1 rfl) ?_
  obtain ⟨x3, M4, hg5, hf⟩ := b_o2 hf
  refine x_ci hB (x_rv hB hW hS (As := [.ref (G.2.2.1 k1)]) (rest := []) (ct_X6_solve l G hk1 hg5) (cl_RX6_46 hB.2.2.2.2.1 ⟨Nat.le_of_ble_eq_true rfl, Nat.le_of_ble_eq_true rfl⟩) tl126 (by decide) rfl rfl hl.1 rfl (Nat.le_of_ble_eq_true rfl) dX6_set_11 ⟨Nat.le_refl _, Nat.le_refl _⟩) hS (fun H locs hW hS => ?_)
  exact e_i hB hW hS hr hlk (s_1 hf) (s_2 hf) dX6_set_14
def f_X6_show_L54 (x1 : Int32) (K10 : Int32 → Mem → Option (Mem)) (x8 : Int32) (M9 : Mem) : Option (Mem) := (if x1 ≤ x8 then (some (M9)) else (bq1 (f_X2_grow M9) (fun (M16 : Mem) => nmq (x8 + (1 : Int32)) (fun (x18 : Int32) => (K10 x18 M16)))))
def f_X6_show (p1 : Int32) (M : Mem) : Option Mem := (bq1 ((if (gi M 126 3) ≤ (p1 + (1 : Int32)) then (some ((gi M 128 3))) else (bq1 (f_X8_at 132 (p1 + (1 : Int32)) M) (fun (x21 : Int32) => (some (x21))))) : Option (Int32)) (fun (x1 : Int32) => (bq1 (f_X8_at 132 p1 M) (fun (x3 : Int32) => bq1 (f_X2_beginAt x3 M) (fun (M5 : Mem) => nmq ((gi M5 127 1)) (fun (x7 : Int32) => (bq1 (lq2 (f_X6_show_L54 x1) FU x7 M5) (fun (M12 : Mem) => some M12))))))))
set_option maxHeartbeats 4000000 in
set_option maxRecDepth 100000 in
theorem ct_X6_show (l : Launch) (G : GG) {p1 : Int32} {M : Mem} {Mr : Mem}  (hf : f_X6_show p1 M = some Mr) : Met l yX6_show (wsq yX6_show cX6_show 4 none) (rmq 2 42) (va_Pc [.ref (G.2.2.1 126), .int p1] (World G M)) (Qv G Mr) 0 0 (adA G) := by
  refine x_start (plainFor_of_name (by decide)) (Nat.le_of_ble_eq_true rfl) ?_
  intro p e s m args below meth c hB hr hlk hW hS ls hl
  have hx := hB.x
  have hb := hB.b
  have hl : lv_has ls 4 [(0, .ref (G.2.2.1 126)), (1, .int p1)] := hl
  unfold f_X6_show at hf
  refine lv_iload_n hx hb dX6_show_0 rfl (lv_at hl 1 rfl) ?_
  refine lv_iconst (v := (1 : Int32)) hx hb dX6_show_1 (by decide) ?_
  refine lv_iadd hx hb dX6_show_2 ?_
  refine lv_aload_n hx hb dX6_show_3 rfl (lv_at hl 0 rfl) ?_
  refine fg6_3 hB hW tl126 wd2_67 dX6_show_4 ?_
  obtain ⟨y19, hR, hf⟩ := b_o1 hf
  have main2 : ∀ (x1 : Int32) (H : Heap) (locs : List Loc) (ls : Array Slot), Wd G M H → va_S (adA G) s.heap H locs → lv_has ls 4 [(0, .ref (G.2.2.1 126)), (1, .int p1)] → some (x1) = some (y19) → W p l e (rmq 2 42) s m args below meth c H locs 0 0 (MQ below (Qv G Mr) args s 0 0 (adA G)) (F0 m 30 ls [.int x1]) := by
    intro x1 H locs ls hW hS hl hE
    cases hE
    refine lv_istore_n (lv' := [(2, .int y19), (0, .ref (G.2.2.1 126)), (1, .int p1)]) hx hb dX6_show_30 rfl hl (by decide) rfl (fun ls hl => ?_)
    refine lv_aload_n hx hb dX6_show_31 rfl (lv_at hl 1 rfl) ?_
    refine fg6_1 hB hW tl126 wd2_63 dX6_show_32 ?_
    refine lv_aload_n hx hb dX6_show_35 rfl (lv_at hl 1 rfl) ?_
    refine fg6_2 hB hW tl126 wd2_65 dX6_show_36 ?_
    refine lv_iload_n hx hb dX6_show_39 rfl (lv_at hl 2 rfl) ?_
    obtain ⟨x3, hg4, hf⟩ := b_o1 hf
    refine x_ci hB (x_rn hB hW hS (As := [.ref (G.2.2.1 132), .int p1]) (rest := [.ref (G.2.2.1 127)]) (ct_X8_at l G tl132 hg4) (cl_RX6_101 hB.nst hB.2.2.2.2.1 ⟨Nat.le_of_ble_eq_true rfl, Nat.le_of_ble_eq_true rfl⟩) rfl hl.1 rfl (Nat.le_of_ble_eq_true rfl) dX6_show_40 ⟨Nat.le_refl _, Nat.le_refl _⟩) hS (fun H locs hW hS => ?_)
    obtain ⟨M5, hg6, hf⟩ := b_o1 hf
    refine x_cv hB (x_rv hB hW hS (As := [.int x3]) (rest := []) (ct_X2_beginAt l G hg6) (cl_RX6_105 hB.2.2.2.2.1 ⟨Nat.le_of_ble_eq_true rfl, Nat.le_of_ble_eq_true rfl⟩) tl127 (by decide) rfl rfl hl.1 rfl (Nat.le_of_ble_eq_true rfl) dX6_show_43 ⟨Nat.le_refl _, Nat.le_refl _⟩) hS (fun H locs hW hS => ?_)
    refine lv_aload_n hx hb dX6_show_46 rfl (lv_at hl 1 rfl) ?_
    refine fg6_1 hB hW tl126 wd2_63 dX6_show_47 ?_
    refine fg2_1 hB hW tl127 wd1_239 dX6_show_50 ?_
    refine lv_topi (fun x7 ex7 => ?_)
    have hf := nm_o hf ex7
    refine lv_istore_n (lv' := [(3, .int x7), (2, .int y19), (0, .ref (G.2.2.1 126)), (1, .int p1)]) hx hb dX6_show_53 rfl hl (by decide) rfl (fun ls hl => ?_)
    obtain ⟨M13, hL, hf⟩ := b_o1 hf
    have main14 : ∀ (M12 : Mem) (H : Heap) (locs : List Loc) (ls : Array Slot), Wd G M12 H → va_S (adA G) s.heap H locs → lv_has ls 4 [] → some (M12) = some (M13) → W p l e (rmq 2 42) s m args below meth c H locs 0 0 (MQ below (Qv G Mr) args s 0 0 (adA G)) (F0 m 72 ls []) := by
      intro M12 H locs ls hW hS hl hE
      cases hE
      exact e_v hB hW hS hr hlk (Option.some.inj hf) dX6_show_72
    have loop11 : ∀ (n : Nat) (x8 : Int32) (M9 : Mem) (H : Heap) (locs : List Loc) (ls : Array Slot), Wd G M9 H → va_S (adA G) s.heap H locs → lv_has ls 4 [(0, .ref (G.2.2.1 126)), (2, .int y19), (3, .int x8)] → lq2 (f_X6_show_L54 y19) n x8 M9 = some (M13) → W p l e (rmq 2 42) s m args below meth c H locs 0 0 (MQ below (Qv G Mr) args s 0 0 (adA G)) (F0 m 54 ls []) := by
      intro n
      induction n with
      | zero => intro x8 M9 H locs ls hW hS hl hf; exact (l_z2 hf).elim
      | succ n ih =>
        intro x8 M9 H locs ls hW hS hl hf
        have hf := l_s2 hf
        generalize lq2 (f_X6_show_L54 y19) n = K10 at ih hf
        unfold f_X6_show_L54 at hf
        refine lv_iload_n hx hb dX6_show_54 rfl (lv_at hl 2 rfl) ?_
        refine lv_iload_n hx hb dX6_show_55 rfl (lv_at hl 1 rfl) ?_
        refine lv_icmp_ge (tgt := 72) hx hb dX6_show_56 (by decide) (fun c15 => ?_) (fun c15 => ?_)
        · have hf := i_t hf c15
          exact main14 M9 _ _ ls hW hS (lv_sub hl [] rfl) hf
        · have hf := i_f hf c15
          refine lv_aload_n hx hb dX6_show_59 rfl (lv_at hl 0 rfl) ?_
          refine fg6_1 hB hW tl126 wd2_63 dX6_show_60 ?_
          obtain ⟨M16, hg17, hf⟩ := b_o1 hf
          refine x_cv hB (x_rv hB hW hS (As := []) (rest := []) (ct_X2_grow l G hg17) (cl_RX6_112 hB.2.2.2.2.1 ⟨Nat.le_of_ble_eq_true rfl, Nat.le_of_ble_eq_true rfl⟩) tl127 (by decide) rfl rfl hl.1 rfl (Nat.le_of_ble_eq_true rfl) dX6_show_63 ⟨Nat.le_refl _, Nat.le_refl _⟩) hS (fun H locs hW hS => ?_)
          obtain ⟨x18, ex18⟩ : ∃ y : Int32, y = x8 + (1 : Int32) := ⟨_, rfl⟩
          have hf := nm_o hf ex18
          refine lv_iinc (v := x18) (lv' := [(3, .int x18), (0, .ref (G.2.2.1 126)), (2, .int y19)]) hx hb dX6_show_66 hl (k := 2) rfl (by rw [ex18]; rfl) (by decide) rfl (fun ls hl => ?_)
          refine lv_goto (tgt := 54) hx hb dX6_show_69 (by decide) ?_
          exact ih x18 M16 _ _ ls hW hS (lv_sub hl [1, 2, 0] rfl) hf
    exact loop11 FU x7 M5 _ _ ls hW hS (lv_sub hl [2, 1, 0] rfl) hL
  have hf := hR
  refine lv_icmp_ge (tgt := 23) hx hb dX6_show_7 (by decide) (fun c20 => ?_) (fun c20 => ?_)
  · have hf := i_t hf c20
    refine lv_aload_n hx hb dX6_show_23 rfl (lv_at hl 0 rfl) ?_
    refine fg6_0 hB hW tl126 wd2_61 dX6_show_24 ?_
    refine fg0_3 hB hW tl128 wd1_225 dX6_show_27 ?_
    exact main2 (gi M 128 3) _ _ ls hW hS (lv_sub hl [0, 1] rfl) hf
  · have hf := i_f hf c20
    refine lv_aload_n hx hb dX6_show_10 rfl (lv_at hl 0 rfl) ?_
    refine fg6_2 hB hW tl126 wd2_65 dX6_show_11 ?_
    refine lv_iload_n hx hb dX6_show_14 rfl (lv_at hl 1 rfl) ?_
    refine lv_iconst (v := (1 : Int32)) hx hb dX6_show_15 (by decide) ?_
    refine lv_iadd hx hb dX6_show_16 ?_
    obtain ⟨x21, hg22, hf⟩ := b_o1 hf
    refine x_ci hB (x_rn hB hW hS (As := [.ref (G.2.2.1 132), .int (p1 + (1 : Int32))]) (rest := []) (ct_X8_at l G tl132 hg22) (cl_RX6_101 hB.nst hB.2.2.2.2.1 ⟨Nat.le_of_ble_eq_true rfl, Nat.le_of_ble_eq_true rfl⟩) rfl hl.1 rfl (Nat.le_of_ble_eq_true rfl) dX6_show_17 ⟨Nat.le_refl _, Nat.le_refl _⟩) hS (fun H locs hW hS => ?_)
    refine lv_goto (tgt := 30) hx hb dX6_show_20 (by decide) ?_
    exact main2 x21 _ _ ls hW hS (lv_sub hl [0, 1] rfl) hf
theorem cl_RX6_115 {R : Room} {s : State} {args : Array Value} (ht : ∀ w ∈ lw_all, w.before args s = true) (hR : 2 + 1 ≤ R.frames ∧ 8 + (4 + 11) + 42 ≤ R.locals) : CallW R s args RX6 RX6 115 yX6_show cX6_show 4 none (wsq yX6_show cX6_show 4 none) (rmq 2 42) 0 0 1 := cwV 1 ht (goodV wd4_127 wd4_128 wd4_129 wd1_7 wd4_130) rfl rfl rfl (by decide +kernel) hR
def f_X6_hyphenedLines_L4  (K4 : Int32 → Int32 → Mem → Option (Int32 × Mem)) (x1 : Int32) (x2 : Int32) (M3 : Mem) : Option (Int32 × Mem) := (if (gi M3 126 3) ≤ x2 then (some (x1, M3)) else (bq1 (f_X6_show x2 M3) (fun (M12 : Mem) => (if (gi M12 127 5) = (1 : Int32) then (nmq (x1 + (1 : Int32)) (fun (x16 : Int32) => (nmq (x2 + (1 : Int32)) (fun (x17 : Int32) => (K4 x16 x17 M12))))) else (nmq (x2 + (1 : Int32)) (fun (x15 : Int32) => (K4 x1 x15 M12)))))))
def f_X6_hyphenedLines (M : Mem) : Option (Int32 × Mem) := (bq2 (lq3 f_X6_hyphenedLines_L4 FU (0 : Int32) (0 : Int32) M) (fun (x6 : Int32) (M7 : Mem) => some (x6, M7)))
set_option maxHeartbeats 4000000 in
set_option maxRecDepth 100000 in
theorem ct_X6_hyphenedLines (l : Launch) (G : GG)  {M : Mem} {r : Int32} {Mr : Mem}  (hf : f_X6_hyphenedLines M = some (r, Mr)) : Met l yX6_hyphenedLines (wsq yX6_hyphenedLines cX6_hyphenedLines 3 (some .int)) (rmq 3 65) (va_Pc [.ref (G.2.2.1 126)] (World G M)) (Qi G r Mr) 0 0 (adA G) := by
  refine x_start (plainFor_of_name (by decide)) (Nat.le_of_ble_eq_true rfl) ?_
  intro p e s m args below meth c hB hr hlk hW hS ls hl
  have hx := hB.x
  have hb := hB.b
  have hl : lv_has ls 3 [(0, .ref (G.2.2.1 126))] := hl
  unfold f_X6_hyphenedLines at hf
  refine lv_iconst (v := (0 : Int32)) hx hb dX6_hyphenedLines_0 (by decide) ?_
  refine lv_istore_n (lv' := [(1, .int (0 : Int32)), (0, .ref (G.2.2.1 126))]) hx hb dX6_hyphenedLines_1 rfl hl (by decide) rfl (fun ls hl => ?_)
  refine lv_iconst (v := (0 : Int32)) hx hb dX6_hyphenedLines_2 (by decide) ?_
  refine lv_istore_n (lv' := [(2, .int (0 : Int32)), (1, .int (0 : Int32)), (0, .ref (G.2.2.1 126))]) hx hb dX6_hyphenedLines_3 rfl hl (by decide) rfl (fun ls hl => ?_)
  obtain ⟨y8, M9, hL, hf⟩ := b_o2 hf
  have main10 : ∀ (x6 : Int32) (M7 : Mem) (H : Heap) (locs : List Loc) (ls : Array Slot), Wd G M7 H → va_S (adA G) s.heap H locs → lv_has ls 3 [(1, .int x6)] → some (x6, M7) = some (y8, M9) → W p l e (rmq 3 65) s m args below meth c H locs 0 0 (MQ below (Qi G r Mr) args s 0 0 (adA G)) (F0 m 37 ls []) := by
    intro x6 M7 H locs ls hW hS hl hE
    cases hE
    refine lv_iload_n hx hb dX6_hyphenedLines_37 rfl (lv_at hl 0 rfl) ?_
    exact e_i hB hW hS hr hlk (s_1 hf) (s_2 hf) dX6_hyphenedLines_38
  have loop5 : ∀ (n : Nat) (x1 : Int32) (x2 : Int32) (M3 : Mem) (H : Heap) (locs : List Loc) (ls : Array Slot), Wd G M3 H → va_S (adA G) s.heap H locs → lv_has ls 3 [(0, .ref (G.2.2.1 126)), (1, .int x1), (2, .int x2)] → lq3 f_X6_hyphenedLines_L4 n x1 x2 M3 = some (y8, M9) → W p l e (rmq 3 65) s m args below meth c H locs 0 0 (MQ below (Qi G r Mr) args s 0 0 (adA G)) (F0 m 4 ls []) := by
    intro n
    induction n with
    | zero => intro x1 x2 M3 H locs ls hW hS hl hf; exact (l_z3 hf).elim
    | succ n ih =>
      intro x1 x2 M3 H locs ls hW hS hl hf
      have hf := l_s3 hf
      generalize lq3 f_X6_hyphenedLines_L4 n = K4 at ih hf
      unfold f_X6_hyphenedLines_L4 at hf
      refine lv_iload_n hx hb dX6_hyphenedLines_4 rfl (lv_at hl 2 rfl) ?_
      refine lv_aload_n hx hb dX6_hyphenedLines_5 rfl (lv_at hl 0 rfl) ?_
      refine fg6_3 hB hW tl126 wd2_67 dX6_hyphenedLines_6 ?_
      refine lv_icmp_ge (tgt := 37) hx hb dX6_hyphenedLines_9 (by decide) (fun c11 => ?_) (fun c11 => ?_)
      · have hf := i_t hf c11
        exact main10 x1 M3 _ _ ls hW hS (lv_sub hl [1] rfl) hf
      · have hf := i_f hf c11
        refine lv_aload_n hx hb dX6_hyphenedLines_12 rfl (lv_at hl 0 rfl) ?_
        refine lv_iload_n hx hb dX6_hyphenedLines_13 rfl (lv_at hl 2 rfl) ?_
        obtain ⟨M12, hg13, hf⟩ := b_o1 hf
        refine x_cv hB (x_rv hB hW hS (As := [.int x2]) (rest := []) (ct_X6_show l G hg13) (cl_RX6_115 hB.2.2.2.2.1 ⟨Nat.le_of_ble_eq_true rfl, Nat.le_of_ble_eq_true rfl⟩) tl126 (by decide) rfl rfl hl.1 rfl (Nat.le_of_ble_eq_true rfl) dX6_hyphenedLines_14 ⟨Nat.le_refl _, Nat.le_refl _⟩) hS (fun H locs hW hS => ?_)
        refine lv_aload_n hx hb dX6_hyphenedLines_17 rfl (lv_at hl 0 rfl) ?_
        refine fg6_1 hB hW tl126 wd2_63 dX6_hyphenedLines_18 ?_
        refine fg2_5 hB hW tl127 wd2_8 dX6_hyphenedLines_21 ?_
        refine lv_iconst (v := (1 : Int32)) hx hb dX6_hyphenedLines_24 (by decide) ?_
        refine lv_icmp_ne (tgt := 31) hx hb dX6_hyphenedLines_25 (by decide) (fun c14 => ?_) (fun c14 => ?_)
        · have hf := i_f hf c14
          obtain ⟨x15, ex15⟩ : ∃ y : Int32, y = x2 + (1 : Int32) := ⟨_, rfl⟩
          have hf := nm_o hf ex15
          refine lv_iinc (v := x15) (lv' := [(2, .int x15), (0, .ref (G.2.2.1 126)), (1, .int x1)]) hx hb dX6_hyphenedLines_31 hl (k := 2) rfl (by rw [ex15]; rfl) (by decide) rfl (fun ls hl => ?_)
          refine lv_goto (tgt := 4) hx hb dX6_hyphenedLines_34 (by decide) ?_
          exact ih x1 x15 M12 _ _ ls hW hS (lv_sub hl [1, 2, 0] rfl) hf
        · have hf := i_t hf c14
          obtain ⟨x16, ex16⟩ : ∃ y : Int32, y = x1 + (1 : Int32) := ⟨_, rfl⟩
          have hf := nm_o hf ex16
          refine lv_iinc (v := x16) (lv' := [(1, .int x16), (0, .ref (G.2.2.1 126)), (2, .int x2)]) hx hb dX6_hyphenedLines_28 hl (k := 1) rfl (by rw [ex16]; rfl) (by decide) rfl (fun ls hl => ?_)
          obtain ⟨x17, ex17⟩ : ∃ y : Int32, y = x2 + (1 : Int32) := ⟨_, rfl⟩
          have hf := nm_o hf ex17
          refine lv_iinc (v := x17) (lv' := [(2, .int x17), (1, .int x16), (0, .ref (G.2.2.1 126))]) hx hb dX6_hyphenedLines_31 hl (k := 2) rfl (by rw [ex17]; rfl) (by decide) rfl (fun ls hl => ?_)
          refine lv_goto (tgt := 4) hx hb dX6_hyphenedLines_34 (by decide) ?_
          exact ih x16 x17 M12 _ _ ls hW hS (lv_sub hl [2, 1, 0] rfl) hf
  exact loop5 FU (0 : Int32) (0 : Int32) M _ _ ls hW hS (lv_sub hl [2, 1, 0] rfl) hL
theorem cl_RX6_121 {R : Room} {s : State} {args : Array Value} (ht : ∀ w ∈ lw_all, w.before args s = true) (hR : 0 + 1 ≤ R.frames ∧ 8 + (1 + 11) + 0 ≤ R.locals) : CallW R s args RX6 RX2 121 yX2_isWidow cX2_isWidow 1 (some .boolean) (wsq yX2_isWidow cX2_isWidow 1 (some .boolean)) (rmq 0 0) 0 0 0 := cwV 0 ht (goodV wd4_135 wd4_101 wd4_102 wd1_8 wd4_103) rfl rfl rfl (by decide +kernel) hR
def f_X6_widowLines_L4  (K4 : Int32 → Int32 → Mem → Option (Int32 × Mem)) (x1 : Int32) (x2 : Int32) (M3 : Mem) : Option (Int32 × Mem) := (if (gi M3 126 3) ≤ x2 then (some (x1, M3)) else (bq1 (f_X6_show x2 M3) (fun (M12 : Mem) => bq1 (f_X2_isWidow M12) (fun (x14 : Int32) => (if x14 = 0 then (nmq (x2 + (1 : Int32)) (fun (x17 : Int32) => (K4 x1 x17 M12))) else (nmq (x1 + (1 : Int32)) (fun (x18 : Int32) => (nmq (x2 + (1 : Int32)) (fun (x19 : Int32) => (K4 x18 x19 M12))))))))))
def f_X6_widowLines (M : Mem) : Option (Int32 × Mem) := (bq2 (lq3 f_X6_widowLines_L4 FU (0 : Int32) (0 : Int32) M) (fun (x6 : Int32) (M7 : Mem) => some (x6, M7)))
set_option maxHeartbeats 4000000 in
set_option maxRecDepth 100000 in
theorem ct_X6_widowLines (l : Launch) (G : GG)  {M : Mem} {r : Int32} {Mr : Mem}  (hf : f_X6_widowLines M = some (r, Mr)) : Met l yX6_widowLines (wsq yX6_widowLines cX6_widowLines 3 (some .int)) (rmq 3 65) (va_Pc [.ref (G.2.2.1 126)] (World G M)) (Qi G r Mr) 0 0 (adA G) := by
  refine x_start (plainFor_of_name (by decide)) (Nat.le_of_ble_eq_true rfl) ?_
  intro p e s m args below meth c hB hr hlk hW hS ls hl
  have hx := hB.x
  have hb := hB.b
  have hl : lv_has ls 3 [(0, .ref (G.2.2.1 126))] := hl
  unfold f_X6_widowLines at hf
  refine lv_iconst (v := (0 : Int32)) hx hb dX6_widowLines_0 (by decide) ?_
  refine lv_istore_n (lv' := [(1, .int (0 : Int32)), (0, .ref (G.2.2.1 126))]) hx hb dX6_widowLines_1 rfl hl (by decide) rfl (fun ls hl => ?_)
  refine lv_iconst (v := (0 : Int32)) hx hb dX6_widowLines_2 (by decide) ?_
  refine lv_istore_n (lv' := [(2, .int (0 : Int32)), (1, .int (0 : Int32)), (0, .ref (G.2.2.1 126))]) hx hb dX6_widowLines_3 rfl hl (by decide) rfl (fun ls hl => ?_)
  obtain ⟨y8, M9, hL, hf⟩ := b_o2 hf
  have main10 : ∀ (x6 : Int32) (M7 : Mem) (H : Heap) (locs : List Loc) (ls : Array Slot), Wd G M7 H → va_S (adA G) s.heap H locs → lv_has ls 3 [(1, .int x6)] → some (x6, M7) = some (y8, M9) → W p l e (rmq 3 65) s m args below meth c H locs 0 0 (MQ below (Qi G r Mr) args s 0 0 (adA G)) (F0 m 36 ls []) := by
    intro x6 M7 H locs ls hW hS hl hE
    cases hE
    refine lv_iload_n hx hb dX6_widowLines_36 rfl (lv_at hl 0 rfl) ?_
    exact e_i hB hW hS hr hlk (s_1 hf) (s_2 hf) dX6_widowLines_37
  have loop5 : ∀ (n : Nat) (x1 : Int32) (x2 : Int32) (M3 : Mem) (H : Heap) (locs : List Loc) (ls : Array Slot), Wd G M3 H → va_S (adA G) s.heap H locs → lv_has ls 3 [(0, .ref (G.2.2.1 126)), (1, .int x1), (2, .int x2)] → lq3 f_X6_widowLines_L4 n x1 x2 M3 = some (y8, M9) → W p l e (rmq 3 65) s m args below meth c H locs 0 0 (MQ below (Qi G r Mr) args s 0 0 (adA G)) (F0 m 4 ls []) := by
    intro n
    induction n with
    | zero => intro x1 x2 M3 H locs ls hW hS hl hf; exact (l_z3 hf).elim
    | succ n ih =>
      intro x1 x2 M3 H locs ls hW hS hl hf
      have hf := l_s3 hf
      generalize lq3 f_X6_widowLines_L4 n = K4 at ih hf
      unfold f_X6_widowLines_L4 at hf
      refine lv_iload_n hx hb dX6_widowLines_4 rfl (lv_at hl 2 rfl) ?_
      refine lv_aload_n hx hb dX6_widowLines_5 rfl (lv_at hl 0 rfl) ?_
      refine fg6_3 hB hW tl126 wd2_67 dX6_widowLines_6 ?_
      refine lv_icmp_ge (tgt := 36) hx hb dX6_widowLines_9 (by decide) (fun c11 => ?_) (fun c11 => ?_)
      · have hf := i_t hf c11
        exact main10 x1 M3 _ _ ls hW hS (lv_sub hl [1] rfl) hf
      · have hf := i_f hf c11
        refine lv_aload_n hx hb dX6_widowLines_12 rfl (lv_at hl 0 rfl) ?_
        refine lv_iload_n hx hb dX6_widowLines_13 rfl (lv_at hl 2 rfl) ?_
        obtain ⟨M12, hg13, hf⟩ := b_o1 hf
        refine x_cv hB (x_rv hB hW hS (As := [.int x2]) (rest := []) (ct_X6_show l G hg13) (cl_RX6_115 hB.2.2.2.2.1 ⟨Nat.le_of_ble_eq_true rfl, Nat.le_of_ble_eq_true rfl⟩) tl126 (by decide) rfl rfl hl.1 rfl (Nat.le_of_ble_eq_true rfl) dX6_widowLines_14 ⟨Nat.le_refl _, Nat.le_refl _⟩) hS (fun H locs hW hS => ?_)
        refine lv_aload_n hx hb dX6_widowLines_17 rfl (lv_at hl 0 rfl) ?_
        refine fg6_1 hB hW tl126 wd2_63 dX6_widowLines_18 ?_
        obtain ⟨x14, hg15, hf⟩ := b_o1 hf
        refine x_ci hB (x_rv hB hW hS (As := []) (rest := []) (ct_X2_isWidow l G hg15) (cl_RX6_121 hB.2.2.2.2.1 ⟨Nat.le_of_ble_eq_true rfl, Nat.le_of_ble_eq_true rfl⟩) tl127 (by decide) rfl rfl hl.1 rfl (Nat.le_of_ble_eq_true rfl) dX6_widowLines_21 ⟨Nat.le_refl _, Nat.le_refl _⟩) hS (fun H locs hW hS => ?_)
        refine lv_if_eq (tgt := 30) hx hb dX6_widowLines_24 (by decide) (fun c16 => ?_) (fun c16 => ?_)
        · have hf := i_t hf c16
          obtain ⟨x17, ex17⟩ : ∃ y : Int32, y = x2 + (1 : Int32) := ⟨_, rfl⟩
          have hf := nm_o hf ex17
          refine lv_iinc (v := x17) (lv' := [(2, .int x17), (0, .ref (G.2.2.1 126)), (1, .int x1)]) hx hb dX6_widowLines_30 hl (k := 2) rfl (by rw [ex17]; rfl) (by decide) rfl (fun ls hl => ?_)
          refine lv_goto (tgt := 4) hx hb dX6_widowLines_33 (by decide) ?_
          exact ih x1 x17 M12 _ _ ls hW hS (lv_sub hl [1, 2, 0] rfl) hf
        · have hf := i_f hf c16
          obtain ⟨x18, ex18⟩ : ∃ y : Int32, y = x1 + (1 : Int32) := ⟨_, rfl⟩
          have hf := nm_o hf ex18
          refine lv_iinc (v := x18) (lv' := [(1, .int x18), (0, .ref (G.2.2.1 126)), (2, .int x2)]) hx hb dX6_widowLines_27 hl (k := 1) rfl (by rw [ex18]; rfl) (by decide) rfl (fun ls hl => ?_)
          obtain ⟨x19, ex19⟩ : ∃ y : Int32, y = x2 + (1 : Int32) := ⟨_, rfl⟩
          have hf := nm_o hf ex19
          refine lv_iinc (v := x19) (lv' := [(2, .int x19), (1, .int x18), (0, .ref (G.2.2.1 126))]) hx hb dX6_widowLines_30 hl (k := 2) rfl (by rw [ex19]; rfl) (by decide) rfl (fun ls hl => ?_)
          refine lv_goto (tgt := 4) hx hb dX6_widowLines_33 (by decide) ?_
          exact ih x18 x19 M12 _ _ ls hW hS (lv_sub hl [2, 1, 0] rfl) hf
  exact loop5 FU (0 : Int32) (0 : Int32) M _ _ ls hW hS (lv_sub hl [2, 1, 0] rfl) hL
def f_X6_extremeLine_L8 (p1 : Int32) (K5 : Int32 → UInt32 → Int32 → Mem → Option (Int32 × Mem)) (x1 : Int32) (x2 : UInt32) (x3 : Int32) (M4 : Mem) : Option (Int32 × Mem) := (if (gi M4 126 3) ≤ x3 then (some (x1, M4)) else (bq1 (f_X6_show x3 M4) (fun (M13 : Mem) => (jq (fun (x15 : Int32) => (nmq ((gf M13 127 6)) (fun (x18 : UInt32) => (nmq (x15 + (1 : Int32)) (fun (x19 : Int32) => (K5 x15 x18 x19 M13)))))) (fun (K17 : Int32 → Option (Int32 × Mem)) => (if x1 = (-9 : Int32) then (K17 x3) else (if p1 = 0 then (if 0 ≤ (fcg (gf M13 127 6) x2) then (nmq (x3 + (1 : Int32)) (fun (x23 : Int32) => (K5 x1 x2 x23 M13))) else (K17 x3)) else (if (fcl (gf M13 127 6) x2) ≤ 0 then (nmq (x3 + (1 : Int32)) (fun (x25 : Int32) => (K5 x1 x2 x25 M13))) else (K17 x3)))))))))
def f_X6_extremeLine (p1 : Int32) (M : Mem) : Option (Int32 × Mem) := (bq2 (lq4 (f_X6_extremeLine_L8 p1) FU (-9 : Int32) FP.fconst0 (0 : Int32) M) (fun (x7 : Int32) (M8 : Mem) => some (x7, M8)))
set_option maxHeartbeats 4000000 in
set_option maxRecDepth 100000 in
theorem ct_X6_extremeLine (l : Launch) (G : GG) {p1 : Int32} {M : Mem} {r : Int32} {Mr : Mem}  (hf : f_X6_extremeLine p1 M = some (r, Mr)) : Met l yX6_extremeLine (wsq yX6_extremeLine cX6_extremeLine 5 (some .int)) (rmq 3 65) (va_Pc [.ref (G.2.2.1 126), .int p1] (World G M)) (Qi G r Mr) 0 0 (adA G) := by
  refine x_start (plainFor_of_name (by decide)) (Nat.le_of_ble_eq_true rfl) ?_
  intro p e s m args below meth c hB hr hlk hW hS ls hl
  have hx := hB.x
  have hb := hB.b
  have hl : lv_has ls 5 [(0, .ref (G.2.2.1 126)), (1, .int p1)] := hl
  unfold f_X6_extremeLine at hf
  refine lv_bipush (v := (-9 : Int32)) hx hb dX6_extremeLine_0 (by decide) ?_
  refine lv_istore_n (lv' := [(2, .int (-9 : Int32)), (0, .ref (G.2.2.1 126)), (1, .int p1)]) hx hb dX6_extremeLine_2 rfl hl (by decide) rfl (fun ls hl => ?_)
  refine lv_fconst0 hx hb dX6_extremeLine_3 ?_
  refine lv_fstore_n (lv' := [(3, .float FP.fconst0), (2, .int (-9 : Int32)), (0, .ref (G.2.2.1 126)), (1, .int p1)]) hx hb dX6_extremeLine_4 rfl hl (by decide) rfl (fun ls hl => ?_)
  refine lv_iconst (v := (0 : Int32)) hx hb dX6_extremeLine_5 (by decide) ?_
  refine lv_istore (lv' := [(4, .int (0 : Int32)), (3, .float FP.fconst0), (2, .int (-9 : Int32)), (0, .ref (G.2.2.1 126)), (1, .int p1)]) hx hb dX6_extremeLine_6 hl (by decide) rfl (fun ls hl => ?_)
  obtain ⟨y9, M10, hL, hf⟩ := b_o2 hf
  have main11 : ∀ (x7 : Int32) (M8 : Mem) (H : Heap) (locs : List Loc) (ls : Array Slot), Wd G M8 H → va_S (adA G) s.heap H locs → lv_has ls 5 [(2, .int x7)] → some (x7, M8) = some (y9, M10) → W p l e (rmq 3 65) s m args below meth c H locs 0 0 (MQ below (Qi G r Mr) args s 0 0 (adA G)) (F0 m 77 ls []) := by
    intro x7 M8 H locs ls hW hS hl hE
    cases hE
    refine lv_iload_n hx hb dX6_extremeLine_77 rfl (lv_at hl 0 rfl) ?_
    exact e_i hB hW hS hr hlk (s_1 hf) (s_2 hf) dX6_extremeLine_78
  have loop6 : ∀ (n : Nat) (x1 : Int32) (x2 : UInt32) (x3 : Int32) (M4 : Mem) (H : Heap) (locs : List Loc) (ls : Array Slot), Wd G M4 H → va_S (adA G) s.heap H locs → lv_has ls 5 [(0, .ref (G.2.2.1 126)), (1, .int p1), (2, .int x1), (3, .float x2), (4, .int x3)] → lq4 (f_X6_extremeLine_L8 p1) n x1 x2 x3 M4 = some (y9, M10) → W p l e (rmq 3 65) s m args below meth c H locs 0 0 (MQ below (Qi G r Mr) args s 0 0 (adA G)) (F0 m 8 ls []) := by
    intro n
    induction n with
    | zero => intro x1 x2 x3 M4 H locs ls hW hS hl hf; exact (l_z4 hf).elim
    | succ n ih =>
      intro x1 x2 x3 M4 H locs ls hW hS hl hf
      have hf := l_s4 hf
      generalize lq4 (f_X6_extremeLine_L8 p1) n = K5 at ih hf
      unfold f_X6_extremeLine_L8 at hf
      refine lv_iload hx hb dX6_extremeLine_8 (lv_at hl 4 rfl) ?_
      refine lv_aload_n hx hb dX6_extremeLine_10 rfl (lv_at hl 0 rfl) ?_
      refine fg6_3 hB hW tl126 wd2_67 dX6_extremeLine_11 ?_
      refine lv_icmp_ge (tgt := 77) hx hb dX6_extremeLine_14 (by decide) (fun c12 => ?_) (fun c12 => ?_)
      · have hf := i_t hf c12
        exact main11 x1 M4 _ _ ls hW hS (lv_sub hl [2] rfl) hf
      · have hf := i_f hf c12
        refine lv_aload_n hx hb dX6_extremeLine_17 rfl (lv_at hl 0 rfl) ?_
        refine lv_iload hx hb dX6_extremeLine_18 (lv_at hl 4 rfl) ?_
        obtain ⟨M13, hg14, hf⟩ := b_o1 hf
        refine x_cv hB (x_rv hB hW hS (As := [.int x3]) (rest := []) (ct_X6_show l G hg14) (cl_RX6_115 hB.2.2.2.2.1 ⟨Nat.le_of_ble_eq_true rfl, Nat.le_of_ble_eq_true rfl⟩) tl126 (by decide) rfl rfl hl.1 rfl (Nat.le_of_ble_eq_true rfl) dX6_extremeLine_20 ⟨Nat.le_refl _, Nat.le_refl _⟩) hS (fun H locs hW hS => ?_)
        refine lv_iload_n hx hb dX6_extremeLine_23 rfl (lv_at hl 2 rfl) ?_
        refine lv_bipush (v := (-9 : Int32)) hx hb dX6_extremeLine_24 (by decide) ?_
        obtain ⟨K17, eK17, hf⟩ := j_o hf
        have main16 : ∀ (x15 : Int32) (H : Heap) (locs : List Loc) (ls : Array Slot), Wd G M13 H → va_S (adA G) s.heap H locs → lv_has ls 5 [(0, .ref (G.2.2.1 126)), (1, .int p1), (4, .int x15)] → K17 x15 = some (y9, M10) → W p l e (rmq 3 65) s m args below meth c H locs 0 0 (MQ below (Qi G r Mr) args s 0 0 (adA G)) (F0 m 60 ls []) := by
          intro x15 H locs ls hW hS hl hf
          subst eK17
          refine lv_iload hx hb dX6_extremeLine_60 (lv_at hl 2 rfl) ?_
          refine lv_istore_n (lv' := [(2, .int x15), (0, .ref (G.2.2.1 126)), (1, .int p1), (4, .int x15)]) hx hb dX6_extremeLine_62 rfl hl (by decide) rfl (fun ls hl => ?_)
          refine lv_aload_n hx hb dX6_extremeLine_63 rfl (lv_at hl 1 rfl) ?_
          refine fg6_1 hB hW tl126 wd2_63 dX6_extremeLine_64 ?_
          refine fg2_6 hB hW tl127 wd2_11 dX6_extremeLine_67 ?_
          refine lv_topf (fun x18 ex18 => ?_)
          have hf := nm_o hf ex18
          refine lv_fstore_n (lv' := [(3, .float x18), (2, .int x15), (0, .ref (G.2.2.1 126)), (1, .int p1), (4, .int x15)]) hx hb dX6_extremeLine_70 rfl hl (by decide) rfl (fun ls hl => ?_)
          obtain ⟨x19, ex19⟩ : ∃ y : Int32, y = x15 + (1 : Int32) := ⟨_, rfl⟩
          have hf := nm_o hf ex19
          refine lv_iinc (v := x19) (lv' := [(4, .int x19), (3, .float x18), (2, .int x15), (0, .ref (G.2.2.1 126)), (1, .int p1)]) hx hb dX6_extremeLine_71 hl (k := 4) rfl (by rw [ex19]; rfl) (by decide) rfl (fun ls hl => ?_)
          refine lv_goto (tgt := 8) hx hb dX6_extremeLine_74 (by decide) ?_
          exact ih x15 x18 x19 M13 _ _ ls hW hS (lv_sub hl [3, 4, 2, 1, 0] rfl) hf
        refine lv_icmp_eq (tgt := 60) hx hb dX6_extremeLine_26 (by decide) (fun c20 => ?_) (fun c20 => ?_)
        · have hf := i_t hf c20
          exact main16 x3 _ _ ls hW hS (lv_sub hl [0, 1, 4] rfl) hf
        · have hf := i_f hf c20
          refine lv_iload_n hx hb dX6_extremeLine_29 rfl (lv_at hl 1 rfl) ?_
          refine lv_if_eq (tgt := 48) hx hb dX6_extremeLine_30 (by decide) (fun c21 => ?_) (fun c21 => ?_)
          · have hf := i_t hf c21
            refine lv_aload_n hx hb dX6_extremeLine_48 rfl (lv_at hl 0 rfl) ?_
            refine fg6_1 hB hW tl126 wd2_63 dX6_extremeLine_49 ?_
            refine fg2_6 hB hW tl127 wd2_11 dX6_extremeLine_52 ?_
            refine lv_fload_n hx hb dX6_extremeLine_55 rfl (lv_at hl 3 rfl) ?_
            refine lv_fcmp hx hb dX6_extremeLine_56 ?_
            refine lv_if_ge (tgt := 71) hx hb dX6_extremeLine_57 (by decide) (fun c22 => ?_) (fun c22 => ?_)
            · have hf := i_t hf c22
              obtain ⟨x23, ex23⟩ : ∃ y : Int32, y = x3 + (1 : Int32) := ⟨_, rfl⟩
              have hf := nm_o hf ex23
              refine lv_iinc (v := x23) (lv' := [(4, .int x23), (0, .ref (G.2.2.1 126)), (1, .int p1), (2, .int x1), (3, .float x2)]) hx hb dX6_extremeLine_71 hl (k := 4) rfl (by rw [ex23]; rfl) (by decide) rfl (fun ls hl => ?_)
              refine lv_goto (tgt := 8) hx hb dX6_extremeLine_74 (by decide) ?_
              exact ih x1 x2 x23 M13 _ _ ls hW hS (lv_sub hl [1, 2, 3, 4, 0] rfl) hf
            · have hf := i_f hf c22
              exact main16 x3 _ _ ls hW hS (lv_sub hl [0, 1, 4] rfl) hf
          · have hf := i_f hf c21
            refine lv_aload_n hx hb dX6_extremeLine_33 rfl (lv_at hl 0 rfl) ?_
            refine fg6_1 hB hW tl126 wd2_63 dX6_extremeLine_34 ?_
            refine fg2_6 hB hW tl127 wd2_11 dX6_extremeLine_37 ?_
            refine lv_fload_n hx hb dX6_extremeLine_40 rfl (lv_at hl 3 rfl) ?_
            refine lv_fcmp hx hb dX6_extremeLine_41 ?_
            refine lv_if_le (tgt := 71) hx hb dX6_extremeLine_42 (by decide) (fun c24 => ?_) (fun c24 => ?_)
            · have hf := i_t hf c24
              obtain ⟨x25, ex25⟩ : ∃ y : Int32, y = x3 + (1 : Int32) := ⟨_, rfl⟩
              have hf := nm_o hf ex25
              refine lv_iinc (v := x25) (lv' := [(4, .int x25), (0, .ref (G.2.2.1 126)), (1, .int p1), (2, .int x1), (3, .float x2)]) hx hb dX6_extremeLine_71 hl (k := 4) rfl (by rw [ex25]; rfl) (by decide) rfl (fun ls hl => ?_)
              refine lv_goto (tgt := 8) hx hb dX6_extremeLine_74 (by decide) ?_
              exact ih x1 x2 x25 M13 _ _ ls hW hS (lv_sub hl [1, 2, 3, 4, 0] rfl) hf
            · have hf := i_f hf c24
              refine lv_goto (tgt := 60) hx hb dX6_extremeLine_45 (by decide) ?_
              exact main16 x3 _ _ ls hW hS (lv_sub hl [0, 1, 4] rfl) hf
  exact loop6 FU (-9 : Int32) FP.fconst0 (0 : Int32) M _ _ ls hW hS (lv_sub hl [3, 4, 2, 1, 0] rfl) hL
theorem cl_RX8_229 {R : Room} {s : State} {args : Array Value} (ht : ∀ w ∈ lw_all, w.before args s = true) (hR : 5 + 1 ≤ R.frames ∧ 8 + (3 + 11) + 130 ≤ R.locals) : CallW R s args RX8 RX6 229 yX6_set cX6_set 3 (some .int) (wsq yX6_set cX6_set 3 (some .int)) (rmq 5 130) 0 0 2 := cwV 2 ht (goodV wd3_237 wd3_238 wd3_239 wd1_7 wd4_0) rfl rfl rfl (by decide +kernel) hR
theorem cl_RX8_240 {R : Room} {s : State} {args : Array Value} (ht : ∀ w ∈ lw_all, w.before args s = true) (hR : 3 + 1 ≤ R.frames ∧ 8 + (3 + 11) + 65 ≤ R.locals) : CallW R s args RX8 RX6 240 yX6_hyphenedLines cX6_hyphenedLines 3 (some .int) (wsq yX6_hyphenedLines cX6_hyphenedLines 3 (some .int)) (rmq 3 65) 0 0 0 := cwV 0 ht (goodV wd4_123 wd4_124 wd4_125 wd1_7 wd4_126) rfl rfl rfl (by decide +kernel) hR
theorem cl_RX8_243 {R : Room} {s : State} {args : Array Value} (ht : ∀ w ∈ lw_all, w.before args s = true) (hR : 3 + 1 ≤ R.frames ∧ 8 + (3 + 11) + 65 ≤ R.locals) : CallW R s args RX8 RX6 243 yX6_widowLines cX6_widowLines 3 (some .int) (wsq yX6_widowLines cX6_widowLines 3 (some .int)) (rmq 3 65) 0 0 0 := cwV 0 ht (goodV wd4_131 wd4_132 wd4_133 wd1_7 wd4_134) rfl rfl rfl (by decide +kernel) hR
theorem cl_RX8_246 {R : Room} {s : State} {args : Array Value} (ht : ∀ w ∈ lw_all, w.before args s = true) (hR : 3 + 1 ≤ R.frames ∧ 8 + (5 + 11) + 65 ≤ R.locals) : CallW R s args RX8 RX6 246 yX6_extremeLine cX6_extremeLine 5 (some .int) (wsq yX6_extremeLine cX6_extremeLine 5 (some .int)) (rmq 3 65) 0 0 1 := cwV 1 ht (goodV wd4_136 wd4_137 wd4_138 wd1_7 wd4_139) rfl rfl rfl (by decide +kernel) hR
def f_X8_lines (p1 : Int32) (M : Mem) : Option (Int32 × Mem) := (bq1 (f_X8_isOther p1 (6 : Int32)) (fun (x1 : Int32) => (if x1 = 0 then (bq2 (f_X6_set 1 (0 : Int32) M) (fun (x4 : Int32) (M5 : Mem) => (if p1 = (5 : Int32) then some ((gi M5 128 3), M5) else (if p1 = 0 then some (x4, M5) else (if x4 = (-9 : Int32) then some (x4, M5) else (if p1 = (1 : Int32) then (bq2 (f_X6_hyphenedLines M5) (fun (x22 : Int32) (M23 : Mem) => some (x22, M23))) else (if p1 = (2 : Int32) then (bq2 (f_X6_widowLines M5) (fun (x19 : Int32) (M20 : Mem) => some (x19, M20))) else (nmq ((if p1 = (3 : Int32) then ((1 : Int32)) else ((0 : Int32)))) (fun (x12 : Int32) => (bq2 (f_X6_extremeLine x12 M5) (fun (x14 : Int32) (M15 : Mem) => some (x14, M15)))))))))))) else (bq2 (f_X8_refuse (-2 : Int32) M) (fun (x25 : Int32) (M26 : Mem) => some (x25, M26))))))
set_option maxHeartbeats 4000000 in
set_option maxRecDepth 100000 in
theorem ct_X8_lines (l : Launch) (G : GG) {p1 : Int32} {M : Mem} {r : Int32} {Mr : Mem}  (hf : f_X8_lines p1 M = some (r, Mr)) : Met l yX8_lines (wsq yX8_lines cX8_lines 3 (some .int)) (rmq 6 152) (va_Pc [.ref (G.2.2.1 0), .int p1] (World G M)) (Qi G r Mr) 0 0 (adA G) := by
  refine x_start (plainFor_of_name (by decide)) (Nat.le_of_ble_eq_true rfl) ?_
  intro p e s m args below meth c hB hr hlk hW hS ls hl
  have hx := hB.x
  have hb := hB.b
  have hl : lv_has ls 3 [(0, .ref (G.2.2.1 0)), (1, .int p1)] := hl
  unfold f_X8_lines at hf
  refine lv_iload_n hx hb dX8_lines_0 rfl (lv_at hl 1 rfl) ?_
  refine lv_bipush (v := (6 : Int32)) hx hb dX8_lines_1 (by decide) ?_
  obtain ⟨x1, hg2, hf⟩ := b_o1 hf
  refine x_ci hB (x_rs hB hW hS (As := [.int p1, .int (6 : Int32)]) (rest := []) (ct_X8_isOther l G hg2) (cl_RX8_171 hB.2.2.2.2.1 ⟨Nat.le_of_ble_eq_true rfl, Nat.le_of_ble_eq_true rfl⟩) rfl hl.1 rfl (Nat.le_of_ble_eq_true rfl) dX8_lines_3 ⟨Nat.le_refl _, Nat.le_refl _⟩) hS (fun H locs hW hS => ?_)
  refine lv_if_eq (tgt := 16) hx hb dX8_lines_6 (by decide) (fun c3 => ?_) (fun c3 => ?_)
  · have hf := i_t hf c3
    refine lv_aload_n hx hb dX8_lines_16 rfl (lv_at hl 0 rfl) ?_
    refine fg8_5 hB hW tl0 wd2_96 dX8_lines_17 ?_
    refine lv_aload_n hx hb dX8_lines_20 rfl (lv_at hl 0 rfl) ?_
    refine fg8_0 hB hW tl0 wd2_91 dX8_lines_21 ?_
    refine lv_iconst (v := (0 : Int32)) hx hb dX8_lines_24 (by decide) ?_
    obtain ⟨x4, M5, hg6, hf⟩ := b_o2 hf
    refine x_ci hB (x_rv hB hW hS (As := [.ref (G.2.2.1 1), .int (0 : Int32)]) (rest := []) (ct_X6_set l G tl1 hg6) (cl_RX8_229 hB.2.2.2.2.1 ⟨Nat.le_of_ble_eq_true rfl, Nat.le_of_ble_eq_true rfl⟩) tl126 (by decide) rfl rfl hl.1 rfl (Nat.le_of_ble_eq_true rfl) dX8_lines_25 ⟨Nat.le_refl _, Nat.le_refl _⟩) hS (fun H locs hW hS => ?_)
    refine lv_istore_n (lv' := [(2, .int x4), (0, .ref (G.2.2.1 0)), (1, .int p1)]) hx hb dX8_lines_28 rfl hl (by decide) rfl (fun ls hl => ?_)
    refine lv_iload_n hx hb dX8_lines_29 rfl (lv_at hl 2 rfl) ?_
    refine lv_iconst (v := (5 : Int32)) hx hb dX8_lines_30 (by decide) ?_
    refine lv_icmp_ne (tgt := 45) hx hb dX8_lines_31 (by decide) (fun c7 => ?_) (fun c7 => ?_)
    · have hf := i_f hf c7
      refine lv_iload_n hx hb dX8_lines_45 rfl (lv_at hl 2 rfl) ?_
      refine lv_if_eq (tgt := 55) hx hb dX8_lines_46 (by decide) (fun c8 => ?_) (fun c8 => ?_)
      · have hf := i_t hf c8
        refine lv_iload_n hx hb dX8_lines_55 rfl (lv_at hl 0 rfl) ?_
        exact e_i hB hW hS hr hlk (s_1 hf) (s_2 hf) dX8_lines_56
      · have hf := i_f hf c8
        refine lv_iload_n hx hb dX8_lines_49 rfl (lv_at hl 0 rfl) ?_
        refine lv_bipush (v := (-9 : Int32)) hx hb dX8_lines_50 (by decide) ?_
        refine lv_icmp_ne (tgt := 57) hx hb dX8_lines_52 (by decide) (fun c9 => ?_) (fun c9 => ?_)
        · have hf := i_f hf c9
          refine lv_iload_n hx hb dX8_lines_57 rfl (lv_at hl 2 rfl) ?_
          refine lv_iconst (v := (1 : Int32)) hx hb dX8_lines_58 (by decide) ?_
          refine lv_icmp_ne (tgt := 70) hx hb dX8_lines_59 (by decide) (fun c10 => ?_) (fun c10 => ?_)
          · have hf := i_f hf c10
            refine lv_iload_n hx hb dX8_lines_70 rfl (lv_at hl 2 rfl) ?_
            refine lv_iconst (v := (2 : Int32)) hx hb dX8_lines_71 (by decide) ?_
            refine lv_icmp_ne (tgt := 85) hx hb dX8_lines_72 (by decide) (fun c11 => ?_) (fun c11 => ?_)
            · have hf := i_f hf c11
              refine lv_aload_n hx hb dX8_lines_85 rfl (lv_at hl 1 rfl) ?_
              refine fg8_5 hB hW tl0 wd2_96 dX8_lines_86 ?_
              refine lv_iload_n hx hb dX8_lines_89 rfl (lv_at hl 2 rfl) ?_
              refine lv_iconst (v := (3 : Int32)) hx hb dX8_lines_90 (by decide) ?_
              obtain ⟨y17, evy17⟩ : ∃ z : Int32, (if p1 = (3 : Int32) then ((1 : Int32)) else ((0 : Int32))) = z := ⟨_, rfl⟩
              have hf := nm_o hf evy17.symm
              have main13 : ∀ (x12 : Int32) (H : Heap) (locs : List Loc) (ls : Array Slot), Wd G M5 H → va_S (adA G) s.heap H locs → lv_has ls 3 [] → x12 = y17 → W p l e (rmq 6 152) s m args below meth c H locs 0 0 (MQ below (Qi G r Mr) args s 0 0 (adA G)) (F0 m 99 ls [.int x12, .ref (G.2.2.1 126)]) := by
                intro x12 H locs ls hW hS hl hE
                have hE := hE.symm
                subst hE
                obtain ⟨x14, M15, hg16, hf⟩ := b_o2 hf
                refine x_ci hB (x_rv hB hW hS (As := [.int y17]) (rest := []) (ct_X6_extremeLine l G hg16) (cl_RX8_246 hB.2.2.2.2.1 ⟨Nat.le_of_ble_eq_true rfl, Nat.le_of_ble_eq_true rfl⟩) tl126 (by decide) rfl rfl hl.1 rfl (Nat.le_of_ble_eq_true rfl) dX8_lines_99 ⟨Nat.le_refl _, Nat.le_refl _⟩) hS (fun H locs hW hS => ?_)
                exact e_i hB hW hS hr hlk (s_1 hf) (s_2 hf) dX8_lines_102
              have hf := evy17
              refine lv_icmp_ne (tgt := 98) hx hb dX8_lines_91 (by decide) (fun c18 => ?_) (fun c18 => ?_)
              · have hf := i_f hf c18
                refine lv_iconst (v := (0 : Int32)) hx hb dX8_lines_98 (by decide) ?_
                exact main13 (0 : Int32) _ _ ls hW hS (lv_sub hl [] rfl) hf
              · have hf := i_t hf c18
                refine lv_iconst (v := (1 : Int32)) hx hb dX8_lines_94 (by decide) ?_
                refine lv_goto (tgt := 99) hx hb dX8_lines_95 (by decide) ?_
                exact main13 (1 : Int32) _ _ ls hW hS (lv_sub hl [] rfl) hf
            · have hf := i_t hf c11
              refine lv_aload_n hx hb dX8_lines_75 rfl (lv_at hl 1 rfl) ?_
              refine fg8_5 hB hW tl0 wd2_96 dX8_lines_76 ?_
              obtain ⟨x19, M20, hg21, hf⟩ := b_o2 hf
              refine x_ci hB (x_rv hB hW hS (As := []) (rest := []) (ct_X6_widowLines l G hg21) (cl_RX8_243 hB.2.2.2.2.1 ⟨Nat.le_of_ble_eq_true rfl, Nat.le_of_ble_eq_true rfl⟩) tl126 (by decide) rfl rfl hl.1 rfl (Nat.le_of_ble_eq_true rfl) dX8_lines_79 ⟨Nat.le_refl _, Nat.le_refl _⟩) hS (fun H locs hW hS => ?_)
              refine lv_goto (tgt := 102) hx hb dX8_lines_82 (by decide) ?_
              exact e_i hB hW hS hr hlk (s_1 hf) (s_2 hf) dX8_lines_102
          · have hf := i_t hf c10
            refine lv_aload_n hx hb dX8_lines_62 rfl (lv_at hl 1 rfl) ?_
            refine fg8_5 hB hW tl0 wd2_96 dX8_lines_63 ?_
            obtain ⟨x22, M23, hg24, hf⟩ := b_o2 hf
            refine x_ci hB (x_rv hB hW hS (As := []) (rest := []) (ct_X6_hyphenedLines l G hg24) (cl_RX8_240 hB.2.2.2.2.1 ⟨Nat.le_of_ble_eq_true rfl, Nat.le_of_ble_eq_true rfl⟩) tl126 (by decide) rfl rfl hl.1 rfl (Nat.le_of_ble_eq_true rfl) dX8_lines_66 ⟨Nat.le_refl _, Nat.le_refl _⟩) hS (fun H locs hW hS => ?_)
            exact e_i hB hW hS hr hlk (s_1 hf) (s_2 hf) dX8_lines_69
        · have hf := i_t hf c9
          refine lv_iload_n hx hb dX8_lines_55 rfl (lv_at hl 0 rfl) ?_
          exact e_i hB hW hS hr hlk (s_1 hf) (s_2 hf) dX8_lines_56
    · have hf := i_t hf c7
      refine lv_aload_n hx hb dX8_lines_34 rfl (lv_at hl 1 rfl) ?_
      refine fg8_5 hB hW tl0 wd2_96 dX8_lines_35 ?_
      refine fg6_0 hB hW tl126 wd2_62 dX8_lines_38 ?_
      refine fg0_3 hB hW tl128 wd1_226 dX8_lines_41 ?_
      exact e_i hB hW hS hr hlk (s_1 hf) (s_2 hf) dX8_lines_44
  · have hf := i_f hf c3
    refine lv_aload_n hx hb dX8_lines_9 rfl (lv_at hl 0 rfl) ?_
    refine lv_bipush (v := (-2 : Int32)) hx hb dX8_lines_10 (by decide) ?_
    obtain ⟨x25, M26, hg27, hf⟩ := b_o2 hf
    refine x_ci hB (x_rv hB hW hS (As := [.int (-2 : Int32)]) (rest := []) (ct_X8_refuse l G hg27) (cl_RX8_50 hB.2.2.2.2.1 ⟨Nat.le_of_ble_eq_true rfl, Nat.le_of_ble_eq_true rfl⟩) tl0 (by decide) rfl rfl hl.1 rfl (Nat.le_of_ble_eq_true rfl) dX8_lines_12 ⟨Nat.le_refl _, Nat.le_refl _⟩) hS (fun H locs hW hS => ?_)
    exact e_i hB hW hS hr hlk (s_1 hf) (s_2 hf) dX8_lines_15
theorem cl_RX8_297 {R : Room} {s : State} {args : Array Value} (ht : ∀ w ∈ lw_all, w.before args s = true) (hR : 4 + 1 ≤ R.frames ∧ 8 + (6 + 11) + 105 ≤ R.locals) : CallW R s args RX8 RX0 297 yX0_cut cX0_cut 6 none (wsq yX0_cut cX0_cut 6 none) (rmq 4 105) 0 0 2 := cwV 2 ht (goodV wd4_148 wd4_2 wd4_3 wd1_9 wd4_4) rfl rfl rfl (by decide +kernel) hR
theorem cl_RX8_315 {R : Room} {s : State} {args : Array Value} (ht : ∀ w ∈ lw_all, w.before args s = true) (hR : 3 + 1 ≤ R.frames ∧ 8 + (3 + 11) + 71 ≤ R.locals) : CallW R s args RX8 RX6 315 yX6_solve cX6_solve 3 (some .int) (wsq yX6_solve cX6_solve 3 (some .int)) (rmq 3 71) 0 0 1 := cwV 1 ht (goodV wd4_149 wd4_27 wd4_28 wd1_7 wd4_29) rfl rfl rfl (by decide +kernel) hR
theorem cl_RX8_365 {R : Room} {s : State} {args : Array Value} (ht : ∀ w ∈ lw_all, w.before args s = true) (hR : 2 + 1 ≤ R.frames ∧ 8 + (4 + 11) + 42 ≤ R.locals) : CallW R s args RX8 RX6 365 yX6_show cX6_show 4 none (wsq yX6_show cX6_show 4 none) (rmq 2 42) 0 0 1 := cwV 1 ht (goodV wd4_150 wd4_128 wd4_129 wd1_7 wd4_130) rfl rfl rfl (by decide +kernel) hR
def f_X8_showLine (p1 : Int32) (M : Mem) : Option (Int32 × Mem) := (bq1 (f_X0_cut 1 (0 : Int32) M) (fun (M1 : Mem) => bq2 (f_X6_solve 1 M1) (fun (x3 : Int32) (M4 : Mem) => (if p1 < 0 then some ((0 : Int32), M4) else (if p1 < (gi M4 126 3) then (bq1 (f_X6_show p1 M4) (fun (M8 : Mem) => some ((1 : Int32), M8))) else some ((0 : Int32), M4))))))
set_option maxHeartbeats 4000000 in
set_option maxRecDepth 100000 in
theorem ct_X8_showLine (l : Launch) (G : GG) {p1 : Int32} {M : Mem} {r : Int32} {Mr : Mem}  (hf : f_X8_showLine p1 M = some (r, Mr)) : Met l yX8_showLine (wsq yX8_showLine cX8_showLine 2 (some .boolean)) (rmq 5 130) (va_Pc [.ref (G.2.2.1 0), .int p1] (World G M)) (Qi G r Mr) 0 0 (adA G) := by
  refine x_start (plainFor_of_name (by decide)) (Nat.le_of_ble_eq_true rfl) ?_
  intro p e s m args below meth c hB hr hlk hW hS ls hl
  have hx := hB.x
  have hb := hB.b
  have hl : lv_has ls 2 [(0, .ref (G.2.2.1 0)), (1, .int p1)] := hl
  unfold f_X8_showLine at hf
  refine lv_aload_n hx hb dX8_showLine_0 rfl (lv_at hl 0 rfl) ?_
  refine fg8_5 hB hW tl0 wd2_96 dX8_showLine_1 ?_
  refine fg6_0 hB hW tl126 wd2_62 dX8_showLine_4 ?_
  refine lv_aload_n hx hb dX8_showLine_7 rfl (lv_at hl 0 rfl) ?_
  refine fg8_0 hB hW tl0 wd2_91 dX8_showLine_8 ?_
  refine lv_iconst (v := (0 : Int32)) hx hb dX8_showLine_11 (by decide) ?_
  obtain ⟨M1, hg2, hf⟩ := b_o1 hf
  refine x_cv hB (x_rv hB hW hS (As := [.ref (G.2.2.1 1), .int (0 : Int32)]) (rest := []) (ct_X0_cut l G tl1 hg2) (cl_RX8_297 hB.2.2.2.2.1 ⟨Nat.le_of_ble_eq_true rfl, Nat.le_of_ble_eq_true rfl⟩) tl128 (by decide) rfl rfl hl.1 rfl (Nat.le_of_ble_eq_true rfl) dX8_showLine_12 ⟨Nat.le_refl _, Nat.le_refl _⟩) hS (fun H locs hW hS => ?_)
  refine lv_aload_n hx hb dX8_showLine_15 rfl (lv_at hl 0 rfl) ?_
  refine fg8_5 hB hW tl0 wd2_96 dX8_showLine_16 ?_
  refine lv_aload_n hx hb dX8_showLine_19 rfl (lv_at hl 0 rfl) ?_
  refine fg8_0 hB hW tl0 wd2_91 dX8_showLine_20 ?_
  obtain ⟨x3, M4, hg5, hf⟩ := b_o2 hf
  refine x_ci hB (x_rv hB hW hS (As := [.ref (G.2.2.1 1)]) (rest := []) (ct_X6_solve l G tl1 hg5) (cl_RX8_315 hB.2.2.2.2.1 ⟨Nat.le_of_ble_eq_true rfl, Nat.le_of_ble_eq_true rfl⟩) tl126 (by decide) rfl rfl hl.1 rfl (Nat.le_of_ble_eq_true rfl) dX8_showLine_23 ⟨Nat.le_refl _, Nat.le_refl _⟩) hS (fun H locs hW hS => ?_)
  refine lv_pop hx hb dX8_showLine_26 rfl ?_
  refine lv_iload_n hx hb dX8_showLine_27 rfl (lv_at hl 1 rfl) ?_
  refine lv_if_lt (tgt := 42) hx hb dX8_showLine_28 (by decide) (fun c6 => ?_) (fun c6 => ?_)
  · have hf := i_t hf c6
    refine lv_iconst (v := (0 : Int32)) hx hb dX8_showLine_42 (by decide) ?_
    exact e_z (by decide) hB hW hS hr hlk (s_1 hf) (s_2 hf) dX8_showLine_43
  · have hf := i_f hf c6
    refine lv_iload_n hx hb dX8_showLine_31 rfl (lv_at hl 1 rfl) ?_
    refine lv_aload_n hx hb dX8_showLine_32 rfl (lv_at hl 0 rfl) ?_
    refine fg8_5 hB hW tl0 wd2_96 dX8_showLine_33 ?_
    refine fg6_3 hB hW tl126 wd2_68 dX8_showLine_36 ?_
    refine lv_icmp_lt (tgt := 44) hx hb dX8_showLine_39 (by decide) (fun c7 => ?_) (fun c7 => ?_)
    · have hf := i_t hf c7
      refine lv_aload_n hx hb dX8_showLine_44 rfl (lv_at hl 0 rfl) ?_
      refine fg8_5 hB hW tl0 wd2_96 dX8_showLine_45 ?_
      refine lv_iload_n hx hb dX8_showLine_48 rfl (lv_at hl 1 rfl) ?_
      obtain ⟨M8, hg9, hf⟩ := b_o1 hf
      refine x_cv hB (x_rv hB hW hS (As := [.int p1]) (rest := []) (ct_X6_show l G hg9) (cl_RX8_365 hB.2.2.2.2.1 ⟨Nat.le_of_ble_eq_true rfl, Nat.le_of_ble_eq_true rfl⟩) tl126 (by decide) rfl rfl hl.1 rfl (Nat.le_of_ble_eq_true rfl) dX8_showLine_49 ⟨Nat.le_refl _, Nat.le_refl _⟩) hS (fun H locs hW hS => ?_)
      refine lv_iconst (v := (1 : Int32)) hx hb dX8_showLine_52 (by decide) ?_
      exact e_z (by decide) hB hW hS hr hlk (s_1 hf) (s_2 hf) dX8_showLine_53
    · have hf := i_f hf c7
      refine lv_iconst (v := (0 : Int32)) hx hb dX8_showLine_42 (by decide) ?_
      exact e_z (by decide) hB hW hS hr hlk (s_1 hf) (s_2 hf) dX8_showLine_43
def f_X2_fragmentCount (M : Mem) : Option Int32 := some (((gi M 127 2) - (gi M 127 1)) + (1 : Int32))
set_option maxHeartbeats 4000000 in
set_option maxRecDepth 100000 in
theorem ct_X2_fragmentCount (l : Launch) (G : GG)  {M : Mem} {r : Int32}  (hf : f_X2_fragmentCount M = some r) : Met l yX2_fragmentCount (wsq yX2_fragmentCount cX2_fragmentCount 1 (some .int)) (rmq 0 0) (va_Pc [.ref (G.2.2.1 127)] (World G M)) (Qi G r M) 0 0 (adA G) := by
  refine x_start (plainFor_of_name (by decide)) (Nat.le_of_ble_eq_true rfl) ?_
  intro p e s m args below meth c hB hr hlk hW hS ls hl
  have hx := hB.x
  have hb := hB.b
  have hl : lv_has ls 1 [(0, .ref (G.2.2.1 127))] := hl
  unfold f_X2_fragmentCount at hf
  refine lv_aload_n hx hb dX2_fragmentCount_0 rfl (lv_at hl 0 rfl) ?_
  refine fg2_2 hB hW tl127 wd2_1 dX2_fragmentCount_1 ?_
  refine lv_aload_n hx hb dX2_fragmentCount_4 rfl (lv_at hl 0 rfl) ?_
  refine fg2_1 hB hW tl127 wd1_238 dX2_fragmentCount_5 ?_
  refine lv_isub hx hb dX2_fragmentCount_8 ?_
  refine lv_iconst (v := (1 : Int32)) hx hb dX2_fragmentCount_9 (by decide) ?_
  refine lv_iadd hx hb dX2_fragmentCount_10 ?_
  exact e_i hB hW hS hr hlk (Option.some.inj hf) rfl dX2_fragmentCount_11
theorem cl_RX8_250 {R : Room} {s : State} {args : Array Value} (ht : ∀ w ∈ lw_all, w.before args s = true) (hR : 5 + 1 ≤ R.frames ∧ 8 + (2 + 11) + 130 ≤ R.locals) : CallW R s args RX8 RX8 250 yX8_showLine cX8_showLine 2 (some .boolean) (wsq yX8_showLine cX8_showLine 2 (some .boolean)) (rmq 5 130) 0 0 1 := cwV 1 ht (goodV wd4_144 wd4_146 wsel_28 wd1_1 wd4_147) rfl rfl rfl (by decide +kernel) hR
theorem cl_RX8_261 {R : Room} {s : State} {args : Array Value} (ht : ∀ w ∈ lw_all, w.before args s = true) (hR : 0 + 1 ≤ R.frames ∧ 8 + (1 + 11) + 0 ≤ R.locals) : CallW R s args RX8 RX2 261 yX2_fragmentCount cX2_fragmentCount 1 (some .int) (wsq yX2_fragmentCount cX2_fragmentCount 1 (some .int)) (rmq 0 0) 0 0 0 := cwV 0 ht (goodV wd4_151 wd4_152 wd4_153 wd1_8 wd4_154) rfl rfl rfl (by decide +kernel) hR
def f_X8_lineOf (p1 : Int32) (p2 : Int32) (M : Mem) : Option (Int32 × Mem) := (bq2 (f_X8_showLine p1 M) (fun (x1 : Int32) (M2 : Mem) => (if x1 = 0 then (bq2 (f_X8_refuse (-1 : Int32) M2) (fun (x15 : Int32) (M16 : Mem) => some (x15, M16))) else (if p2 = (0 : Int32) then some ((gi M2 127 1), M2) else if p2 = (1 : Int32) then (bq1 (f_X2_fragmentCount M2) (fun (x7 : Int32) => some (x7, M2))) else if p2 = (2 : Int32) then some ((gi M2 127 4), M2) else if p2 = (3 : Int32) then some ((gi M2 127 3), M2) else if p2 = (4 : Int32) then some ((gi M2 127 5), M2) else (bq2 (f_X8_refuse (-2 : Int32) M2) (fun (x12 : Int32) (M13 : Mem) => some (x12, M13)))))))
set_option maxHeartbeats 4000000 in
set_option maxRecDepth 100000 in
theorem ct_X8_lineOf (l : Launch) (G : GG) {p1 : Int32} {p2 : Int32} {M : Mem} {r : Int32} {Mr : Mem}  (hf : f_X8_lineOf p1 p2 M = some (r, Mr)) : Met l yX8_lineOf (wsq yX8_lineOf cX8_lineOf 3 (some .int)) (rmq 6 151) (va_Pc [.ref (G.2.2.1 0), .int p1, .int p2] (World G M)) (Qi G r Mr) 0 0 (adA G) := by
  refine x_start (plainFor_of_name (by decide)) (Nat.le_of_ble_eq_true rfl) ?_
  intro p e s m args below meth c hB hr hlk hW hS ls hl
  have hx := hB.x
  have hb := hB.b
  have hl : lv_has ls 3 [(0, .ref (G.2.2.1 0)), (1, .int p1), (2, .int p2)] := hl
  unfold f_X8_lineOf at hf
  refine lv_aload_n hx hb dX8_lineOf_0 rfl (lv_at hl 0 rfl) ?_
  refine lv_iload_n hx hb dX8_lineOf_1 rfl (lv_at hl 1 rfl) ?_
  obtain ⟨x1, M2, hg3, hf⟩ := b_o2 hf
  refine x_ci hB (x_rv hB hW hS (As := [.int p1]) (rest := []) (ct_X8_showLine l G hg3) (cl_RX8_250 hB.2.2.2.2.1 ⟨Nat.le_of_ble_eq_true rfl, Nat.le_of_ble_eq_true rfl⟩) tl0 (by decide) rfl rfl hl.1 rfl (Nat.le_of_ble_eq_true rfl) dX8_lineOf_2 ⟨Nat.le_refl _, Nat.le_refl _⟩) hS (fun H locs hW hS => ?_)
  refine lv_if_ne (tgt := 14) hx hb dX8_lineOf_5 (by decide) (fun c4 => ?_) (fun c4 => ?_)
  · have hf := i_f hf c4
    refine lv_iload_n hx hb dX8_lineOf_14 rfl (lv_at hl 2 rfl) ?_
    by_cases c5 : p2 = (0 : Int32)
    · have hf := i_t hf c5
      refine lv_tableIn (tgt := 48) hx hb dX8_lineOf_15 (by rw [c5]; decide) (by rw [c5]; decide) (by rw [c5] <;> rfl) (by decide) ?_
      refine lv_aload_n hx hb dX8_lineOf_48 rfl (lv_at hl 0 rfl) ?_
      refine fg8_5 hB hW tl0 wd2_96 dX8_lineOf_49 ?_
      refine fg6_1 hB hW tl126 wd2_64 dX8_lineOf_52 ?_
      refine fg2_1 hB hW tl127 wd2_0 dX8_lineOf_55 ?_
      exact e_i hB hW hS hr hlk (s_1 hf) (s_2 hf) dX8_lineOf_58
    · have hf := i_f hf c5
      by_cases c6 : p2 = (1 : Int32)
      · have hf := i_t hf c6
        refine lv_tableIn (tgt := 59) hx hb dX8_lineOf_15 (by rw [c6]; decide) (by rw [c6]; decide) (by rw [c6] <;> rfl) (by decide) ?_
        refine lv_aload_n hx hb dX8_lineOf_59 rfl (lv_at hl 0 rfl) ?_
        refine fg8_5 hB hW tl0 wd2_96 dX8_lineOf_60 ?_
        refine fg6_1 hB hW tl126 wd2_64 dX8_lineOf_63 ?_
        obtain ⟨x7, hg8, hf⟩ := b_o1 hf
        refine x_ci hB (x_rv hB hW hS (As := []) (rest := []) (ct_X2_fragmentCount l G hg8) (cl_RX8_261 hB.2.2.2.2.1 ⟨Nat.le_of_ble_eq_true rfl, Nat.le_of_ble_eq_true rfl⟩) tl127 (by decide) rfl rfl hl.1 rfl (Nat.le_of_ble_eq_true rfl) dX8_lineOf_66 ⟨Nat.le_refl _, Nat.le_refl _⟩) hS (fun H locs hW hS => ?_)
        exact e_i hB hW hS hr hlk (s_1 hf) (s_2 hf) dX8_lineOf_69
      · have hf := i_f hf c6
        by_cases c9 : p2 = (2 : Int32)
        · have hf := i_t hf c9
          refine lv_tableIn (tgt := 70) hx hb dX8_lineOf_15 (by rw [c9]; decide) (by rw [c9]; decide) (by rw [c9] <;> rfl) (by decide) ?_
          refine lv_aload_n hx hb dX8_lineOf_70 rfl (lv_at hl 0 rfl) ?_
          refine fg8_5 hB hW tl0 wd2_96 dX8_lineOf_71 ?_
          refine fg6_1 hB hW tl126 wd2_64 dX8_lineOf_74 ?_
          refine fg2_4 hB hW tl127 wd2_6 dX8_lineOf_77 ?_
          exact e_i hB hW hS hr hlk (s_1 hf) (s_2 hf) dX8_lineOf_80
        · have hf := i_f hf c9
          by_cases c10 : p2 = (3 : Int32)
          · have hf := i_t hf c10
            refine lv_tableIn (tgt := 81) hx hb dX8_lineOf_15 (by rw [c10]; decide) (by rw [c10]; decide) (by rw [c10] <;> rfl) (by decide) ?_
            refine lv_aload_n hx hb dX8_lineOf_81 rfl (lv_at hl 0 rfl) ?_
            refine fg8_5 hB hW tl0 wd2_96 dX8_lineOf_82 ?_
            refine fg6_1 hB hW tl126 wd2_64 dX8_lineOf_85 ?_
            refine fg2_3 hB hW tl127 wd2_3 dX8_lineOf_88 ?_
            exact e_i hB hW hS hr hlk (s_1 hf) (s_2 hf) dX8_lineOf_91
          · have hf := i_f hf c10
            by_cases c11 : p2 = (4 : Int32)
            · have hf := i_t hf c11
              refine lv_tableIn (tgt := 92) hx hb dX8_lineOf_15 (by rw [c11]; decide) (by rw [c11]; decide) (by rw [c11] <;> rfl) (by decide) ?_
              refine lv_aload_n hx hb dX8_lineOf_92 rfl (lv_at hl 0 rfl) ?_
              refine fg8_5 hB hW tl0 wd2_96 dX8_lineOf_93 ?_
              refine fg6_1 hB hW tl126 wd2_64 dX8_lineOf_96 ?_
              refine fg2_5 hB hW tl127 wd2_9 dX8_lineOf_99 ?_
              exact e_i hB hW hS hr hlk (s_1 hf) (s_2 hf) dX8_lineOf_102
            · have hf := i_f hf c11
              refine lv_tableOut (tgt := 103) hx hb dX8_lineOf_15 (sw_out (lo := 0) (hi := 4) (fun v h1 h2 hv => ?_)) (by decide) ?_
              · rcases (show v = 0 ∨ v = 1 ∨ v = 2 ∨ v = 3 ∨ v = 4 by omega) with rfl | rfl | rfl | rfl | rfl
                · exact c5 hv
                · exact c6 hv
                · exact c9 hv
                · exact c10 hv
                · exact c11 hv
              · skip
                refine lv_aload_n hx hb dX8_lineOf_103 rfl (lv_at hl 0 rfl) ?_
                refine lv_bipush (v := (-2 : Int32)) hx hb dX8_lineOf_104 (by decide) ?_
                obtain ⟨x12, M13, hg14, hf⟩ := b_o2 hf
                refine x_ci hB (x_rv hB hW hS (As := [.int (-2 : Int32)]) (rest := []) (ct_X8_refuse l G hg14) (cl_RX8_50 hB.2.2.2.2.1 ⟨Nat.le_of_ble_eq_true rfl, Nat.le_of_ble_eq_true rfl⟩) tl0 (by decide) rfl rfl hl.1 rfl (Nat.le_of_ble_eq_true rfl) dX8_lineOf_106 ⟨Nat.le_refl _, Nat.le_refl _⟩) hS (fun H locs hW hS => ?_)
                exact e_i hB hW hS hr hlk (s_1 hf) (s_2 hf) dX8_lineOf_109
  · have hf := i_t hf c4
    refine lv_aload_n hx hb dX8_lineOf_8 rfl (lv_at hl 0 rfl) ?_
    refine lv_iconst (v := (-1 : Int32)) hx hb dX8_lineOf_9 (by decide) ?_
    obtain ⟨x15, M16, hg17, hf⟩ := b_o2 hf
    refine x_ci hB (x_rv hB hW hS (As := [.int (-1 : Int32)]) (rest := []) (ct_X8_refuse l G hg17) (cl_RX8_50 hB.2.2.2.2.1 ⟨Nat.le_of_ble_eq_true rfl, Nat.le_of_ble_eq_true rfl⟩) tl0 (by decide) rfl rfl hl.1 rfl (Nat.le_of_ble_eq_true rfl) dX8_lineOf_10 ⟨Nat.le_refl _, Nat.le_refl _⟩) hS (fun H locs hW hS => ?_)
    exact e_i hB hW hS hr hlk (s_1 hf) (s_2 hf) dX8_lineOf_13
def f_X8_bitsOf_L54  (K14 : UInt32 → Int32 → Int32 → Option (UInt32 × Int32)) (x11 : UInt32) (x12 : Int32) (x13 : Int32) : Option (UInt32 × Int32) := (if (128 : Int32) ≤ x13 then (some (x11, x12)) else (if 0 ≤ (fcg x11 FP.fconst1) then (some (x11, x12)) else (nmq (FP.fmul x11 FP.fconst2) (fun (x30 : UInt32) => gq (nN x30) (nmq (x12 + (-1 : Int32)) (fun (x32 : Int32) => nmq (x13 + (1 : Int32)) (fun (x33 : Int32) => (K14 x30 x32 x33))))))))
def f_X8_bitsOf_L26  (K7 : UInt32 → Int32 → Int32 → Option (UInt32 × Int32)) (x4 : UInt32) (x5 : Int32) (x6 : Int32) : Option (UInt32 × Int32) := (if (128 : Int32) ≤ x6 then (some (x4, x5)) else (if (fcl x4 FP.fconst2) < 0 then (some (x4, x5)) else (nmq (FP.fdiv x4 FP.fconst2) (fun (x39 : UInt32) => gq (nN x39) (nmq (x5 + (1 : Int32)) (fun (x41 : Int32) => nmq (x6 + (1 : Int32)) (fun (x42 : Int32) => (K7 x39 x41 x42))))))))
def f_X8_bitsOf (p1 : UInt32) : Option Int32 := (if (fcl p1 FP.fconst0) = 0 then some (0 : Int32) else (nmq ((if 0 ≤ (fcg p1 FP.fconst0) then (p1) else ((FP.fneg p1)))) (fun (x2 : UInt32) => (bq2 (lq3 f_X8_bitsOf_L26 FU x2 (127 : Int32) (0 : Int32)) (fun (x9 : UInt32) (x10 : Int32) => (bq2 (lq3 f_X8_bitsOf_L54 FU x9 x10 (0 : Int32)) (fun (x16 : UInt32) (x17 : Int32) => (nmq (FP.fmul x16 (1258291200 : UInt32)) (fun (x18 : UInt32) => gq (nN x18) (nmq (((FP.f2i x18) - (8388608 : Int32))) (fun (x20 : Int32) => (nmq ((if 0 ≤ (fcg p1 FP.fconst0) then ((0 : Int32)) else ((-2147483648 : Int32)))) (fun (x21 : Int32) => some ((x21 ||| (ishl_ x17 (23 : Int32))) ||| x20))))))))))))))
set_option maxHeartbeats 4000000 in
set_option maxRecDepth 100000 in
theorem ct_X8_bitsOf (l : Launch) (G : GG) {p1 : UInt32} {M : Mem} {r : Int32}  (hf : f_X8_bitsOf p1 = some r) : Met l yX8_bitsOf (wsq yX8_bitsOf cX8_bitsOf 4 (some .int)) (rmq 0 0) (va_Pc [.float p1] (World G M)) (Qi G r M) 0 0 (adA G) := by
  refine x_start (plainFor_of_name (by decide)) (Nat.le_of_ble_eq_true rfl) ?_
  intro p e s m args below meth c hB hr hlk hW hS ls hl
  have hx := hB.x
  have hb := hB.b
  have hl : lv_has ls 4 [(0, .float p1)] := hl
  unfold f_X8_bitsOf at hf
  refine lv_fload_n hx hb dX8_bitsOf_0 rfl (lv_at hl 0 rfl) ?_
  refine lv_fconst0 hx hb dX8_bitsOf_1 ?_
  refine lv_fcmp hx hb dX8_bitsOf_2 ?_
  refine lv_if_ne (tgt := 8) hx hb dX8_bitsOf_3 (by decide) (fun c1 => ?_) (fun c1 => ?_)
  · have hf := i_f hf c1
    refine lv_fload_n hx hb dX8_bitsOf_8 rfl (lv_at hl 0 rfl) ?_
    refine lv_fconst0 hx hb dX8_bitsOf_9 ?_
    refine lv_fcmp hx hb dX8_bitsOf_10 ?_
    obtain ⟨y43, evy43⟩ : ∃ z : UInt32, (if 0 ≤ (fcg p1 FP.fconst0) then (p1) else ((FP.fneg p1))) = z := ⟨_, rfl⟩
    have hf := nm_o hf evy43.symm
    have main3 : ∀ (x2 : UInt32) (H : Heap) (locs : List Loc) (ls : Array Slot), Wd G M H → va_S (adA G) s.heap H locs → lv_has ls 4 [(0, .float p1)] → x2 = y43 → W p l e (rmq 0 0) s m args below meth c H locs 0 0 (MQ below (Qi G r M) args s 0 0 (adA G)) (F0 m 20 ls [.float x2]) := by
      intro x2 H locs ls hW hS hl hE
      have hE := hE.symm
      subst hE
      refine lv_fstore_n (lv' := [(1, .float y43), (0, .float p1)]) hx hb dX8_bitsOf_20 rfl hl (by decide) rfl (fun ls hl => ?_)
      refine lv_bipush (v := (127 : Int32)) hx hb dX8_bitsOf_21 (by decide) ?_
      refine lv_istore_n (lv' := [(2, .int (127 : Int32)), (1, .float y43), (0, .float p1)]) hx hb dX8_bitsOf_23 rfl hl (by decide) rfl (fun ls hl => ?_)
      refine lv_iconst (v := (0 : Int32)) hx hb dX8_bitsOf_24 (by decide) ?_
      refine lv_istore_n (lv' := [(3, .int (0 : Int32)), (2, .int (127 : Int32)), (1, .float y43), (0, .float p1)]) hx hb dX8_bitsOf_25 rfl hl (by decide) rfl (fun ls hl => ?_)
      obtain ⟨y34, y35, hL, hf⟩ := b_o2 hf
      have main36 : ∀ (x9 : UInt32) (x10 : Int32) (H : Heap) (locs : List Loc) (ls : Array Slot), Wd G M H → va_S (adA G) s.heap H locs → lv_has ls 4 [(0, .float p1), (1, .float x9), (2, .int x10)] → some (x9, x10) = some (y34, y35) → W p l e (rmq 0 0) s m args below meth c H locs 0 0 (MQ below (Qi G r M) args s 0 0 (adA G)) (F0 m 52 ls []) := by
        intro x9 x10 H locs ls hW hS hl hE
        cases hE
        refine lv_iconst (v := (0 : Int32)) hx hb dX8_bitsOf_52 (by decide) ?_
        refine lv_istore_n (lv' := [(3, .int (0 : Int32)), (0, .float p1), (1, .float y34), (2, .int y35)]) hx hb dX8_bitsOf_53 rfl hl (by decide) rfl (fun ls hl => ?_)
        obtain ⟨y25, y26, hL, hf⟩ := b_o2 hf
        have main27 : ∀ (x16 : UInt32) (x17 : Int32) (H : Heap) (locs : List Loc) (ls : Array Slot), Wd G M H → va_S (adA G) s.heap H locs → lv_has ls 4 [(0, .float p1), (1, .float x16), (2, .int x17)] → some (x16, x17) = some (y25, y26) → W p l e (rmq 0 0) s m args below meth c H locs 0 0 (MQ below (Qi G r M) args s 0 0 (adA G)) (F0 m 80 ls []) := by
          intro x16 x17 H locs ls hW hS hl hE
          cases hE
          refine lv_fload_n hx hb dX8_bitsOf_80 rfl (lv_at hl 1 rfl) ?_
          refine x_ldcfw hB wd4_162 dX8_bitsOf_81 ?_
          obtain ⟨x18, ex18⟩ : ∃ y : UInt32, y = FP.fmul y25 (1258291200 : UInt32) := ⟨_, rfl⟩
          have hf := nm_o hf ex18
          obtain ⟨h19, hf⟩ := g_o hf
          refine y_fmul hB ex18 h19 dX8_bitsOf_84 ?_
          refine lv_f2i hx hb dX8_bitsOf_85 ?_
          refine lv_ldcw (v := (8388608 : Int32)) hx hb hB.ow (hB.w wd4_163) dX8_bitsOf_86 ?_
          refine lv_isub hx hb dX8_bitsOf_89 ?_
          refine lv_topi (fun x20 ex20 => ?_)
          have hf := nm_o hf ex20
          refine lv_istore_n (lv' := [(3, .int x20), (0, .float p1), (1, .float y25), (2, .int y26)]) hx hb dX8_bitsOf_90 rfl hl (by decide) rfl (fun ls hl => ?_)
          refine lv_fload_n hx hb dX8_bitsOf_91 rfl (lv_at hl 1 rfl) ?_
          refine lv_fconst0 hx hb dX8_bitsOf_92 ?_
          refine lv_fcmp hx hb dX8_bitsOf_93 ?_
          obtain ⟨y23, evy23⟩ : ∃ z : Int32, (if 0 ≤ (fcg p1 FP.fconst0) then ((0 : Int32)) else ((-2147483648 : Int32))) = z := ⟨_, rfl⟩
          have hf := nm_o hf evy23.symm
          have main22 : ∀ (x21 : Int32) (H : Heap) (locs : List Loc) (ls : Array Slot), Wd G M H → va_S (adA G) s.heap H locs → lv_has ls 4 [(2, .int y26), (3, .int x20)] → x21 = y23 → W p l e (rmq 0 0) s m args below meth c H locs 0 0 (MQ below (Qi G r M) args s 0 0 (adA G)) (F0 m 104 ls [.int x21]) := by
            intro x21 H locs ls hW hS hl hE
            have hE := hE.symm
            subst hE
            refine lv_iload_n hx hb dX8_bitsOf_104 rfl (lv_at hl 0 rfl) ?_
            refine lv_bipush (v := (23 : Int32)) hx hb dX8_bitsOf_105 (by decide) ?_
            refine lv_ishl hx hb dX8_bitsOf_107 ?_
            refine lv_ior hx hb dX8_bitsOf_108 ?_
            refine lv_iload_n hx hb dX8_bitsOf_109 rfl (lv_at hl 1 rfl) ?_
            refine lv_ior hx hb dX8_bitsOf_110 ?_
            exact e_i hB hW hS hr hlk (Option.some.inj hf) rfl dX8_bitsOf_111
          have hf := evy23
          refine lv_if_ge (tgt := 103) hx hb dX8_bitsOf_94 (by decide) (fun c24 => ?_) (fun c24 => ?_)
          · have hf := i_t hf c24
            refine lv_iconst (v := (0 : Int32)) hx hb dX8_bitsOf_103 (by decide) ?_
            exact main22 (0 : Int32) _ _ ls hW hS (lv_sub hl [3, 0] rfl) hf
          · have hf := i_f hf c24
            refine lv_ldcw (v := (-2147483648 : Int32)) hx hb hB.ow (hB.w wd4_164) dX8_bitsOf_97 ?_
            refine lv_goto (tgt := 104) hx hb dX8_bitsOf_100 (by decide) ?_
            exact main22 (-2147483648 : Int32) _ _ ls hW hS (lv_sub hl [3, 0] rfl) hf
        have loop15 : ∀ (n : Nat) (x11 : UInt32) (x12 : Int32) (x13 : Int32) (H : Heap) (locs : List Loc) (ls : Array Slot), Wd G M H → va_S (adA G) s.heap H locs → lv_has ls 4 [(0, .float p1), (1, .float x11), (2, .int x12), (3, .int x13)] → lq3 f_X8_bitsOf_L54 n x11 x12 x13 = some (y25, y26) → W p l e (rmq 0 0) s m args below meth c H locs 0 0 (MQ below (Qi G r M) args s 0 0 (adA G)) (F0 m 54 ls []) := by
          intro n
          induction n with
          | zero => intro x11 x12 x13 H locs ls hW hS hl hf; exact (l_z3 hf).elim
          | succ n ih =>
            intro x11 x12 x13 H locs ls hW hS hl hf
            have hf := l_s3 hf
            generalize lq3 f_X8_bitsOf_L54 n = K14 at ih hf
            unfold f_X8_bitsOf_L54 at hf
            refine lv_iload_n hx hb dX8_bitsOf_54 rfl (lv_at hl 3 rfl) ?_
            refine lv_sipush (v := (128 : Int32)) hx hb dX8_bitsOf_55 (by decide) ?_
            refine lv_icmp_ge (tgt := 80) hx hb dX8_bitsOf_58 (by decide) (fun c28 => ?_) (fun c28 => ?_)
            · have hf := i_t hf c28
              exact main27 x11 x12 _ _ ls hW hS (lv_sub hl [0, 1, 2] rfl) hf
            · have hf := i_f hf c28
              refine lv_fload_n hx hb dX8_bitsOf_61 rfl (lv_at hl 1 rfl) ?_
              refine lv_fconst1 hx hb dX8_bitsOf_62 ?_
              refine lv_fcmp hx hb dX8_bitsOf_63 ?_
              refine lv_if_ge (tgt := 80) hx hb dX8_bitsOf_64 (by decide) (fun c29 => ?_) (fun c29 => ?_)
              · have hf := i_t hf c29
                exact main27 x11 x12 _ _ ls hW hS (lv_sub hl [0, 1, 2] rfl) hf
              · have hf := i_f hf c29
                refine lv_fload_n hx hb dX8_bitsOf_67 rfl (lv_at hl 1 rfl) ?_
                refine lv_fconst2 hx hb dX8_bitsOf_68 ?_
                obtain ⟨x30, ex30⟩ : ∃ y : UInt32, y = FP.fmul x11 FP.fconst2 := ⟨_, rfl⟩
                have hf := nm_o hf ex30
                obtain ⟨h31, hf⟩ := g_o hf
                refine y_fmul hB ex30 h31 dX8_bitsOf_69 ?_
                refine lv_fstore_n (lv' := [(1, .float x30), (0, .float p1), (2, .int x12), (3, .int x13)]) hx hb dX8_bitsOf_70 rfl hl (by decide) rfl (fun ls hl => ?_)
                obtain ⟨x32, ex32⟩ : ∃ y : Int32, y = x12 + (-1 : Int32) := ⟨_, rfl⟩
                have hf := nm_o hf ex32
                refine lv_iinc (v := x32) (lv' := [(2, .int x32), (1, .float x30), (0, .float p1), (3, .int x13)]) hx hb dX8_bitsOf_71 hl (k := 2) rfl (by rw [ex32]; rfl) (by decide) rfl (fun ls hl => ?_)
                obtain ⟨x33, ex33⟩ : ∃ y : Int32, y = x13 + (1 : Int32) := ⟨_, rfl⟩
                have hf := nm_o hf ex33
                refine lv_iinc (v := x33) (lv' := [(3, .int x33), (2, .int x32), (1, .float x30), (0, .float p1)]) hx hb dX8_bitsOf_74 hl (k := 3) rfl (by rw [ex33]; rfl) (by decide) rfl (fun ls hl => ?_)
                refine lv_goto (tgt := 54) hx hb dX8_bitsOf_77 (by decide) ?_
                exact ih x30 x32 x33 _ _ ls hW hS (lv_sub hl [3, 2, 1, 0] rfl) hf
        exact loop15 FU y34 y35 (0 : Int32) _ _ ls hW hS (lv_sub hl [1, 2, 3, 0] rfl) hL
      have loop8 : ∀ (n : Nat) (x4 : UInt32) (x5 : Int32) (x6 : Int32) (H : Heap) (locs : List Loc) (ls : Array Slot), Wd G M H → va_S (adA G) s.heap H locs → lv_has ls 4 [(0, .float p1), (1, .float x4), (2, .int x5), (3, .int x6)] → lq3 f_X8_bitsOf_L26 n x4 x5 x6 = some (y34, y35) → W p l e (rmq 0 0) s m args below meth c H locs 0 0 (MQ below (Qi G r M) args s 0 0 (adA G)) (F0 m 26 ls []) := by
        intro n
        induction n with
        | zero => intro x4 x5 x6 H locs ls hW hS hl hf; exact (l_z3 hf).elim
        | succ n ih =>
          intro x4 x5 x6 H locs ls hW hS hl hf
          have hf := l_s3 hf
          generalize lq3 f_X8_bitsOf_L26 n = K7 at ih hf
          unfold f_X8_bitsOf_L26 at hf
          refine lv_iload_n hx hb dX8_bitsOf_26 rfl (lv_at hl 3 rfl) ?_
          refine lv_sipush (v := (128 : Int32)) hx hb dX8_bitsOf_27 (by decide) ?_
          refine lv_icmp_ge (tgt := 52) hx hb dX8_bitsOf_30 (by decide) (fun c37 => ?_) (fun c37 => ?_)
          · have hf := i_t hf c37
            exact main36 x4 x5 _ _ ls hW hS (lv_sub hl [0, 1, 2] rfl) hf
          · have hf := i_f hf c37
            refine lv_fload_n hx hb dX8_bitsOf_33 rfl (lv_at hl 1 rfl) ?_
            refine lv_fconst2 hx hb dX8_bitsOf_34 ?_
            refine lv_fcmp hx hb dX8_bitsOf_35 ?_
            refine lv_if_lt (tgt := 52) hx hb dX8_bitsOf_36 (by decide) (fun c38 => ?_) (fun c38 => ?_)
            · have hf := i_t hf c38
              exact main36 x4 x5 _ _ ls hW hS (lv_sub hl [0, 1, 2] rfl) hf
            · have hf := i_f hf c38
              refine lv_fload_n hx hb dX8_bitsOf_39 rfl (lv_at hl 1 rfl) ?_
              refine lv_fconst2 hx hb dX8_bitsOf_40 ?_
              obtain ⟨x39, ex39⟩ : ∃ y : UInt32, y = FP.fdiv x4 FP.fconst2 := ⟨_, rfl⟩
              have hf := nm_o hf ex39
              obtain ⟨h40, hf⟩ := g_o hf
              refine y_fdiv hB ex39 h40 dX8_bitsOf_41 ?_
              refine lv_fstore_n (lv' := [(1, .float x39), (0, .float p1), (2, .int x5), (3, .int x6)]) hx hb dX8_bitsOf_42 rfl hl (by decide) rfl (fun ls hl => ?_)
              obtain ⟨x41, ex41⟩ : ∃ y : Int32, y = x5 + (1 : Int32) := ⟨_, rfl⟩
              have hf := nm_o hf ex41
              refine lv_iinc (v := x41) (lv' := [(2, .int x41), (1, .float x39), (0, .float p1), (3, .int x6)]) hx hb dX8_bitsOf_43 hl (k := 2) rfl (by rw [ex41]; rfl) (by decide) rfl (fun ls hl => ?_)
              obtain ⟨x42, ex42⟩ : ∃ y : Int32, y = x6 + (1 : Int32) := ⟨_, rfl⟩
              have hf := nm_o hf ex42
              refine lv_iinc (v := x42) (lv' := [(3, .int x42), (2, .int x41), (1, .float x39), (0, .float p1)]) hx hb dX8_bitsOf_46 hl (k := 3) rfl (by rw [ex42]; rfl) (by decide) rfl (fun ls hl => ?_)
              refine lv_goto (tgt := 26) hx hb dX8_bitsOf_49 (by decide) ?_
              exact ih x39 x41 x42 _ _ ls hW hS (lv_sub hl [3, 2, 1, 0] rfl) hf
      exact loop8 FU y43 (127 : Int32) (0 : Int32) _ _ ls hW hS (lv_sub hl [3, 2, 1, 0] rfl) hL
    have hf := evy43
    refine lv_if_ge (tgt := 19) hx hb dX8_bitsOf_11 (by decide) (fun c44 => ?_) (fun c44 => ?_)
    · have hf := i_t hf c44
      refine lv_fload_n hx hb dX8_bitsOf_19 rfl (lv_at hl 0 rfl) ?_
      exact main3 p1 _ _ ls hW hS (lv_sub hl [0] rfl) hf
    · have hf := i_f hf c44
      refine lv_fload_n hx hb dX8_bitsOf_14 rfl (lv_at hl 0 rfl) ?_
      refine lv_fneg hx hb dX8_bitsOf_15 ?_
      refine lv_goto (tgt := 20) hx hb dX8_bitsOf_16 (by decide) ?_
      exact main3 (FP.fneg p1) _ _ ls hW hS (lv_sub hl [0] rfl) hf
  · have hf := i_t hf c1
    refine lv_iconst (v := (0 : Int32)) hx hb dX8_bitsOf_6 (by decide) ?_
    exact e_i hB hW hS hr hlk (Option.some.inj hf) rfl dX8_bitsOf_7
theorem cl_RX8_276 {R : Room} {s : State} {args : Array Value} (ht : ∀ w ∈ lw_all, w.before args s = true) (hR : 0 + 1 ≤ R.frames ∧ 8 + (4 + 11) + 0 ≤ R.locals) : CallB R s args RX8 276 yX8_bitsOf cX8_bitsOf 4 (some .int) (wsq yX8_bitsOf cX8_bitsOf 4 (some .int)) (rmq 0 0) 0 0 1 ∧ (Cond.static yX8_bitsOf).before args s = true := va_cwS 1 ht (goodS wd4_159 wd4_160 wd1_1 wd4_161) rfl rfl rfl (by decide +kernel) hR
def f_X8_ratio (p1 : Int32) (M : Mem) : Option (Int32 × Mem) := (bq2 (f_X8_showLine p1 M) (fun (x1 : Int32) (M2 : Mem) => (if x1 = 0 then some ((0 : Int32), M2) else (bq1 (f_X8_bitsOf (gf M2 127 6)) (fun (x5 : Int32) => some (x5, M2))))))
set_option maxHeartbeats 4000000 in
set_option maxRecDepth 100000 in
theorem ct_X8_ratio (l : Launch) (G : GG) {p1 : Int32} {M : Mem} {r : Int32} {Mr : Mem}  (hf : f_X8_ratio p1 M = some (r, Mr)) : Met l yX8_ratio (wsq yX8_ratio cX8_ratio 2 (some .int)) (rmq 6 151) (va_Pc [.ref (G.2.2.1 0), .int p1] (World G M)) (Qi G r Mr) 0 0 (adA G) := by
  refine x_start (plainFor_of_name (by decide)) (Nat.le_of_ble_eq_true rfl) ?_
  intro p e s m args below meth c hB hr hlk hW hS ls hl
  have hx := hB.x
  have hb := hB.b
  have hl : lv_has ls 2 [(0, .ref (G.2.2.1 0)), (1, .int p1)] := hl
  unfold f_X8_ratio at hf
  refine lv_aload_n hx hb dX8_ratio_0 rfl (lv_at hl 0 rfl) ?_
  refine lv_iload_n hx hb dX8_ratio_1 rfl (lv_at hl 1 rfl) ?_
  obtain ⟨x1, M2, hg3, hf⟩ := b_o2 hf
  refine x_ci hB (x_rv hB hW hS (As := [.int p1]) (rest := []) (ct_X8_showLine l G hg3) (cl_RX8_250 hB.2.2.2.2.1 ⟨Nat.le_of_ble_eq_true rfl, Nat.le_of_ble_eq_true rfl⟩) tl0 (by decide) rfl rfl hl.1 rfl (Nat.le_of_ble_eq_true rfl) dX8_ratio_2 ⟨Nat.le_refl _, Nat.le_refl _⟩) hS (fun H locs hW hS => ?_)
  refine lv_if_eq (tgt := 24) hx hb dX8_ratio_5 (by decide) (fun c4 => ?_) (fun c4 => ?_)
  · have hf := i_t hf c4
    refine lv_iconst (v := (0 : Int32)) hx hb dX8_ratio_24 (by decide) ?_
    exact e_i hB hW hS hr hlk (s_1 hf) (s_2 hf) dX8_ratio_25
  · have hf := i_f hf c4
    refine lv_aload_n hx hb dX8_ratio_8 rfl (lv_at hl 0 rfl) ?_
    refine fg8_5 hB hW tl0 wd2_96 dX8_ratio_9 ?_
    refine fg6_1 hB hW tl126 wd2_64 dX8_ratio_12 ?_
    refine fg2_6 hB hW tl127 wd2_12 dX8_ratio_15 ?_
    obtain ⟨x5, hg6, hf⟩ := b_o1 hf
    refine x_ci hB (x_rs hB hW hS (As := [.float (gf M2 127 6)]) (rest := []) (ct_X8_bitsOf l G hg6) (cl_RX8_276 hB.2.2.2.2.1 ⟨Nat.le_of_ble_eq_true rfl, Nat.le_of_ble_eq_true rfl⟩) rfl hl.1 rfl (Nat.le_of_ble_eq_true rfl) dX8_ratio_18 ⟨Nat.le_refl _, Nat.le_refl _⟩) hS (fun H locs hW hS => ?_)
    refine lv_goto (tgt := 25) hx hb dX8_ratio_21 (by decide) ?_
    exact e_i hB hW hS hr hlk (s_1 hf) (s_2 hf) dX8_ratio_25
