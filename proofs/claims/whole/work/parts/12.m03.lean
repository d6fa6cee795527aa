theorem cl_RX8_146 {R : Room} {s : State} {args : Array Value} (ht : ∀ w ∈ lw_all, w.before args s = true) (hR : 0 + 1 ≤ R.frames ∧ 8 + (3 + 11) + 0 ≤ R.locals) : CallB R s args RX8 146 yX8_glueFault cX8_glueFault 3 (some .int) (wsq yX8_glueFault cX8_glueFault 3 (some .int)) (rmq 0 0) 0 0 3 ∧ (Cond.static yX8_glueFault).before args s = true := va_cwS 3 ht (goodS wd3_137 wd3_46 wd1_1 wd3_47) rfl rfl rfl (by decide +kernel) hR
theorem cl_RX8_158 {R : Room} {s : State} {args : Array Value} (ht : ∀ w ∈ lw_all, w.before args s = true) (hR : 0 + 1 ≤ R.frames ∧ 8 + (4 + 11) + 0 ≤ R.locals) : CallW R s args RX8 RX3 158 yX3_takeGlue cX3_takeGlue 4 none (wsq yX3_takeGlue cX3_takeGlue 4 none) (rmq 0 0) 0 0 3 := cwV 3 ht (goodV wd3_138 wd2_212 wd2_213 wd1_2 wd2_214) rfl rfl rfl (by decide +kernel) hR
def f_X8_glue (p1 : Int32) (p2 : Int32) (p3 : Int32) (M : Mem) : Option (Int32 × Mem) := (bq1 (f_X8_glueFault p1 p2 p3) (fun (x1 : Int32) => (if x1 = 0 then (bq1 (f_X1_remember 1 M) (fun (M4 : Mem) => nmq (((((100 : Int32) * (gi M4 1 4)) + ((10 : Int32) * (gi M4 1 5))) + (gi M4 1 6))) (fun (x6 : Int32) => bq1 (f_X3_takeGlue 1 p1 p2 p3 M4) (fun (M7 : Mem) => some (x6, M7))))) else (bq2 (f_X8_refuse x1 M) (fun (x9 : Int32) (M10 : Mem) => some (x9, M10))))))
set_option maxHeartbeats 4000000 in
set_option maxRecDepth 100000 in
theorem ct_X8_glue (l : Launch) (G : GG) {p1 : Int32} {p2 : Int32} {p3 : Int32} {M : Mem} {r : Int32} {Mr : Mem}  (hf : f_X8_glue p1 p2 p3 M = some (r, Mr)) : Met l yX8_glue (wsq yX8_glue cX8_glue 6 (some .int)) (rmq 5 106) (va_Pc [.ref (G.2.2.1 0), .int p1, .int p2, .int p3] (World G M)) (Qi G r Mr) 0 0 (adA G) := by
  refine x_start (plainFor_of_name (by decide)) (Nat.le_of_ble_eq_true rfl) ?_
  intro p e s m args below meth c hB hr hlk hW hS ls hl
  have hx := hB.x
  have hb := hB.b
  have hl : lv_has ls 6 [(0, .ref (G.2.2.1 0)), (1, .int p1), (2, .int p2), (3, .int p3)] := hl
  unfold f_X8_glue at hf
  refine lv_iload_n hx hb dX8_glue_0 rfl (lv_at hl 1 rfl) ?_
  refine lv_iload_n hx hb dX8_glue_1 rfl (lv_at hl 2 rfl) ?_
  refine lv_iload_n hx hb dX8_glue_2 rfl (lv_at hl 3 rfl) ?_
  obtain ⟨x1, hg2, hf⟩ := b_o1 hf
  refine x_ci hB (x_rs hB hW hS (As := [.int p1, .int p2, .int p3]) (rest := []) (ct_X8_glueFault l G hg2) (cl_RX8_146 hB.2.2.2.2.1 ⟨Nat.le_of_ble_eq_true rfl, Nat.le_of_ble_eq_true rfl⟩) rfl hl.1 rfl (Nat.le_of_ble_eq_true rfl) dX8_glue_3 ⟨Nat.le_refl _, Nat.le_refl _⟩) hS (fun H locs hW hS => ?_)
  refine lv_istore (lv' := [(4, .int x1), (0, .ref (G.2.2.1 0)), (1, .int p1), (2, .int p2), (3, .int p3)]) hx hb dX8_glue_6 hl (by decide) rfl (fun ls hl => ?_)
  refine lv_iload hx hb dX8_glue_8 (lv_at hl 0 rfl) ?_
  refine lv_if_eq (tgt := 20) hx hb dX8_glue_10 (by decide) (fun c3 => ?_) (fun c3 => ?_)
  · have hf := i_t hf c3
    refine lv_aload_n hx hb dX8_glue_20 rfl (lv_at hl 1 rfl) ?_
    refine fg8_3 hB hW tl0 wd2_94 dX8_glue_21 ?_
    refine lv_aload_n hx hb dX8_glue_24 rfl (lv_at hl 1 rfl) ?_
    refine fg8_0 hB hW tl0 wd2_91 dX8_glue_25 ?_
    obtain ⟨M4, hg5, hf⟩ := b_o1 hf
    refine x_cv hB (x_rv hB hW hS (As := [.ref (G.2.2.1 1)]) (rest := []) (ct_X1_remember l G tl1 hg5) (cl_RX8_89 hB.2.2.2.2.1 ⟨Nat.le_of_ble_eq_true rfl, Nat.le_of_ble_eq_true rfl⟩) tl34 (by decide) rfl rfl hl.1 rfl (Nat.le_of_ble_eq_true rfl) dX8_glue_28 ⟨Nat.le_refl _, Nat.le_refl _⟩) hS (fun H locs hW hS => ?_)
    refine lv_bipush (v := (100 : Int32)) hx hb dX8_glue_31 (by decide) ?_
    refine lv_aload_n hx hb dX8_glue_33 rfl (lv_at hl 1 rfl) ?_
    refine fg8_0 hB hW tl0 wd2_91 dX8_glue_34 ?_
    refine fg3_4 hB hW tl1 wd1_106 dX8_glue_37 ?_
    refine lv_imul hx hb dX8_glue_40 ?_
    refine lv_bipush (v := (10 : Int32)) hx hb dX8_glue_41 (by decide) ?_
    refine lv_aload_n hx hb dX8_glue_43 rfl (lv_at hl 1 rfl) ?_
    refine fg8_0 hB hW tl0 wd2_91 dX8_glue_44 ?_
    refine fg3_5 hB hW tl1 wd1_108 dX8_glue_47 ?_
    refine lv_imul hx hb dX8_glue_50 ?_
    refine lv_iadd hx hb dX8_glue_51 ?_
    refine lv_aload_n hx hb dX8_glue_52 rfl (lv_at hl 1 rfl) ?_
    refine fg8_0 hB hW tl0 wd2_91 dX8_glue_53 ?_
    refine fg3_6 hB hW tl1 wd1_110 dX8_glue_56 ?_
    refine lv_iadd hx hb dX8_glue_59 ?_
    refine lv_topi (fun x6 ex6 => ?_)
    have hf := nm_o hf ex6
    refine lv_istore (lv' := [(5, .int x6), (4, .int x1), (0, .ref (G.2.2.1 0)), (1, .int p1), (2, .int p2), (3, .int p3)]) hx hb dX8_glue_60 hl (by decide) rfl (fun ls hl => ?_)
    refine lv_aload_n hx hb dX8_glue_62 rfl (lv_at hl 2 rfl) ?_
    refine fg8_0 hB hW tl0 wd2_91 dX8_glue_63 ?_
    refine lv_iload_n hx hb dX8_glue_66 rfl (lv_at hl 3 rfl) ?_
    refine lv_iload_n hx hb dX8_glue_67 rfl (lv_at hl 4 rfl) ?_
    refine lv_iload_n hx hb dX8_glue_68 rfl (lv_at hl 5 rfl) ?_
    obtain ⟨M7, hg8, hf⟩ := b_o1 hf
    refine x_cv hB (x_rv hB hW hS (As := [.int p1, .int p2, .int p3]) (rest := []) (ct_X3_takeGlue l G tl1 hg8) (cl_RX8_158 hB.2.2.2.2.1 ⟨Nat.le_of_ble_eq_true rfl, Nat.le_of_ble_eq_true rfl⟩) tl1 (by decide) rfl rfl hl.1 rfl (Nat.le_of_ble_eq_true rfl) dX8_glue_69 ⟨Nat.le_refl _, Nat.le_refl _⟩) hS (fun H locs hW hS => ?_)
    refine lv_iload hx hb dX8_glue_72 (lv_at hl 0 rfl) ?_
    exact e_i hB hW hS hr hlk (s_1 hf) (s_2 hf) dX8_glue_74
  · have hf := i_f hf c3
    refine lv_aload_n hx hb dX8_glue_13 rfl (lv_at hl 1 rfl) ?_
    refine lv_iload hx hb dX8_glue_14 (lv_at hl 0 rfl) ?_
    obtain ⟨x9, M10, hg11, hf⟩ := b_o2 hf
    refine x_ci hB (x_rv hB hW hS (As := [.int x1]) (rest := []) (ct_X8_refuse l G hg11) (cl_RX8_50 hB.2.2.2.2.1 ⟨Nat.le_of_ble_eq_true rfl, Nat.le_of_ble_eq_true rfl⟩) tl0 (by decide) rfl rfl hl.1 rfl (Nat.le_of_ble_eq_true rfl) dX8_glue_16 ⟨Nat.le_refl _, Nat.le_refl _⟩) hS (fun H locs hW hS => ?_)
    exact e_i hB hW hS hr hlk (s_1 hf) (s_2 hf) dX8_glue_19
def f_X8_tolerance (p1 : Int32) (M : Mem) : Option (Int32 × Mem) := (bq1 (f_X8_outside p1 (0 : Int32) (40 : Int32)) (fun (x1 : Int32) => (if x1 = 0 then (bq1 (f_X1_remember 1 M) (fun (M4 : Mem) => nmq ((gi M4 1 7)) (fun (x6 : Int32) => nmq (si M4 1 7 p1) (fun (M7 : Mem) => some (x6, M7))))) else (bq2 (f_X8_refuse x1 M) (fun (x8 : Int32) (M9 : Mem) => some (x8, M9))))))
set_option maxHeartbeats 4000000 in
set_option maxRecDepth 100000 in
theorem ct_X8_tolerance (l : Launch) (G : GG) {p1 : Int32} {M : Mem} {r : Int32} {Mr : Mem}  (hf : f_X8_tolerance p1 M = some (r, Mr)) : Met l yX8_tolerance (wsq yX8_tolerance cX8_tolerance 4 (some .int)) (rmq 5 106) (va_Pc [.ref (G.2.2.1 0), .int p1] (World G M)) (Qi G r Mr) 0 0 (adA G) := by
  refine x_start (plainFor_of_name (by decide)) (Nat.le_of_ble_eq_true rfl) ?_
  intro p e s m args below meth c hB hr hlk hW hS ls hl
  have hx := hB.x
  have hb := hB.b
  have hl : lv_has ls 4 [(0, .ref (G.2.2.1 0)), (1, .int p1)] := hl
  unfold f_X8_tolerance at hf
  refine lv_iload_n hx hb dX8_tolerance_0 rfl (lv_at hl 1 rfl) ?_
  refine lv_iconst (v := (0 : Int32)) hx hb dX8_tolerance_1 (by decide) ?_
  refine lv_bipush (v := (40 : Int32)) hx hb dX8_tolerance_2 (by decide) ?_
  obtain ⟨x1, hg2, hf⟩ := b_o1 hf
  refine x_ci hB (x_rs hB hW hS (As := [.int p1, .int (0 : Int32), .int (40 : Int32)]) (rest := []) (ct_X8_outside l G hg2) (cl_RX8_85 hB.2.2.2.2.1 ⟨Nat.le_of_ble_eq_true rfl, Nat.le_of_ble_eq_true rfl⟩) rfl hl.1 rfl (Nat.le_of_ble_eq_true rfl) dX8_tolerance_4 ⟨Nat.le_refl _, Nat.le_refl _⟩) hS (fun H locs hW hS => ?_)
  refine lv_istore_n (lv' := [(2, .int x1), (0, .ref (G.2.2.1 0)), (1, .int p1)]) hx hb dX8_tolerance_7 rfl hl (by decide) rfl (fun ls hl => ?_)
  refine lv_iload_n hx hb dX8_tolerance_8 rfl (lv_at hl 0 rfl) ?_
  refine lv_if_eq (tgt := 18) hx hb dX8_tolerance_9 (by decide) (fun c3 => ?_) (fun c3 => ?_)
  · have hf := i_t hf c3
    refine lv_aload_n hx hb dX8_tolerance_18 rfl (lv_at hl 1 rfl) ?_
    refine fg8_3 hB hW tl0 wd2_94 dX8_tolerance_19 ?_
    refine lv_aload_n hx hb dX8_tolerance_22 rfl (lv_at hl 1 rfl) ?_
    refine fg8_0 hB hW tl0 wd2_91 dX8_tolerance_23 ?_
    obtain ⟨M4, hg5, hf⟩ := b_o1 hf
    refine x_cv hB (x_rv hB hW hS (As := [.ref (G.2.2.1 1)]) (rest := []) (ct_X1_remember l G tl1 hg5) (cl_RX8_89 hB.2.2.2.2.1 ⟨Nat.le_of_ble_eq_true rfl, Nat.le_of_ble_eq_true rfl⟩) tl34 (by decide) rfl rfl hl.1 rfl (Nat.le_of_ble_eq_true rfl) dX8_tolerance_26 ⟨Nat.le_refl _, Nat.le_refl _⟩) hS (fun H locs hW hS => ?_)
    refine lv_aload_n hx hb dX8_tolerance_29 rfl (lv_at hl 1 rfl) ?_
    refine fg8_0 hB hW tl0 wd2_91 dX8_tolerance_30 ?_
    refine fg3_7 hB hW tl1 wd1_113 dX8_tolerance_33 ?_
    refine lv_topi (fun x6 ex6 => ?_)
    have hf := nm_o hf ex6
    refine lv_istore_n (lv' := [(3, .int x6), (2, .int x1), (0, .ref (G.2.2.1 0)), (1, .int p1)]) hx hb dX8_tolerance_36 rfl hl (by decide) rfl (fun ls hl => ?_)
    refine lv_aload_n hx hb dX8_tolerance_37 rfl (lv_at hl 2 rfl) ?_
    refine fg8_0 hB hW tl0 wd2_91 dX8_tolerance_38 ?_
    refine lv_iload_n hx hb dX8_tolerance_41 rfl (lv_at hl 3 rfl) ?_
    refine fp3_7 hB hW hS tl1 wd1_113 dX8_tolerance_42 (fun H locs M7 eM7 hW hS => ?_)
    have hf := nm_o hf eM7
    refine lv_iload_n hx hb dX8_tolerance_45 rfl (lv_at hl 0 rfl) ?_
    exact e_i hB hW hS hr hlk (s_1 hf) (s_2 hf) dX8_tolerance_46
  · have hf := i_f hf c3
    refine lv_aload_n hx hb dX8_tolerance_12 rfl (lv_at hl 1 rfl) ?_
    refine lv_iload_n hx hb dX8_tolerance_13 rfl (lv_at hl 0 rfl) ?_
    obtain ⟨x8, M9, hg10, hf⟩ := b_o2 hf
    refine x_ci hB (x_rv hB hW hS (As := [.int x1]) (rest := []) (ct_X8_refuse l G hg10) (cl_RX8_50 hB.2.2.2.2.1 ⟨Nat.le_of_ble_eq_true rfl, Nat.le_of_ble_eq_true rfl⟩) tl0 (by decide) rfl rfl hl.1 rfl (Nat.le_of_ble_eq_true rfl) dX8_tolerance_14 ⟨Nat.le_refl _, Nat.le_refl _⟩) hS (fun H locs hW hS => ?_)
    exact e_i hB hW hS hr hlk (s_1 hf) (s_2 hf) dX8_tolerance_17
def f_X8_hyphen (p1 : Int32) (M : Mem) : Option (Int32 × Mem) := (bq1 (f_X8_outside p1 (0 : Int32) (99 : Int32)) (fun (x1 : Int32) => (if x1 = 0 then (bq1 (f_X1_remember 1 M) (fun (M4 : Mem) => nmq ((gi M4 1 8)) (fun (x6 : Int32) => nmq (si M4 1 8 p1) (fun (M7 : Mem) => some (x6, M7))))) else (bq2 (f_X8_refuse x1 M) (fun (x8 : Int32) (M9 : Mem) => some (x8, M9))))))
set_option maxHeartbeats 4000000 in
set_option maxRecDepth 100000 in
theorem ct_X8_hyphen (l : Launch) (G : GG) {p1 : Int32} {M : Mem} {r : Int32} {Mr : Mem}  (hf : f_X8_hyphen p1 M = some (r, Mr)) : Met l yX8_hyphen (wsq yX8_hyphen cX8_hyphen 4 (some .int)) (rmq 5 106) (va_Pc [.ref (G.2.2.1 0), .int p1] (World G M)) (Qi G r Mr) 0 0 (adA G) := by
  refine x_start (plainFor_of_name (by decide)) (Nat.le_of_ble_eq_true rfl) ?_
  intro p e s m args below meth c hB hr hlk hW hS ls hl
  have hx := hB.x
  have hb := hB.b
  have hl : lv_has ls 4 [(0, .ref (G.2.2.1 0)), (1, .int p1)] := hl
  unfold f_X8_hyphen at hf
  refine lv_iload_n hx hb dX8_hyphen_0 rfl (lv_at hl 1 rfl) ?_
  refine lv_iconst (v := (0 : Int32)) hx hb dX8_hyphen_1 (by decide) ?_
  refine lv_bipush (v := (99 : Int32)) hx hb dX8_hyphen_2 (by decide) ?_
  obtain ⟨x1, hg2, hf⟩ := b_o1 hf
  refine x_ci hB (x_rs hB hW hS (As := [.int p1, .int (0 : Int32), .int (99 : Int32)]) (rest := []) (ct_X8_outside l G hg2) (cl_RX8_85 hB.2.2.2.2.1 ⟨Nat.le_of_ble_eq_true rfl, Nat.le_of_ble_eq_true rfl⟩) rfl hl.1 rfl (Nat.le_of_ble_eq_true rfl) dX8_hyphen_4 ⟨Nat.le_refl _, Nat.le_refl _⟩) hS (fun H locs hW hS => ?_)
  refine lv_istore_n (lv' := [(2, .int x1), (0, .ref (G.2.2.1 0)), (1, .int p1)]) hx hb dX8_hyphen_7 rfl hl (by decide) rfl (fun ls hl => ?_)
  refine lv_iload_n hx hb dX8_hyphen_8 rfl (lv_at hl 0 rfl) ?_
  refine lv_if_eq (tgt := 18) hx hb dX8_hyphen_9 (by decide) (fun c3 => ?_) (fun c3 => ?_)
  · have hf := i_t hf c3
    refine lv_aload_n hx hb dX8_hyphen_18 rfl (lv_at hl 1 rfl) ?_
    refine fg8_3 hB hW tl0 wd2_94 dX8_hyphen_19 ?_
    refine lv_aload_n hx hb dX8_hyphen_22 rfl (lv_at hl 1 rfl) ?_
    refine fg8_0 hB hW tl0 wd2_91 dX8_hyphen_23 ?_
    obtain ⟨M4, hg5, hf⟩ := b_o1 hf
    refine x_cv hB (x_rv hB hW hS (As := [.ref (G.2.2.1 1)]) (rest := []) (ct_X1_remember l G tl1 hg5) (cl_RX8_89 hB.2.2.2.2.1 ⟨Nat.le_of_ble_eq_true rfl, Nat.le_of_ble_eq_true rfl⟩) tl34 (by decide) rfl rfl hl.1 rfl (Nat.le_of_ble_eq_true rfl) dX8_hyphen_26 ⟨Nat.le_refl _, Nat.le_refl _⟩) hS (fun H locs hW hS => ?_)
    refine lv_aload_n hx hb dX8_hyphen_29 rfl (lv_at hl 1 rfl) ?_
    refine fg8_0 hB hW tl0 wd2_91 dX8_hyphen_30 ?_
    refine fg3_8 hB hW tl1 wd1_116 dX8_hyphen_33 ?_
    refine lv_topi (fun x6 ex6 => ?_)
    have hf := nm_o hf ex6
    refine lv_istore_n (lv' := [(3, .int x6), (2, .int x1), (0, .ref (G.2.2.1 0)), (1, .int p1)]) hx hb dX8_hyphen_36 rfl hl (by decide) rfl (fun ls hl => ?_)
    refine lv_aload_n hx hb dX8_hyphen_37 rfl (lv_at hl 2 rfl) ?_
    refine fg8_0 hB hW tl0 wd2_91 dX8_hyphen_38 ?_
    refine lv_iload_n hx hb dX8_hyphen_41 rfl (lv_at hl 3 rfl) ?_
    refine fp3_8 hB hW hS tl1 wd1_116 dX8_hyphen_42 (fun H locs M7 eM7 hW hS => ?_)
    have hf := nm_o hf eM7
    refine lv_iload_n hx hb dX8_hyphen_45 rfl (lv_at hl 0 rfl) ?_
    exact e_i hB hW hS hr hlk (s_1 hf) (s_2 hf) dX8_hyphen_46
  · have hf := i_f hf c3
    refine lv_aload_n hx hb dX8_hyphen_12 rfl (lv_at hl 1 rfl) ?_
    refine lv_iload_n hx hb dX8_hyphen_13 rfl (lv_at hl 0 rfl) ?_
    obtain ⟨x8, M9, hg10, hf⟩ := b_o2 hf
    refine x_ci hB (x_rv hB hW hS (As := [.int x1]) (rest := []) (ct_X8_refuse l G hg10) (cl_RX8_50 hB.2.2.2.2.1 ⟨Nat.le_of_ble_eq_true rfl, Nat.le_of_ble_eq_true rfl⟩) tl0 (by decide) rfl rfl hl.1 rfl (Nat.le_of_ble_eq_true rfl) dX8_hyphen_14 ⟨Nat.le_refl _, Nat.le_refl _⟩) hS (fun H locs hW hS => ?_)
    exact e_i hB hW hS hr hlk (s_1 hf) (s_2 hf) dX8_hyphen_17
def f_X8_widow (p1 : Int32) (M : Mem) : Option (Int32 × Mem) := (bq1 (f_X8_outside p1 (0 : Int32) (9 : Int32)) (fun (x1 : Int32) => (if x1 = 0 then (bq1 (f_X1_remember 1 M) (fun (M4 : Mem) => nmq ((gi M4 1 9)) (fun (x6 : Int32) => nmq (si M4 1 9 p1) (fun (M7 : Mem) => some (x6, M7))))) else (bq2 (f_X8_refuse x1 M) (fun (x8 : Int32) (M9 : Mem) => some (x8, M9))))))
set_option maxHeartbeats 4000000 in
set_option maxRecDepth 100000 in
theorem ct_X8_widow (l : Launch) (G : GG) {p1 : Int32} {M : Mem} {r : Int32} {Mr : Mem}  (hf : f_X8_widow p1 M = some (r, Mr)) : Met l yX8_widow (wsq yX8_widow cX8_widow 4 (some .int)) (rmq 5 106) (va_Pc [.ref (G.2.2.1 0), .int p1] (World G M)) (Qi G r Mr) 0 0 (adA G) := by
  refine x_start (plainFor_of_name (by decide)) (Nat.le_of_ble_eq_true rfl) ?_
  intro p e s m args below meth c hB hr hlk hW hS ls hl
  have hx := hB.x
  have hb := hB.b
  have hl : lv_has ls 4 [(0, .ref (G.2.2.1 0)), (1, .int p1)] := hl
  unfold f_X8_widow at hf
  refine lv_iload_n hx hb dX8_widow_0 rfl (lv_at hl 1 rfl) ?_
  refine lv_iconst (v := (0 : Int32)) hx hb dX8_widow_1 (by decide) ?_
  refine lv_bipush (v := (9 : Int32)) hx hb dX8_widow_2 (by decide) ?_
  obtain ⟨x1, hg2, hf⟩ := b_o1 hf
  refine x_ci hB (x_rs hB hW hS (As := [.int p1, .int (0 : Int32), .int (9 : Int32)]) (rest := []) (ct_X8_outside l G hg2) (cl_RX8_85 hB.2.2.2.2.1 ⟨Nat.le_of_ble_eq_true rfl, Nat.le_of_ble_eq_true rfl⟩) rfl hl.1 rfl (Nat.le_of_ble_eq_true rfl) dX8_widow_4 ⟨Nat.le_refl _, Nat.le_refl _⟩) hS (fun H locs hW hS => ?_)
  refine lv_istore_n (lv' := [(2, .int x1), (0, .ref (G.2.2.1 0)), (1, .int p1)]) hx hb dX8_widow_7 rfl hl (by decide) rfl (fun ls hl => ?_)
  refine lv_iload_n hx hb dX8_widow_8 rfl (lv_at hl 0 rfl) ?_
  refine lv_if_eq (tgt := 18) hx hb dX8_widow_9 (by decide) (fun c3 => ?_) (fun c3 => ?_)
  · have hf := i_t hf c3
    refine lv_aload_n hx hb dX8_widow_18 rfl (lv_at hl 1 rfl) ?_
    refine fg8_3 hB hW tl0 wd2_94 dX8_widow_19 ?_
    refine lv_aload_n hx hb dX8_widow_22 rfl (lv_at hl 1 rfl) ?_
    refine fg8_0 hB hW tl0 wd2_91 dX8_widow_23 ?_
    obtain ⟨M4, hg5, hf⟩ := b_o1 hf
    refine x_cv hB (x_rv hB hW hS (As := [.ref (G.2.2.1 1)]) (rest := []) (ct_X1_remember l G tl1 hg5) (cl_RX8_89 hB.2.2.2.2.1 ⟨Nat.le_of_ble_eq_true rfl, Nat.le_of_ble_eq_true rfl⟩) tl34 (by decide) rfl rfl hl.1 rfl (Nat.le_of_ble_eq_true rfl) dX8_widow_26 ⟨Nat.le_refl _, Nat.le_refl _⟩) hS (fun H locs hW hS => ?_)
    refine lv_aload_n hx hb dX8_widow_29 rfl (lv_at hl 1 rfl) ?_
    refine fg8_0 hB hW tl0 wd2_91 dX8_widow_30 ?_
    refine fg3_9 hB hW tl1 wd1_120 dX8_widow_33 ?_
    refine lv_topi (fun x6 ex6 => ?_)
    have hf := nm_o hf ex6
    refine lv_istore_n (lv' := [(3, .int x6), (2, .int x1), (0, .ref (G.2.2.1 0)), (1, .int p1)]) hx hb dX8_widow_36 rfl hl (by decide) rfl (fun ls hl => ?_)
    refine lv_aload_n hx hb dX8_widow_37 rfl (lv_at hl 2 rfl) ?_
    refine fg8_0 hB hW tl0 wd2_91 dX8_widow_38 ?_
    refine lv_iload_n hx hb dX8_widow_41 rfl (lv_at hl 3 rfl) ?_
    refine fp3_9 hB hW hS tl1 wd1_120 dX8_widow_42 (fun H locs M7 eM7 hW hS => ?_)
    have hf := nm_o hf eM7
    refine lv_iload_n hx hb dX8_widow_45 rfl (lv_at hl 0 rfl) ?_
    exact e_i hB hW hS hr hlk (s_1 hf) (s_2 hf) dX8_widow_46
  · have hf := i_f hf c3
    refine lv_aload_n hx hb dX8_widow_12 rfl (lv_at hl 1 rfl) ?_
    refine lv_iload_n hx hb dX8_widow_13 rfl (lv_at hl 0 rfl) ?_
    obtain ⟨x8, M9, hg10, hf⟩ := b_o2 hf
    refine x_ci hB (x_rv hB hW hS (As := [.int x1]) (rest := []) (ct_X8_refuse l G hg10) (cl_RX8_50 hB.2.2.2.2.1 ⟨Nat.le_of_ble_eq_true rfl, Nat.le_of_ble_eq_true rfl⟩) tl0 (by decide) rfl rfl hl.1 rfl (Nat.le_of_ble_eq_true rfl) dX8_widow_14 ⟨Nat.le_refl _, Nat.le_refl _⟩) hS (fun H locs hW hS => ?_)
    exact e_i hB hW hS hr hlk (s_1 hf) (s_2 hf) dX8_widow_17
theorem cl_RX8_171 {R : Room} {s : State} {args : Array Value} (ht : ∀ w ∈ lw_all, w.before args s = true) (hR : 0 + 1 ≤ R.frames ∧ 8 + (2 + 11) + 0 ≤ R.locals) : CallB R s args RX8 171 yX8_isOther cX8_isOther 2 (some .boolean) (wsq yX8_isOther cX8_isOther 2 (some .boolean)) (rmq 0 0) 0 0 2 ∧ (Cond.static yX8_isOther).before args s = true := va_cwS 2 ht (goodS wd3_155 wd3_54 wd1_1 wd3_55) rfl rfl rfl (by decide +kernel) hR
def f_X8_manner (p1 : Int32) (M : Mem) : Option (Int32 × Mem) := (bq1 (f_X8_isOther p1 (3 : Int32)) (fun (x1 : Int32) => (if x1 = 0 then (bq1 (f_X1_remember 1 M) (fun (M4 : Mem) => nmq ((gi M4 1 10)) (fun (x6 : Int32) => nmq (si M4 1 10 p1) (fun (M7 : Mem) => some (x6, M7))))) else (bq2 (f_X8_refuse (-2 : Int32) M) (fun (x8 : Int32) (M9 : Mem) => some (x8, M9))))))
set_option maxHeartbeats 4000000 in
set_option maxRecDepth 100000 in
theorem ct_X8_manner (l : Launch) (G : GG) {p1 : Int32} {M : Mem} {r : Int32} {Mr : Mem}  (hf : f_X8_manner p1 M = some (r, Mr)) : Met l yX8_manner (wsq yX8_manner cX8_manner 3 (some .int)) (rmq 5 106) (va_Pc [.ref (G.2.2.1 0), .int p1] (World G M)) (Qi G r Mr) 0 0 (adA G) := by
  refine x_start (plainFor_of_name (by decide)) (Nat.le_of_ble_eq_true rfl) ?_
  intro p e s m args below meth c hB hr hlk hW hS ls hl
  have hx := hB.x
  have hb := hB.b
  have hl : lv_has ls 3 [(0, .ref (G.2.2.1 0)), (1, .int p1)] := hl
  unfold f_X8_manner at hf
  refine lv_iload_n hx hb dX8_manner_0 rfl (lv_at hl 1 rfl) ?_
  refine lv_iconst (v := (3 : Int32)) hx hb dX8_manner_1 (by decide) ?_
  obtain ⟨x1, hg2, hf⟩ := b_o1 hf
  refine x_ci hB (x_rs hB hW hS (As := [.int p1, .int (3 : Int32)]) (rest := []) (ct_X8_isOther l G hg2) (cl_RX8_171 hB.2.2.2.2.1 ⟨Nat.le_of_ble_eq_true rfl, Nat.le_of_ble_eq_true rfl⟩) rfl hl.1 rfl (Nat.le_of_ble_eq_true rfl) dX8_manner_2 ⟨Nat.le_refl _, Nat.le_refl _⟩) hS (fun H locs hW hS => ?_)
  refine lv_if_eq (tgt := 15) hx hb dX8_manner_5 (by decide) (fun c3 => ?_) (fun c3 => ?_)
  · have hf := i_t hf c3
    refine lv_aload_n hx hb dX8_manner_15 rfl (lv_at hl 0 rfl) ?_
    refine fg8_3 hB hW tl0 wd2_94 dX8_manner_16 ?_
    refine lv_aload_n hx hb dX8_manner_19 rfl (lv_at hl 0 rfl) ?_
    refine fg8_0 hB hW tl0 wd2_91 dX8_manner_20 ?_
    obtain ⟨M4, hg5, hf⟩ := b_o1 hf
    refine x_cv hB (x_rv hB hW hS (As := [.ref (G.2.2.1 1)]) (rest := []) (ct_X1_remember l G tl1 hg5) (cl_RX8_89 hB.2.2.2.2.1 ⟨Nat.le_of_ble_eq_true rfl, Nat.le_of_ble_eq_true rfl⟩) tl34 (by decide) rfl rfl hl.1 rfl (Nat.le_of_ble_eq_true rfl) dX8_manner_23 ⟨Nat.le_refl _, Nat.le_refl _⟩) hS (fun H locs hW hS => ?_)
    refine lv_aload_n hx hb dX8_manner_26 rfl (lv_at hl 0 rfl) ?_
    refine fg8_0 hB hW tl0 wd2_91 dX8_manner_27 ?_
    refine fg3_10 hB hW tl1 wd1_124 dX8_manner_30 ?_
    refine lv_topi (fun x6 ex6 => ?_)
    have hf := nm_o hf ex6
    refine lv_istore_n (lv' := [(2, .int x6), (0, .ref (G.2.2.1 0)), (1, .int p1)]) hx hb dX8_manner_33 rfl hl (by decide) rfl (fun ls hl => ?_)
    refine lv_aload_n hx hb dX8_manner_34 rfl (lv_at hl 1 rfl) ?_
    refine fg8_0 hB hW tl0 wd2_91 dX8_manner_35 ?_
    refine lv_iload_n hx hb dX8_manner_38 rfl (lv_at hl 2 rfl) ?_
    refine fp3_10 hB hW hS tl1 wd1_124 dX8_manner_39 (fun H locs M7 eM7 hW hS => ?_)
    have hf := nm_o hf eM7
    refine lv_iload_n hx hb dX8_manner_42 rfl (lv_at hl 0 rfl) ?_
    exact e_i hB hW hS hr hlk (s_1 hf) (s_2 hf) dX8_manner_43
  · have hf := i_f hf c3
    refine lv_aload_n hx hb dX8_manner_8 rfl (lv_at hl 0 rfl) ?_
    refine lv_bipush (v := (-2 : Int32)) hx hb dX8_manner_9 (by decide) ?_
    obtain ⟨x8, M9, hg10, hf⟩ := b_o2 hf
    refine x_ci hB (x_rv hB hW hS (As := [.int (-2 : Int32)]) (rest := []) (ct_X8_refuse l G hg10) (cl_RX8_50 hB.2.2.2.2.1 ⟨Nat.le_of_ble_eq_true rfl, Nat.le_of_ble_eq_true rfl⟩) tl0 (by decide) rfl rfl hl.1 rfl (Nat.le_of_ble_eq_true rfl) dX8_manner_11 ⟨Nat.le_refl _, Nat.le_refl _⟩) hS (fun H locs hW hS => ?_)
    exact e_i hB hW hS hr hlk (s_1 hf) (s_2 hf) dX8_manner_14
def f_X8_kind (p1 : Int32) (p2 : Int32) (M : Mem) : Option (Int32 × Mem) := (bq1 (f_X8_isOther p1 (6 : Int32)) (fun (x1 : Int32) => (if x1 = 0 then (bq1 (f_X8_outside p2 (0 : Int32) (9 : Int32)) (fun (x4 : Int32) => (if x4 = 0 then (bq1 (f_X1_remember 1 M) (fun (M7 : Mem) => nmq ((((10 : Int32) * (gi M7 1 11)) + (gi M7 1 12))) (fun (x9 : Int32) => nmq (si M7 1 11 p1) (fun (M10 : Mem) => nmq (si M10 1 12 p2) (fun (M11 : Mem) => some (x9, M11)))))) else (bq2 (f_X8_refuse x4 M) (fun (x12 : Int32) (M13 : Mem) => some (x12, M13)))))) else (bq2 (f_X8_refuse (-2 : Int32) M) (fun (x15 : Int32) (M16 : Mem) => some (x15, M16))))))
set_option maxHeartbeats 4000000 in
set_option maxRecDepth 100000 in
theorem ct_X8_kind (l : Launch) (G : GG) {p1 : Int32} {p2 : Int32} {M : Mem} {r : Int32} {Mr : Mem}  (hf : f_X8_kind p1 p2 M = some (r, Mr)) : Met l yX8_kind (wsq yX8_kind cX8_kind 5 (some .int)) (rmq 5 106) (va_Pc [.ref (G.2.2.1 0), .int p1, .int p2] (World G M)) (Qi G r Mr) 0 0 (adA G) := by
  refine x_start (plainFor_of_name (by decide)) (Nat.le_of_ble_eq_true rfl) ?_
  intro p e s m args below meth c hB hr hlk hW hS ls hl
  have hx := hB.x
  have hb := hB.b
  have hl : lv_has ls 5 [(0, .ref (G.2.2.1 0)), (1, .int p1), (2, .int p2)] := hl
  unfold f_X8_kind at hf
  refine lv_iload_n hx hb dX8_kind_0 rfl (lv_at hl 1 rfl) ?_
  refine lv_bipush (v := (6 : Int32)) hx hb dX8_kind_1 (by decide) ?_
  obtain ⟨x1, hg2, hf⟩ := b_o1 hf
  refine x_ci hB (x_rs hB hW hS (As := [.int p1, .int (6 : Int32)]) (rest := []) (ct_X8_isOther l G hg2) (cl_RX8_171 hB.2.2.2.2.1 ⟨Nat.le_of_ble_eq_true rfl, Nat.le_of_ble_eq_true rfl⟩) rfl hl.1 rfl (Nat.le_of_ble_eq_true rfl) dX8_kind_3 ⟨Nat.le_refl _, Nat.le_refl _⟩) hS (fun H locs hW hS => ?_)
  refine lv_if_eq (tgt := 16) hx hb dX8_kind_6 (by decide) (fun c3 => ?_) (fun c3 => ?_)
  · have hf := i_t hf c3
    refine lv_iload_n hx hb dX8_kind_16 rfl (lv_at hl 2 rfl) ?_
    refine lv_iconst (v := (0 : Int32)) hx hb dX8_kind_17 (by decide) ?_
    refine lv_bipush (v := (9 : Int32)) hx hb dX8_kind_18 (by decide) ?_
    obtain ⟨x4, hg5, hf⟩ := b_o1 hf
    refine x_ci hB (x_rs hB hW hS (As := [.int p2, .int (0 : Int32), .int (9 : Int32)]) (rest := []) (ct_X8_outside l G hg5) (cl_RX8_85 hB.2.2.2.2.1 ⟨Nat.le_of_ble_eq_true rfl, Nat.le_of_ble_eq_true rfl⟩) rfl hl.1 rfl (Nat.le_of_ble_eq_true rfl) dX8_kind_20 ⟨Nat.le_refl _, Nat.le_refl _⟩) hS (fun H locs hW hS => ?_)
    refine lv_istore_n (lv' := [(3, .int x4), (0, .ref (G.2.2.1 0)), (1, .int p1), (2, .int p2)]) hx hb dX8_kind_23 rfl hl (by decide) rfl (fun ls hl => ?_)
    refine lv_iload_n hx hb dX8_kind_24 rfl (lv_at hl 0 rfl) ?_
    refine lv_if_eq (tgt := 34) hx hb dX8_kind_25 (by decide) (fun c6 => ?_) (fun c6 => ?_)
    · have hf := i_t hf c6
      refine lv_aload_n hx hb dX8_kind_34 rfl (lv_at hl 1 rfl) ?_
      refine fg8_3 hB hW tl0 wd2_94 dX8_kind_35 ?_
      refine lv_aload_n hx hb dX8_kind_38 rfl (lv_at hl 1 rfl) ?_
      refine fg8_0 hB hW tl0 wd2_91 dX8_kind_39 ?_
      obtain ⟨M7, hg8, hf⟩ := b_o1 hf
      refine x_cv hB (x_rv hB hW hS (As := [.ref (G.2.2.1 1)]) (rest := []) (ct_X1_remember l G tl1 hg8) (cl_RX8_89 hB.2.2.2.2.1 ⟨Nat.le_of_ble_eq_true rfl, Nat.le_of_ble_eq_true rfl⟩) tl34 (by decide) rfl rfl hl.1 rfl (Nat.le_of_ble_eq_true rfl) dX8_kind_42 ⟨Nat.le_refl _, Nat.le_refl _⟩) hS (fun H locs hW hS => ?_)
      refine lv_bipush (v := (10 : Int32)) hx hb dX8_kind_45 (by decide) ?_
      refine lv_aload_n hx hb dX8_kind_47 rfl (lv_at hl 1 rfl) ?_
      refine fg8_0 hB hW tl0 wd2_91 dX8_kind_48 ?_
      refine fg3_11 hB hW tl1 wd1_127 dX8_kind_51 ?_
      refine lv_imul hx hb dX8_kind_54 ?_
      refine lv_aload_n hx hb dX8_kind_55 rfl (lv_at hl 1 rfl) ?_
      refine fg8_0 hB hW tl0 wd2_91 dX8_kind_56 ?_
      refine fg3_12 hB hW tl1 wd1_130 dX8_kind_59 ?_
      refine lv_iadd hx hb dX8_kind_62 ?_
      refine lv_topi (fun x9 ex9 => ?_)
      have hf := nm_o hf ex9
      refine lv_istore (lv' := [(4, .int x9), (3, .int x4), (0, .ref (G.2.2.1 0)), (1, .int p1), (2, .int p2)]) hx hb dX8_kind_63 hl (by decide) rfl (fun ls hl => ?_)
      refine lv_aload_n hx hb dX8_kind_65 rfl (lv_at hl 2 rfl) ?_
      refine fg8_0 hB hW tl0 wd2_91 dX8_kind_66 ?_
      refine lv_iload_n hx hb dX8_kind_69 rfl (lv_at hl 3 rfl) ?_
      refine fp3_11 hB hW hS tl1 wd1_127 dX8_kind_70 (fun H locs M10 eM10 hW hS => ?_)
      have hf := nm_o hf eM10
      refine lv_aload_n hx hb dX8_kind_73 rfl (lv_at hl 2 rfl) ?_
      refine fg8_0 hB hW tl0 wd2_91 dX8_kind_74 ?_
      refine lv_iload_n hx hb dX8_kind_77 rfl (lv_at hl 4 rfl) ?_
      refine fp3_12 hB hW hS tl1 wd1_130 dX8_kind_78 (fun H locs M11 eM11 hW hS => ?_)
      have hf := nm_o hf eM11
      refine lv_iload hx hb dX8_kind_81 (lv_at hl 0 rfl) ?_
      exact e_i hB hW hS hr hlk (s_1 hf) (s_2 hf) dX8_kind_83
    · have hf := i_f hf c6
      refine lv_aload_n hx hb dX8_kind_28 rfl (lv_at hl 1 rfl) ?_
      refine lv_iload_n hx hb dX8_kind_29 rfl (lv_at hl 0 rfl) ?_
      obtain ⟨x12, M13, hg14, hf⟩ := b_o2 hf
      refine x_ci hB (x_rv hB hW hS (As := [.int x4]) (rest := []) (ct_X8_refuse l G hg14) (cl_RX8_50 hB.2.2.2.2.1 ⟨Nat.le_of_ble_eq_true rfl, Nat.le_of_ble_eq_true rfl⟩) tl0 (by decide) rfl rfl hl.1 rfl (Nat.le_of_ble_eq_true rfl) dX8_kind_30 ⟨Nat.le_refl _, Nat.le_refl _⟩) hS (fun H locs hW hS => ?_)
      exact e_i hB hW hS hr hlk (s_1 hf) (s_2 hf) dX8_kind_33
  · have hf := i_f hf c3
    refine lv_aload_n hx hb dX8_kind_9 rfl (lv_at hl 0 rfl) ?_
    refine lv_bipush (v := (-2 : Int32)) hx hb dX8_kind_10 (by decide) ?_
    obtain ⟨x15, M16, hg17, hf⟩ := b_o2 hf
    refine x_ci hB (x_rv hB hW hS (As := [.int (-2 : Int32)]) (rest := []) (ct_X8_refuse l G hg17) (cl_RX8_50 hB.2.2.2.2.1 ⟨Nat.le_of_ble_eq_true rfl, Nat.le_of_ble_eq_true rfl⟩) tl0 (by decide) rfl rfl hl.1 rfl (Nat.le_of_ble_eq_true rfl) dX8_kind_12 ⟨Nat.le_refl _, Nat.le_refl _⟩) hS (fun H locs hW hS => ?_)
    exact e_i hB hW hS hr hlk (s_1 hf) (s_2 hf) dX8_kind_15
def f_X1_restore (k1 : Nat) (M : Mem) : Option Mem := (nmq (si M 34 2 ((gi M 34 2) - (1 : Int32))) (fun (M1 : Mem) => bq1 (f_X1_slotAt (gi M1 34 2) M1) (fun (x2 : Option Nat) => oq x2 (some M1) (fun (k4 : Nat) => gq (dT 3 k4) ((bq1 (f_X3_become k1 k4 M1) (fun (M6 : Mem) => some M6)))))))
set_option maxHeartbeats 4000000 in
set_option maxRecDepth 100000 in
theorem ct_X1_restore (l : Launch) (G : GG) {k1 : Nat} {M : Mem} {Mr : Mem} (hk1 : isT 3 k1) (hf : f_X1_restore k1 M = some Mr) : Met l yX1_restore (wsq yX1_restore cX1_restore 3 none) (rmq 4 84) (va_Pc [.ref (G.2.2.1 34), .ref (G.2.2.1 k1)] (World G M)) (Qv G Mr) 0 0 (adA G) := by
  refine x_start (plainFor_of_name (by decide)) (Nat.le_of_ble_eq_true rfl) ?_
  intro p e s m args below meth c hB hr hlk hW hS ls hl
  have hx := hB.x
  have hb := hB.b
  have hl : lv_has ls 3 [(0, .ref (G.2.2.1 34)), (1, .ref (G.2.2.1 k1))] := hl
  unfold f_X1_restore at hf
  refine lv_aload_n hx hb dX1_restore_0 rfl (lv_at hl 0 rfl) ?_
  refine lv_dup hx hb dX1_restore_1 rfl ?_
  refine fg1_2 hB hW tl34 wd1_170 dX1_restore_2 ?_
  refine lv_iconst (v := (1 : Int32)) hx hb dX1_restore_5 (by decide) ?_
  refine lv_isub hx hb dX1_restore_6 ?_
  refine fp1_2 hB hW hS tl34 wd1_170 dX1_restore_7 (fun H locs M1 eM1 hW hS => ?_)
  have hf := nm_o hf eM1
  refine lv_aload_n hx hb dX1_restore_10 rfl (lv_at hl 0 rfl) ?_
  refine lv_aload_n hx hb dX1_restore_11 rfl (lv_at hl 0 rfl) ?_
  refine fg1_2 hB hW tl34 wd1_170 dX1_restore_12 ?_
  obtain ⟨x2, hg3, hf⟩ := b_o1 hf
  refine x_cn hB (x_rv hB hW hS (As := [.int (gi M1 34 2)]) (rest := []) (ct_X1_slotAt l G hg3) (cl_RX1_25 hB.2.2.2.2.1 ⟨Nat.le_of_ble_eq_true rfl, Nat.le_of_ble_eq_true rfl⟩) tl34 (by decide) rfl rfl hl.1 rfl (Nat.le_of_ble_eq_true rfl) dX1_restore_15 ⟨Nat.le_refl _, Nat.le_refl _⟩) hS (fun H locs hW hS => ?_)
  cases x2 with
  | none =>
    have hf := o_n hf
    refine lv_astore_nN (lv' := [(2, .null), (0, .ref (G.2.2.1 34)), (1, .ref (G.2.2.1 k1))]) hx hb dX1_restore_18 rfl hl (by decide) rfl (fun ls hl => ?_)
    refine lv_aload_nN hx hb dX1_restore_19 rfl (lv_at hl 0 rfl) ?_
    refine lv_ifnullN (tgt := 28) hx hb dX1_restore_20 (by decide) ?_
    exact e_v hB hW hS hr hlk (Option.some.inj hf) dX1_restore_28
  | some k4 =>
    have hf := o_s hf
    obtain ⟨hq5, hf⟩ := g_o hf
    refine lv_astore_n (lv' := [(2, .ref (G.2.2.1 k4)), (0, .ref (G.2.2.1 34)), (1, .ref (G.2.2.1 k1))]) hx hb dX1_restore_18 rfl hl (by decide) rfl (fun ls hl => ?_)
    refine lv_aload_n hx hb dX1_restore_19 rfl (lv_at hl 0 rfl) ?_
    refine lv_ifnull hx hb dX1_restore_20 ?_
    refine lv_aload_n hx hb dX1_restore_23 rfl (lv_at hl 2 rfl) ?_
    refine lv_aload_n hx hb dX1_restore_24 rfl (lv_at hl 0 rfl) ?_
    obtain ⟨M6, hg7, hf⟩ := b_o1 hf
    refine x_cv hB (x_rv hB hW hS (As := [.ref (G.2.2.1 k4)]) (rest := []) (ct_X3_become l G hk1 hq5 hg7) (cl_RX1_29 hB.2.2.2.2.1 ⟨Nat.le_of_ble_eq_true rfl, Nat.le_of_ble_eq_true rfl⟩) hk1 (by decide) rfl rfl hl.1 rfl (Nat.le_of_ble_eq_true rfl) dX1_restore_25 ⟨Nat.le_refl _, Nat.le_refl _⟩) hS (fun H locs hW hS => ?_)
    exact e_v hB hW hS hr hlk (Option.some.inj hf) dX1_restore_28
theorem cl_RX8_187 {R : Room} {s : State} {args : Array Value} (ht : ∀ w ∈ lw_all, w.before args s = true) (hR : 4 + 1 ≤ R.frames ∧ 8 + (3 + 11) + 84 ≤ R.locals) : CallW R s args RX8 RX1 187 yX1_restore cX1_restore 3 none (wsq yX1_restore cX1_restore 3 none) (rmq 4 84) 0 0 1 := cwV 1 ht (goodV wd3_164 wd3_165 wd3_166 wd1_5 wd3_167) rfl rfl rfl (by decide +kernel) hR
def f_X8_back (M : Mem) : Option (Int32 × Mem) := (if (gi M 34 2) = 0 then (bq2 (f_X8_refuse (-3 : Int32) M) (fun (x4 : Int32) (M5 : Mem) => some (x4, M5))) else (bq1 (f_X1_restore 1 M) (fun (M2 : Mem) => some ((gi M2 34 2), M2))))
set_option maxHeartbeats 4000000 in
set_option maxRecDepth 100000 in
theorem ct_X8_back (l : Launch) (G : GG)  {M : Mem} {r : Int32} {Mr : Mem}  (hf : f_X8_back M = some (r, Mr)) : Met l yX8_back (wsq yX8_back cX8_back 1 (some .int)) (rmq 5 106) (va_Pc [.ref (G.2.2.1 0)] (World G M)) (Qi G r Mr) 0 0 (adA G) := by
  refine x_start (plainFor_of_name (by decide)) (Nat.le_of_ble_eq_true rfl) ?_
  intro p e s m args below meth c hB hr hlk hW hS ls hl
  have hx := hB.x
  have hb := hB.b
  have hl : lv_has ls 1 [(0, .ref (G.2.2.1 0))] := hl
  unfold f_X8_back at hf
  refine lv_aload_n hx hb dX8_back_0 rfl (lv_at hl 0 rfl) ?_
  refine fg8_3 hB hW tl0 wd2_94 dX8_back_1 ?_
  refine fg1_2 hB hW tl34 wd1_171 dX8_back_4 ?_
  refine lv_if_ne (tgt := 17) hx hb dX8_back_7 (by decide) (fun c1 => ?_) (fun c1 => ?_)
  · have hf := i_f hf c1
    refine lv_aload_n hx hb dX8_back_17 rfl (lv_at hl 0 rfl) ?_
    refine fg8_3 hB hW tl0 wd2_94 dX8_back_18 ?_
    refine lv_aload_n hx hb dX8_back_21 rfl (lv_at hl 0 rfl) ?_
    refine fg8_0 hB hW tl0 wd2_91 dX8_back_22 ?_
    obtain ⟨M2, hg3, hf⟩ := b_o1 hf
    refine x_cv hB (x_rv hB hW hS (As := [.ref (G.2.2.1 1)]) (rest := []) (ct_X1_restore l G tl1 hg3) (cl_RX8_187 hB.2.2.2.2.1 ⟨Nat.le_of_ble_eq_true rfl, Nat.le_of_ble_eq_true rfl⟩) tl34 (by decide) rfl rfl hl.1 rfl (Nat.le_of_ble_eq_true rfl) dX8_back_25 ⟨Nat.le_refl _, Nat.le_refl _⟩) hS (fun H locs hW hS => ?_)
    refine lv_aload_n hx hb dX8_back_28 rfl (lv_at hl 0 rfl) ?_
    refine fg8_3 hB hW tl0 wd2_94 dX8_back_29 ?_
    refine fg1_2 hB hW tl34 wd1_171 dX8_back_32 ?_
    exact e_i hB hW hS hr hlk (s_1 hf) (s_2 hf) dX8_back_35
  · have hf := i_t hf c1
    refine lv_aload_n hx hb dX8_back_10 rfl (lv_at hl 0 rfl) ?_
    refine lv_bipush (v := (-3 : Int32)) hx hb dX8_back_11 (by decide) ?_
    obtain ⟨x4, M5, hg6, hf⟩ := b_o2 hf
    refine x_ci hB (x_rv hB hW hS (As := [.int (-3 : Int32)]) (rest := []) (ct_X8_refuse l G hg6) (cl_RX8_50 hB.2.2.2.2.1 ⟨Nat.le_of_ble_eq_true rfl, Nat.le_of_ble_eq_true rfl⟩) tl0 (by decide) rfl rfl hl.1 rfl (Nat.le_of_ble_eq_true rfl) dX8_back_13 ⟨Nat.le_refl _, Nat.le_refl _⟩) hS (fun H locs hW hS => ?_)
    exact e_i hB hW hS hr hlk (s_1 hf) (s_2 hf) dX8_back_16
def f_X7_lengthOf (k0 : Nat) (p1 : Int32) (M : Mem) : Option Int32 := (bq1 (f_X8_at (k0 + 2) p1 M) (fun (x1 : Int32) => some x1))
set_option maxHeartbeats 4000000 in
set_option maxRecDepth 100000 in
theorem ct_X7_lengthOf (l : Launch) (G : GG) {k0 : Nat} {p1 : Int32} {M : Mem} {r : Int32} (hk0 : isT 7 k0) (hf : f_X7_lengthOf k0 p1 M = some r) : Met l yX7_lengthOf (wsq yX7_lengthOf cX7_lengthOf 2 (some .int)) (rmq 1 21) (va_Pc [.ref (G.2.2.1 k0), .int p1] (World G M)) (Qi G r M) 0 0 (adA G) := by
  refine x_start (plainFor_of_name (by decide)) (Nat.le_of_ble_eq_true rfl) ?_
  intro p e s m args below meth c hB hr hlk hW hS ls hl
  have hx := hB.x
  have hb := hB.b
  have hl : lv_has ls 2 [(0, .ref (G.2.2.1 k0)), (1, .int p1)] := hl
  unfold f_X7_lengthOf at hf
  refine lv_aload_n hx hb dX7_lengthOf_0 rfl (lv_at hl 0 rfl) ?_
  refine fg7_1 hB hW hk0 wd1_47 dX7_lengthOf_1 ?_
  refine lv_iload_n hx hb dX7_lengthOf_4 rfl (lv_at hl 1 rfl) ?_
  obtain ⟨x1, hg2, hf⟩ := b_o1 hf
  refine x_ci hB (x_rn hB hW hS (As := [.ref (G.2.2.1 (k0 + 2)), .int p1]) (rest := []) (ct_X8_at l G (rf7_1 hk0) hg2) (cl_RX7_34 hB.nst hB.2.2.2.2.1 ⟨Nat.le_of_ble_eq_true rfl, Nat.le_of_ble_eq_true rfl⟩) rfl hl.1 rfl (Nat.le_of_ble_eq_true rfl) dX7_lengthOf_5 ⟨Nat.le_refl _, Nat.le_refl _⟩) hS (fun H locs hW hS => ?_)
  exact e_i hB hW hS hr hlk (Option.some.inj hf) rfl dX7_lengthOf_8
def f_X8_letterIn (p1 : Int64) (p2 : Int32) : Option Int32 := some ((((lush p1 ((4 : Int32) * p2)) &&& (15 : Int64)) : Int64).toInt32 - (1 : Int32))
set_option maxHeartbeats 4000000 in
set_option maxRecDepth 100000 in
theorem ct_X8_letterIn (l : Launch) (G : GG) {p1 : Int64} {p2 : Int32} {M : Mem} {r : Int32}  (hf : f_X8_letterIn p1 p2 = some r) : Met l yX8_letterIn (wsq yX8_letterIn cX8_letterIn 3 (some .int)) (rmq 0 0) (va_Pc [.long p1, .int p2] (World G M)) (Qi G r M) 0 0 (adA G) := by
  refine x_start (plainFor_of_name (by decide)) (Nat.le_of_ble_eq_true rfl) ?_
  intro p e s m args below meth c hB hr hlk hW hS ls hl
  have hx := hB.x
  have hb := hB.b
  have hl : lv_has ls 3 [(0, .long p1), (2, .int p2)] := hl
  unfold f_X8_letterIn at hf
  refine lv_lload_n hx hb dX8_letterIn_0 rfl (lv_at hl 0 rfl) ?_
  refine lv_iconst (v := (4 : Int32)) hx hb dX8_letterIn_1 (by decide) ?_
  refine lv_iload_n hx hb dX8_letterIn_2 rfl (lv_at hl 1 rfl) ?_
  refine lv_imul hx hb dX8_letterIn_3 ?_
  refine lv_lushr hx hb dX8_letterIn_4 rfl ?_
  refine lv_ldc2 (v := (15 : Int64)) hx hb hB.ow (hB.w wd3_185) dX8_letterIn_5 ?_
  refine lv_land hx hb dX8_letterIn_8 ?_
  refine lv_l2i hx hb dX8_letterIn_9 rfl ?_
  refine lv_iconst (v := (1 : Int32)) hx hb dX8_letterIn_10 (by decide) ?_
  refine lv_isub hx hb dX8_letterIn_11 ?_
  exact e_i hB hW hS hr hlk (Option.some.inj hf) rfl dX8_letterIn_12
theorem cl_RX3_83 {R : Room} {s : State} {args : Array Value} (ht : ∀ w ∈ lw_all, w.before args s = true) (hR : 0 + 1 ≤ R.frames ∧ 8 + (2 + 11) + 0 ≤ R.locals) : CallW R s args RX3 RX7 83 yX7_spellingOf cX7_spellingOf 2 (some .long) (wsq yX7_spellingOf cX7_spellingOf 2 (some .long)) (rmq 0 0) 0 0 1 := cwV 1 ht (goodV wd3_180 wd3_120 wd3_121 wd1_3 wd3_122) rfl rfl rfl (by decide +kernel) hR
theorem cl_RX3_87 {R : Room} {s : State} {args : Array Value} (ht : ∀ w ∈ lw_all, w.before args s = true) (hR : 1 + 1 ≤ R.frames ∧ 8 + (2 + 11) + 21 ≤ R.locals) : CallW R s args RX3 RX7 87 yX7_lengthOf cX7_lengthOf 2 (some .int) (wsq yX7_lengthOf cX7_lengthOf 2 (some .int)) (rmq 1 21) 0 0 1 := cwV 1 ht (goodV wd3_181 wd3_173 wd3_174 wd1_3 wd3_175) rfl rfl rfl (by decide +kernel) hR
theorem cl_RX3_91 {R : Room} {s : State} {args : Array Value} (hN : Nst s) (ht : ∀ w ∈ lw_all, w.before args s = true) (hR : 0 + 1 ≤ R.frames ∧ 8 + (3 + 11) + 0 ≤ R.locals) : va_CN R s args RX3 91 yX8_letterIn "LinesOfFragments" cX8_letterIn 3 (some .int) (wsq yX8_letterIn cX8_letterIn 3 (some .int)) (rmq 0 0) 0 0 2 ∧ (Cond.static yX8_letterIn).before args s = true ∧ True := ⟨va_cnB 2 ht (goodC wd3_184) rfl rfl rfl (hN _ (List.mem_of_getElem? (l := nestL) (i := 15) rfl)) (ht _ wd1_1) (by decide +kernel) hR, ht _ wd3_183, trivial⟩
theorem cl_RX3_95 {R : Room} {s : State} {args : Array Value} (hN : Nst s) (ht : ∀ w ∈ lw_all, w.before args s = true) (hR : 0 + 1 ≤ R.frames ∧ 8 + (2 + 11) + 0 ≤ R.locals) : va_CN R s args RX3 95 yX8_at "LinesOfFragments" cX8_at 2 (some .int) (wsq yX8_at cX8_at 2 (some .int)) (rmq 0 0) 0 0 2 ∧ (Cond.static yX8_at).before args s = true ∧ True := ⟨va_cnB 2 ht (goodC wd2_135) rfl rfl rfl (hN _ (List.mem_of_getElem? (l := nestL) (i := 16) rfl)) (ht _ wd1_1) (by decide +kernel) hR, ht _ wd2_134, trivial⟩
def f_X3_widthOf_L15 (k0 : Nat) (p1 : Int32) (M : Mem) (x1 : Int64) (K5 : Int32 → Int32 → Option (Int32)) (x3 : Int32) (x4 : Int32) : Option (Int32) := (bq1 (f_X7_lengthOf (k0 + 2) p1 M) (fun (x10 : Int32) => (if x10 ≤ x4 then (some (x3)) else (bq1 (f_X8_letterIn x1 x4) (fun (x13 : Int32) => bq1 (f_X8_at (k0 + 1) x13 M) (fun (x15 : Int32) => nmq ((x3 + x15)) (fun (x17 : Int32) => nmq (x4 + (1 : Int32)) (fun (x18 : Int32) => (K5 x17 x18)))))))))
def f_X3_widthOf (k0 : Nat) (p1 : Int32) (M : Mem) : Option Int32 := (bq1 (f_X7_spellingOf (k0 + 2) p1 M) (fun (x1 : Int64) => (bq1 (lq2 (f_X3_widthOf_L15 k0 p1 M x1) FU (0 : Int32) (0 : Int32)) (fun (x7 : Int32) => some x7))))
set_option maxHeartbeats 4000000 in
set_option maxRecDepth 100000 in
theorem ct_X3_widthOf (l : Launch) (G : GG) {k0 : Nat} {p1 : Int32} {M : Mem} {r : Int32} (hk0 : isT 3 k0) (hf : f_X3_widthOf k0 p1 M = some r) : Met l yX3_widthOf (wsq yX3_widthOf cX3_widthOf 6 (some .int)) (rmq 2 42) (va_Pc [.ref (G.2.2.1 k0), .int p1] (World G M)) (Qi G r M) 0 0 (adA G) := by
  refine x_start (plainFor_of_name (by decide)) (Nat.le_of_ble_eq_true rfl) ?_
  intro p e s m args below meth c hB hr hlk hW hS ls hl
  have hx := hB.x
  have hb := hB.b
  have hl : lv_has ls 6 [(0, .ref (G.2.2.1 k0)), (1, .int p1)] := hl
  unfold f_X3_widthOf at hf
  refine lv_aload_n hx hb dX3_widthOf_0 rfl (lv_at hl 0 rfl) ?_
  refine fg3_1 hB hW hk0 wd1_93 dX3_widthOf_1 ?_
  refine lv_iload_n hx hb dX3_widthOf_4 rfl (lv_at hl 1 rfl) ?_
  obtain ⟨x1, hg2, hf⟩ := b_o1 hf
  refine x_cl hB (x_rv hB hW hS (As := [.int p1]) (rest := []) (ct_X7_spellingOf l G (rf3_1 hk0) hg2) (cl_RX3_83 hB.2.2.2.2.1 ⟨Nat.le_of_ble_eq_true rfl, Nat.le_of_ble_eq_true rfl⟩) (rf3_1 hk0) (by decide) rfl rfl hl.1 rfl (Nat.le_of_ble_eq_true rfl) dX3_widthOf_5 ⟨Nat.le_refl _, Nat.le_refl _⟩) hS (fun H locs hW hS => ?_)
  refine lv_lstore_n (lv' := [(2, .long x1), (0, .ref (G.2.2.1 k0)), (1, .int p1)]) hx hb dX3_widthOf_8 rfl hl (by decide) rfl (fun ls hl => ?_)
  refine lv_iconst (v := (0 : Int32)) hx hb dX3_widthOf_9 (by decide) ?_
  refine lv_istore (lv' := [(4, .int (0 : Int32)), (2, .long x1), (0, .ref (G.2.2.1 k0)), (1, .int p1)]) hx hb dX3_widthOf_10 hl (by decide) rfl (fun ls hl => ?_)
  refine lv_iconst (v := (0 : Int32)) hx hb dX3_widthOf_12 (by decide) ?_
  refine lv_istore (lv' := [(5, .int (0 : Int32)), (4, .int (0 : Int32)), (2, .long x1), (0, .ref (G.2.2.1 k0)), (1, .int p1)]) hx hb dX3_widthOf_13 hl (by decide) rfl (fun ls hl => ?_)
  obtain ⟨y8, hL, hf⟩ := b_o1 hf
  have main9 : ∀ (x7 : Int32) (H : Heap) (locs : List Loc) (ls : Array Slot), Wd G M H → va_S (adA G) s.heap H locs → lv_has ls 6 [(4, .int x7)] → some (x7) = some (y8) → W p l e (rmq 2 42) s m args below meth c H locs 0 0 (MQ below (Qi G r M) args s 0 0 (adA G)) (F0 m 52 ls []) := by
    intro x7 H locs ls hW hS hl hE
    cases hE
    refine lv_iload hx hb dX3_widthOf_52 (lv_at hl 0 rfl) ?_
    exact e_i hB hW hS hr hlk (Option.some.inj hf) rfl dX3_widthOf_54
  have loop6 : ∀ (n : Nat) (x3 : Int32) (x4 : Int32) (H : Heap) (locs : List Loc) (ls : Array Slot), Wd G M H → va_S (adA G) s.heap H locs → lv_has ls 6 [(0, .ref (G.2.2.1 k0)), (1, .int p1), (2, .long x1), (4, .int x3), (5, .int x4)] → lq2 (f_X3_widthOf_L15 k0 p1 M x1) n x3 x4 = some (y8) → W p l e (rmq 2 42) s m args below meth c H locs 0 0 (MQ below (Qi G r M) args s 0 0 (adA G)) (F0 m 15 ls []) := by
    intro n
    induction n with
    | zero => intro x3 x4 H locs ls hW hS hl hf; exact (l_z2 hf).elim
    | succ n ih =>
      intro x3 x4 H locs ls hW hS hl hf
      have hf := l_s2 hf
      generalize lq2 (f_X3_widthOf_L15 k0 p1 M x1) n = K5 at ih hf
      unfold f_X3_widthOf_L15 at hf
      refine lv_iload hx hb dX3_widthOf_15 (lv_at hl 4 rfl) ?_
      refine lv_aload_n hx hb dX3_widthOf_17 rfl (lv_at hl 0 rfl) ?_
      refine fg3_1 hB hW hk0 wd1_93 dX3_widthOf_18 ?_
      refine lv_iload_n hx hb dX3_widthOf_21 rfl (lv_at hl 1 rfl) ?_
      obtain ⟨x10, hg11, hf⟩ := b_o1 hf
      refine x_ci hB (x_rv hB hW hS (As := [.int p1]) (rest := [.int x4]) (ct_X7_lengthOf l G (rf3_1 hk0) hg11) (cl_RX3_87 hB.2.2.2.2.1 ⟨Nat.le_of_ble_eq_true rfl, Nat.le_of_ble_eq_true rfl⟩) (rf3_1 hk0) (by decide) rfl rfl hl.1 rfl (Nat.le_of_ble_eq_true rfl) dX3_widthOf_22 ⟨Nat.le_refl _, Nat.le_refl _⟩) hS (fun H locs hW hS => ?_)
      refine lv_icmp_ge (tgt := 52) hx hb dX3_widthOf_25 (by decide) (fun c12 => ?_) (fun c12 => ?_)
      · have hf := i_t hf c12
        exact main9 x3 _ _ ls hW hS (lv_sub hl [3] rfl) hf
      · have hf := i_f hf c12
        refine lv_iload hx hb dX3_widthOf_28 (lv_at hl 3 rfl) ?_
        refine lv_aload_n hx hb dX3_widthOf_30 rfl (lv_at hl 0 rfl) ?_
        refine fg3_0 hB hW hk0 wd1_90 dX3_widthOf_31 ?_
        refine lv_lload_n hx hb dX3_widthOf_34 rfl (lv_at hl 2 rfl) ?_
        refine lv_iload hx hb dX3_widthOf_35 (lv_at hl 4 rfl) ?_
        obtain ⟨x13, hg14, hf⟩ := b_o1 hf
        refine x_ci hB (x_rn hB hW hS (As := [.long x1, .int x4]) (rest := [.ref (G.2.2.1 (k0 + 1)), .int x3]) (ct_X8_letterIn l G hg14) (cl_RX3_91 hB.nst hB.2.2.2.2.1 ⟨Nat.le_of_ble_eq_true rfl, Nat.le_of_ble_eq_true rfl⟩) rfl hl.1 rfl (Nat.le_of_ble_eq_true rfl) dX3_widthOf_37 ⟨Nat.le_refl _, Nat.le_refl _⟩) hS (fun H locs hW hS => ?_)
        obtain ⟨x15, hg16, hf⟩ := b_o1 hf
        refine x_ci hB (x_rn hB hW hS (As := [.ref (G.2.2.1 (k0 + 1)), .int x13]) (rest := [.int x3]) (ct_X8_at l G (rf3_0 hk0) hg16) (cl_RX3_95 hB.nst hB.2.2.2.2.1 ⟨Nat.le_of_ble_eq_true rfl, Nat.le_of_ble_eq_true rfl⟩) rfl hl.1 rfl (Nat.le_of_ble_eq_true rfl) dX3_widthOf_40 ⟨Nat.le_refl _, Nat.le_refl _⟩) hS (fun H locs hW hS => ?_)
        refine lv_iadd hx hb dX3_widthOf_43 ?_
        refine lv_topi (fun x17 ex17 => ?_)
        have hf := nm_o hf ex17
        refine lv_istore (lv' := [(4, .int x17), (0, .ref (G.2.2.1 k0)), (1, .int p1), (2, .long x1), (5, .int x4)]) hx hb dX3_widthOf_44 hl (by decide) rfl (fun ls hl => ?_)
        obtain ⟨x18, ex18⟩ : ∃ y : Int32, y = x4 + (1 : Int32) := ⟨_, rfl⟩
        have hf := nm_o hf ex18
        refine lv_iinc (v := x18) (lv' := [(5, .int x18), (4, .int x17), (0, .ref (G.2.2.1 k0)), (1, .int p1), (2, .long x1)]) hx hb dX3_widthOf_46 hl (k := 4) rfl (by rw [ex18]; rfl) (by decide) rfl (fun ls hl => ?_)
        refine lv_goto (tgt := 15) hx hb dX3_widthOf_49 (by decide) ?_
        exact ih x17 x18 _ _ ls hW hS (lv_sub hl [2, 3, 4, 1, 0] rfl) hf
  exact loop6 FU (0 : Int32) (0 : Int32) _ _ ls hW hS (lv_sub hl [3, 4, 2, 1, 0] rfl) hL
def f_X7_isForced (k0 : Nat) (p1 : Int32) (M : Mem) : Option Int32 := (bq1 (f_X8_at (k0 + 3) p1 M) (fun (x1 : Int32) => (if x1 = (1 : Int32) then some (1 : Int32) else some (0 : Int32))))
set_option maxHeartbeats 4000000 in
set_option maxRecDepth 100000 in
theorem ct_X7_isForced (l : Launch) (G : GG) {k0 : Nat} {p1 : Int32} {M : Mem} {r : Int32} (hk0 : isT 7 k0) (hf : f_X7_isForced k0 p1 M = some r) : Met l yX7_isForced (wsq yX7_isForced cX7_isForced 2 (some .boolean)) (rmq 1 21) (va_Pc [.ref (G.2.2.1 k0), .int p1] (World G M)) (Qi G r M) 0 0 (adA G) := by
  refine x_start (plainFor_of_name (by decide)) (Nat.le_of_ble_eq_true rfl) ?_
  intro p e s m args below meth c hB hr hlk hW hS ls hl
  have hx := hB.x
  have hb := hB.b
  have hl : lv_has ls 2 [(0, .ref (G.2.2.1 k0)), (1, .int p1)] := hl
  unfold f_X7_isForced at hf
  refine lv_aload_n hx hb dX7_isForced_0 rfl (lv_at hl 0 rfl) ?_
  refine fg7_2 hB hW hk0 wd1_48 dX7_isForced_1 ?_
  refine lv_iload_n hx hb dX7_isForced_4 rfl (lv_at hl 1 rfl) ?_
  obtain ⟨x1, hg2, hf⟩ := b_o1 hf
  refine x_ci hB (x_rn hB hW hS (As := [.ref (G.2.2.1 (k0 + 3)), .int p1]) (rest := []) (ct_X8_at l G (rf7_2 hk0) hg2) (cl_RX7_34 hB.nst hB.2.2.2.2.1 ⟨Nat.le_of_ble_eq_true rfl, Nat.le_of_ble_eq_true rfl⟩) rfl hl.1 rfl (Nat.le_of_ble_eq_true rfl) dX7_isForced_5 ⟨Nat.le_refl _, Nat.le_refl _⟩) hS (fun H locs hW hS => ?_)
  refine lv_iconst (v := (1 : Int32)) hx hb dX7_isForced_8 (by decide) ?_
  refine lv_icmp_ne (tgt := 16) hx hb dX7_isForced_9 (by decide) (fun c3 => ?_) (fun c3 => ?_)
  · have hf := i_f hf c3
    refine lv_iconst (v := (0 : Int32)) hx hb dX7_isForced_16 (by decide) ?_
    exact e_z (by decide) hB hW hS hr hlk (Option.some.inj hf) rfl dX7_isForced_17
  · have hf := i_t hf c3
    refine lv_iconst (v := (1 : Int32)) hx hb dX7_isForced_12 (by decide) ?_
    refine lv_goto (tgt := 17) hx hb dX7_isForced_13 (by decide) ?_
    exact e_z (by decide) hB hW hS hr hlk (Option.some.inj hf) rfl dX7_isForced_17
def f_X3_mayHyphenate (k0 : Nat) (p1 : Int32) (M : Mem) : Option Int32 := (if (gi M k0 11) = (3 : Int32) then some (0 : Int32) else (if (gi M k0 11) = (4 : Int32) then (if p1 ≤ (gi M k0 12) then some (0 : Int32) else some (1 : Int32)) else some (1 : Int32)))
set_option maxHeartbeats 4000000 in
set_option maxRecDepth 100000 in
theorem ct_X3_mayHyphenate (l : Launch) (G : GG) {k0 : Nat} {p1 : Int32} {M : Mem} {r : Int32} (hk0 : isT 3 k0) (hf : f_X3_mayHyphenate k0 p1 M = some r) : Met l yX3_mayHyphenate (wsq yX3_mayHyphenate cX3_mayHyphenate 2 (some .boolean)) (rmq 0 0) (va_Pc [.ref (G.2.2.1 k0), .int p1] (World G M)) (Qi G r M) 0 0 (adA G) := by
  refine x_start (plainFor_of_name (by decide)) (Nat.le_of_ble_eq_true rfl) ?_
  intro p e s m args below meth c hB hr hlk hW hS ls hl
  have hx := hB.x
  have hb := hB.b
  have hl : lv_has ls 2 [(0, .ref (G.2.2.1 k0)), (1, .int p1)] := hl
  unfold f_X3_mayHyphenate at hf
  refine lv_aload_n hx hb dX3_mayHyphenate_0 rfl (lv_at hl 0 rfl) ?_
  refine fg3_11 hB hW hk0 wd1_126 dX3_mayHyphenate_1 ?_
  refine lv_iconst (v := (3 : Int32)) hx hb dX3_mayHyphenate_4 (by decide) ?_
  refine lv_icmp_eq (tgt := 28) hx hb dX3_mayHyphenate_5 (by decide) (fun c1 => ?_) (fun c1 => ?_)
  · have hf := i_t hf c1
    refine lv_iconst (v := (0 : Int32)) hx hb dX3_mayHyphenate_28 (by decide) ?_
    exact e_z (by decide) hB hW hS hr hlk (Option.some.inj hf) rfl dX3_mayHyphenate_29
  · have hf := i_f hf c1
    refine lv_aload_n hx hb dX3_mayHyphenate_8 rfl (lv_at hl 0 rfl) ?_
    refine fg3_11 hB hW hk0 wd1_126 dX3_mayHyphenate_9 ?_
    refine lv_iconst (v := (4 : Int32)) hx hb dX3_mayHyphenate_12 (by decide) ?_
    refine lv_icmp_ne (tgt := 24) hx hb dX3_mayHyphenate_13 (by decide) (fun c2 => ?_) (fun c2 => ?_)
    · have hf := i_f hf c2
      refine lv_iconst (v := (1 : Int32)) hx hb dX3_mayHyphenate_24 (by decide) ?_
      refine lv_goto (tgt := 29) hx hb dX3_mayHyphenate_25 (by decide) ?_
      exact e_z (by decide) hB hW hS hr hlk (Option.some.inj hf) rfl dX3_mayHyphenate_29
    · have hf := i_t hf c2
      refine lv_iload_n hx hb dX3_mayHyphenate_16 rfl (lv_at hl 1 rfl) ?_
      refine lv_aload_n hx hb dX3_mayHyphenate_17 rfl (lv_at hl 0 rfl) ?_
      refine fg3_12 hB hW hk0 wd1_129 dX3_mayHyphenate_18 ?_
      refine lv_icmp_le (tgt := 28) hx hb dX3_mayHyphenate_21 (by decide) (fun c3 => ?_) (fun c3 => ?_)
      · have hf := i_t hf c3
        refine lv_iconst (v := (0 : Int32)) hx hb dX3_mayHyphenate_28 (by decide) ?_
        exact e_z (by decide) hB hW hS hr hlk (Option.some.inj hf) rfl dX3_mayHyphenate_29
      · have hf := i_f hf c3
        refine lv_iconst (v := (1 : Int32)) hx hb dX3_mayHyphenate_24 (by decide) ?_
        refine lv_goto (tgt := 29) hx hb dX3_mayHyphenate_25 (by decide) ?_
        exact e_z (by decide) hB hW hS hr hlk (Option.some.inj hf) rfl dX3_mayHyphenate_29
def f_X4_greatestValue_L6 (k0 : Nat) (p1 : Int64) (p2 : Int32) (M : Mem) (K3 : Int32 → Int32 → Option (Int32)) (x1 : Int32) (x2 : Int32) : Option (Int32) := (if (gi M k0 4) ≤ x2 then (some (x1)) else (bq1 (f_X8_at (k0 + 3) x2 M) (fun (x9 : Int32) => nmq ((p2 - x9)) (fun (x11 : Int32) => bq1 (f_X8_at (k0 + 2) x2 M) (fun (x12 : Int32) => nmq (((lshl (1 : Int64) ((4 : Int32) * x12)) - (1 : Int64))) (fun (x14 : Int64) => (if x11 < 0 then (nmq (x2 + (1 : Int32)) (fun (x16 : Int32) => (K3 x1 x16))) else (bq1 (f_X4_spellingOf k0 x2 M) (fun (x17 : Int64) => (if (lcm ((lush p1 ((4 : Int32) * x11)) &&& x14) x17) = 0 then (bq1 (f_X8_at (k0 + 4) x2 M) (fun (x21 : Int32) => bq1 (f_J9_max_7cf53 x1 x21) (fun (x23 : Int32) => (nmq (x2 + (1 : Int32)) (fun (x25 : Int32) => (K3 x23 x25)))))) else (nmq (x2 + (1 : Int32)) (fun (x20 : Int32) => (K3 x1 x20)))))))))))))
def f_X4_greatestValue (k0 : Nat) (p1 : Int64) (p2 : Int32) (M : Mem) : Option Int32 := (bq1 (lq2 (f_X4_greatestValue_L6 k0 p1 p2 M) FU (0 : Int32) (0 : Int32)) (fun (x5 : Int32) => some x5))
set_option maxHeartbeats 4000000 in
set_option maxRecDepth 100000 in
theorem ct_X4_greatestValue (l : Launch) (G : GG) {k0 : Nat} {p1 : Int64} {p2 : Int32} {M : Mem} {r : Int32} (hk0 : isT 4 k0) (hf : f_X4_greatestValue k0 p1 p2 M = some r) : Met l yX4_greatestValue (wsq yX4_greatestValue cX4_greatestValue 9 (some .int)) (rmq 1 21) (va_Pc [.ref (G.2.2.1 k0), .long p1, .int p2] (World G M)) (Qi G r M) 0 0 (adA G) := by
  refine x_start (plainFor_of_name (by decide)) (Nat.le_of_ble_eq_true rfl) ?_
  intro p e s m args below meth c hB hr hlk hW hS ls hl
  have hx := hB.x
  have hb := hB.b
  have hl : lv_has ls 9 [(0, .ref (G.2.2.1 k0)), (1, .long p1), (3, .int p2)] := hl
  unfold f_X4_greatestValue at hf
  refine lv_iconst (v := (0 : Int32)) hx hb dX4_greatestValue_0 (by decide) ?_
  refine lv_istore (lv' := [(4, .int (0 : Int32)), (0, .ref (G.2.2.1 k0)), (1, .long p1), (3, .int p2)]) hx hb dX4_greatestValue_1 hl (by decide) rfl (fun ls hl => ?_)
  refine lv_iconst (v := (0 : Int32)) hx hb dX4_greatestValue_3 (by decide) ?_
  refine lv_istore (lv' := [(5, .int (0 : Int32)), (4, .int (0 : Int32)), (0, .ref (G.2.2.1 k0)), (1, .long p1), (3, .int p2)]) hx hb dX4_greatestValue_4 hl (by decide) rfl (fun ls hl => ?_)
  obtain ⟨y6, hL, hf⟩ := b_o1 hf
  have main7 : ∀ (x5 : Int32) (H : Heap) (locs : List Loc) (ls : Array Slot), Wd G M H → va_S (adA G) s.heap H locs → lv_has ls 9 [(4, .int x5)] → some (x5) = some (y6) → W p l e (rmq 1 21) s m args below meth c H locs 0 0 (MQ below (Qi G r M) args s 0 0 (adA G)) (F0 m 91 ls []) := by
    intro x5 H locs ls hW hS hl hE
    cases hE
    refine lv_iload hx hb dX4_greatestValue_91 (lv_at hl 0 rfl) ?_
    exact e_i hB hW hS hr hlk (Option.some.inj hf) rfl dX4_greatestValue_93
  have loop4 : ∀ (n : Nat) (x1 : Int32) (x2 : Int32) (H : Heap) (locs : List Loc) (ls : Array Slot), Wd G M H → va_S (adA G) s.heap H locs → lv_has ls 9 [(0, .ref (G.2.2.1 k0)), (1, .long p1), (3, .int p2), (4, .int x1), (5, .int x2)] → lq2 (f_X4_greatestValue_L6 k0 p1 p2 M) n x1 x2 = some (y6) → W p l e (rmq 1 21) s m args below meth c H locs 0 0 (MQ below (Qi G r M) args s 0 0 (adA G)) (F0 m 6 ls []) := by
    intro n
    induction n with
    | zero => intro x1 x2 H locs ls hW hS hl hf; exact (l_z2 hf).elim
    | succ n ih =>
      intro x1 x2 H locs ls hW hS hl hf
      have hf := l_s2 hf
      generalize lq2 (f_X4_greatestValue_L6 k0 p1 p2 M) n = K3 at ih hf
      unfold f_X4_greatestValue_L6 at hf
      refine lv_iload hx hb dX4_greatestValue_6 (lv_at hl 4 rfl) ?_
      refine lv_aload_n hx hb dX4_greatestValue_8 rfl (lv_at hl 0 rfl) ?_
      refine fg4_4 hB hW hk0 wd1_77 dX4_greatestValue_9 ?_
      refine lv_icmp_ge (tgt := 91) hx hb dX4_greatestValue_12 (by decide) (fun c8 => ?_) (fun c8 => ?_)
      · have hf := i_t hf c8
        exact main7 x1 _ _ ls hW hS (lv_sub hl [3] rfl) hf
      · have hf := i_f hf c8
        refine lv_iload_n hx hb dX4_greatestValue_15 rfl (lv_at hl 2 rfl) ?_
        refine lv_aload_n hx hb dX4_greatestValue_16 rfl (lv_at hl 0 rfl) ?_
        refine fg4_2 hB hW hk0 wd1_73 dX4_greatestValue_17 ?_
        refine lv_iload hx hb dX4_greatestValue_20 (lv_at hl 4 rfl) ?_
        obtain ⟨x9, hg10, hf⟩ := b_o1 hf
        refine x_ci hB (x_rn hB hW hS (As := [.ref (G.2.2.1 (k0 + 3)), .int x2]) (rest := [.int p2]) (ct_X8_at l G (rf4_2 hk0) hg10) (cl_RX4_58 hB.nst hB.2.2.2.2.1 ⟨Nat.le_of_ble_eq_true rfl, Nat.le_of_ble_eq_true rfl⟩) rfl hl.1 rfl (Nat.le_of_ble_eq_true rfl) dX4_greatestValue_22 ⟨Nat.le_refl _, Nat.le_refl _⟩) hS (fun H locs hW hS => ?_)
        refine lv_isub hx hb dX4_greatestValue_25 ?_
        refine lv_topi (fun x11 ex11 => ?_)
        have hf := nm_o hf ex11
        refine lv_istore (lv' := [(6, .int x11), (0, .ref (G.2.2.1 k0)), (1, .long p1), (3, .int p2), (4, .int x1), (5, .int x2)]) hx hb dX4_greatestValue_26 hl (by decide) rfl (fun ls hl => ?_)
        refine lv_lconst (v := (1 : Int64)) hx hb dX4_greatestValue_28 (by decide) ?_
        refine lv_iconst (v := (4 : Int32)) hx hb dX4_greatestValue_29 (by decide) ?_
        refine lv_aload_n hx hb dX4_greatestValue_30 rfl (lv_at hl 1 rfl) ?_
        refine fg4_1 hB hW hk0 wd1_71 dX4_greatestValue_31 ?_
        refine lv_iload hx hb dX4_greatestValue_34 (lv_at hl 5 rfl) ?_
        obtain ⟨x12, hg13, hf⟩ := b_o1 hf
        refine x_ci hB (x_rn hB hW hS (As := [.ref (G.2.2.1 (k0 + 2)), .int x2]) (rest := [.int (4 : Int32), .long (1 : Int64)]) (ct_X8_at l G (rf4_1 hk0) hg13) (cl_RX4_58 hB.nst hB.2.2.2.2.1 ⟨Nat.le_of_ble_eq_true rfl, Nat.le_of_ble_eq_true rfl⟩) rfl hl.1 rfl (Nat.le_of_ble_eq_true rfl) dX4_greatestValue_36 ⟨Nat.le_refl _, Nat.le_refl _⟩) hS (fun H locs hW hS => ?_)
        refine lv_imul hx hb dX4_greatestValue_39 ?_
        refine lv_lshl hx hb dX4_greatestValue_40 rfl ?_
        refine lv_lconst (v := (1 : Int64)) hx hb dX4_greatestValue_41 (by decide) ?_
        refine lv_lsub hx hb dX4_greatestValue_42 ?_
        refine lv_topl (fun x14 ex14 => ?_)
        have hf := nm_o hf ex14
        refine lv_lstore (lv' := [(7, .long x14), (6, .int x11), (0, .ref (G.2.2.1 k0)), (1, .long p1), (3, .int p2), (4, .int x1), (5, .int x2)]) hx hb dX4_greatestValue_43 hl (by decide) rfl (fun ls hl => ?_)
        refine lv_iload hx hb dX4_greatestValue_45 (lv_at hl 1 rfl) ?_
        refine lv_if_lt (tgt := 85) hx hb dX4_greatestValue_47 (by decide) (fun c15 => ?_) (fun c15 => ?_)
        · have hf := i_t hf c15
          obtain ⟨x16, ex16⟩ : ∃ y : Int32, y = x2 + (1 : Int32) := ⟨_, rfl⟩
          have hf := nm_o hf ex16
          refine lv_iinc (v := x16) (lv' := [(5, .int x16), (7, .long x14), (6, .int x11), (0, .ref (G.2.2.1 k0)), (1, .long p1), (3, .int p2), (4, .int x1)]) hx hb dX4_greatestValue_85 hl (k := 6) rfl (by rw [ex16]; rfl) (by decide) rfl (fun ls hl => ?_)
          refine lv_goto (tgt := 6) hx hb dX4_greatestValue_88 (by decide) ?_
          exact ih x1 x16 _ _ ls hW hS (lv_sub hl [3, 4, 5, 6, 0] rfl) hf
        · have hf := i_f hf c15
          refine lv_lload_n hx hb dX4_greatestValue_50 rfl (lv_at hl 3 rfl) ?_
          refine lv_iconst (v := (4 : Int32)) hx hb dX4_greatestValue_51 (by decide) ?_
          refine lv_iload hx hb dX4_greatestValue_52 (lv_at hl 1 rfl) ?_
          refine lv_imul hx hb dX4_greatestValue_54 ?_
          refine lv_lushr hx hb dX4_greatestValue_55 rfl ?_
          refine lv_lload hx hb dX4_greatestValue_56 (lv_at hl 0 rfl) ?_
          refine lv_land hx hb dX4_greatestValue_58 ?_
          refine lv_aload_n hx hb dX4_greatestValue_59 rfl (lv_at hl 2 rfl) ?_
          refine lv_iload hx hb dX4_greatestValue_60 (lv_at hl 6 rfl) ?_
          obtain ⟨x17, hg18, hf⟩ := b_o1 hf
          refine x_cl hB (x_rv hB hW hS (As := [.int x2]) (rest := [.long ((lush p1 ((4 : Int32) * x11)) &&& x14)]) (ct_X4_spellingOf l G hk0 hg18) (cl_RX4_37 hB.2.2.2.2.1 ⟨Nat.le_of_ble_eq_true rfl, Nat.le_of_ble_eq_true rfl⟩) hk0 (by decide) rfl rfl hl.1 rfl (Nat.le_of_ble_eq_true rfl) dX4_greatestValue_62 ⟨Nat.le_refl _, Nat.le_refl _⟩) hS (fun H locs hW hS => ?_)
          refine W.lcmp hx hb dX4_greatestValue_65 ?_
          refine lv_if_ne (tgt := 85) hx hb dX4_greatestValue_66 (by decide) (fun c19 => ?_) (fun c19 => ?_)
          · have hf := i_f hf c19
            obtain ⟨x20, ex20⟩ : ∃ y : Int32, y = x2 + (1 : Int32) := ⟨_, rfl⟩
            have hf := nm_o hf ex20
            refine lv_iinc (v := x20) (lv' := [(5, .int x20), (7, .long x14), (6, .int x11), (0, .ref (G.2.2.1 k0)), (1, .long p1), (3, .int p2), (4, .int x1)]) hx hb dX4_greatestValue_85 hl (k := 6) rfl (by rw [ex20]; rfl) (by decide) rfl (fun ls hl => ?_)
            refine lv_goto (tgt := 6) hx hb dX4_greatestValue_88 (by decide) ?_
            exact ih x1 x20 _ _ ls hW hS (lv_sub hl [3, 4, 5, 6, 0] rfl) hf
          · have hf := i_t hf c19
            refine lv_iload hx hb dX4_greatestValue_69 (lv_at hl 5 rfl) ?_
            refine lv_aload_n hx hb dX4_greatestValue_71 rfl (lv_at hl 2 rfl) ?_
            refine fg4_3 hB hW hk0 wd1_75 dX4_greatestValue_72 ?_
            refine lv_iload hx hb dX4_greatestValue_75 (lv_at hl 6 rfl) ?_
            obtain ⟨x21, hg22, hf⟩ := b_o1 hf
            refine x_ci hB (x_rn hB hW hS (As := [.ref (G.2.2.1 (k0 + 4)), .int x2]) (rest := [.int x1]) (ct_X8_at l G (rf4_3 hk0) hg22) (cl_RX4_58 hB.nst hB.2.2.2.2.1 ⟨Nat.le_of_ble_eq_true rfl, Nat.le_of_ble_eq_true rfl⟩) rfl hl.1 rfl (Nat.le_of_ble_eq_true rfl) dX4_greatestValue_77 ⟨Nat.le_refl _, Nat.le_refl _⟩) hS (fun H locs hW hS => ?_)
            obtain ⟨x23, hg24, hf⟩ := b_o1 hf
            refine x_ci hB (x_rs hB hW hS (As := [.int x1, .int x21]) (rest := []) (ct_J9_max_7cf53 l G hg24) (cl_RX4_52 hB.2.2.2.2.1 ⟨Nat.le_of_ble_eq_true rfl, Nat.le_of_ble_eq_true rfl⟩) rfl hl.1 rfl (Nat.le_of_ble_eq_true rfl) dX4_greatestValue_80 ⟨Nat.le_refl _, Nat.le_refl _⟩) hS (fun H locs hW hS => ?_)
            refine lv_istore (lv' := [(4, .int x23), (7, .long x14), (6, .int x11), (0, .ref (G.2.2.1 k0)), (1, .long p1), (3, .int p2), (5, .int x2)]) hx hb dX4_greatestValue_83 hl (by decide) rfl (fun ls hl => ?_)
            obtain ⟨x25, ex25⟩ : ∃ y : Int32, y = x2 + (1 : Int32) := ⟨_, rfl⟩
            have hf := nm_o hf ex25
            refine lv_iinc (v := x25) (lv' := [(5, .int x25), (4, .int x23), (7, .long x14), (6, .int x11), (0, .ref (G.2.2.1 k0)), (1, .long p1), (3, .int p2)]) hx hb dX4_greatestValue_85 hl (k := 6) rfl (by rw [ex25]; rfl) (by decide) rfl (fun ls hl => ?_)
            refine lv_goto (tgt := 6) hx hb dX4_greatestValue_88 (by decide) ?_
            exact ih x23 x25 _ _ ls hW hS (lv_sub hl [4, 5, 6, 1, 0] rfl) hf
  exact loop4 FU (0 : Int32) (0 : Int32) _ _ ls hW hS (lv_sub hl [2, 3, 4, 1, 0] rfl) hL
theorem cl_RX3_99 {R : Room} {s : State} {args : Array Value} (ht : ∀ w ∈ lw_all, w.before args s = true) (hR : 0 + 1 ≤ R.frames ∧ 8 + (2 + 11) + 0 ≤ R.locals) : CallW R s args RX3 RX3 99 yX3_mayHyphenate cX3_mayHyphenate 2 (some .boolean) (wsq yX3_mayHyphenate cX3_mayHyphenate 2 (some .boolean)) (rmq 0 0) 0 0 1 := cwV 1 ht (goodV wd3_195 wd3_197 wsel_19 wd1_2 wd3_198) rfl rfl rfl (by decide +kernel) hR
theorem cl_RX3_103 {R : Room} {s : State} {args : Array Value} (ht : ∀ w ∈ lw_all, w.before args s = true) (hR : 1 + 1 ≤ R.frames ∧ 8 + (9 + 11) + 21 ≤ R.locals) : CallW R s args RX3 RX4 103 yX4_greatestValue cX4_greatestValue 9 (some .int) (wsq yX4_greatestValue cX4_greatestValue 9 (some .int)) (rmq 1 21) 0 0 2 := cwV 2 ht (goodV wd3_199 wd3_200 wd3_201 wd1_4 wd3_202) rfl rfl rfl (by decide +kernel) hR
def f_X3_hyphenPlaces_L35 (k0 : Nat) (M : Mem) (x1 : Int32) (x3 : Int64) (K10 : Int32 → Int32 → Option (Int32)) (x8 : Int32) (x9 : Int32) : Option (Int32) := (if (x1 - (2 : Int32)) < x9 then (some (x8)) else (bq1 (f_X4_greatestValue (k0 + 6) x3 x9 M) (fun (x16 : Int32) => (if (irm x16 (2 : Int32)) = (1 : Int32) then (nmq ((x8 ||| (ishl_ (1 : Int32) x9))) (fun (x20 : Int32) => (nmq (x9 + (1 : Int32)) (fun (x21 : Int32) => (K10 x20 x21))))) else (nmq (x9 + (1 : Int32)) (fun (x19 : Int32) => (K10 x8 x19)))))))
def f_X3_hyphenPlaces (k0 : Nat) (p1 : Int32) (M : Mem) : Option Int32 := (bq1 (f_X7_lengthOf (k0 + 2) p1 M) (fun (x1 : Int32) => bq1 (f_X7_spellingOf (k0 + 2) p1 M) (fun (x3 : Int64) => bq1 (f_X3_mayHyphenate k0 x1 M) (fun (x5 : Int32) => (if x5 = 0 then some (0 : Int32) else (bq1 (lq2 (f_X3_hyphenPlaces_L35 k0 M x1 x3) FU (0 : Int32) (2 : Int32)) (fun (x12 : Int32) => some x12)))))))
set_option maxHeartbeats 4000000 in
set_option maxRecDepth 100000 in
theorem ct_X3_hyphenPlaces (l : Launch) (G : GG) {k0 : Nat} {p1 : Int32} {M : Mem} {r : Int32} (hk0 : isT 3 k0) (hf : f_X3_hyphenPlaces k0 p1 M = some r) : Met l yX3_hyphenPlaces (wsq yX3_hyphenPlaces cX3_hyphenPlaces 7 (some .int)) (rmq 2 49) (va_Pc [.ref (G.2.2.1 k0), .int p1] (World G M)) (Qi G r M) 0 0 (adA G) := by
  refine x_start (plainFor_of_name (by decide)) (Nat.le_of_ble_eq_true rfl) ?_
  intro p e s m args below meth c hB hr hlk hW hS ls hl
  have hx := hB.x
  have hb := hB.b
  have hl : lv_has ls 7 [(0, .ref (G.2.2.1 k0)), (1, .int p1)] := hl
  unfold f_X3_hyphenPlaces at hf
  refine lv_aload_n hx hb dX3_hyphenPlaces_0 rfl (lv_at hl 0 rfl) ?_
  refine fg3_1 hB hW hk0 wd1_93 dX3_hyphenPlaces_1 ?_
  refine lv_iload_n hx hb dX3_hyphenPlaces_4 rfl (lv_at hl 1 rfl) ?_
  obtain ⟨x1, hg2, hf⟩ := b_o1 hf
  refine x_ci hB (x_rv hB hW hS (As := [.int p1]) (rest := []) (ct_X7_lengthOf l G (rf3_1 hk0) hg2) (cl_RX3_87 hB.2.2.2.2.1 ⟨Nat.le_of_ble_eq_true rfl, Nat.le_of_ble_eq_true rfl⟩) (rf3_1 hk0) (by decide) rfl rfl hl.1 rfl (Nat.le_of_ble_eq_true rfl) dX3_hyphenPlaces_5 ⟨Nat.le_refl _, Nat.le_refl _⟩) hS (fun H locs hW hS => ?_)
  refine lv_istore_n (lv' := [(2, .int x1), (0, .ref (G.2.2.1 k0)), (1, .int p1)]) hx hb dX3_hyphenPlaces_8 rfl hl (by decide) rfl (fun ls hl => ?_)
  refine lv_aload_n hx hb dX3_hyphenPlaces_9 rfl (lv_at hl 1 rfl) ?_
  refine fg3_1 hB hW hk0 wd1_93 dX3_hyphenPlaces_10 ?_
  refine lv_iload_n hx hb dX3_hyphenPlaces_13 rfl (lv_at hl 2 rfl) ?_
  obtain ⟨x3, hg4, hf⟩ := b_o1 hf
  refine x_cl hB (x_rv hB hW hS (As := [.int p1]) (rest := []) (ct_X7_spellingOf l G (rf3_1 hk0) hg4) (cl_RX3_83 hB.2.2.2.2.1 ⟨Nat.le_of_ble_eq_true rfl, Nat.le_of_ble_eq_true rfl⟩) (rf3_1 hk0) (by decide) rfl rfl hl.1 rfl (Nat.le_of_ble_eq_true rfl) dX3_hyphenPlaces_14 ⟨Nat.le_refl _, Nat.le_refl _⟩) hS (fun H locs hW hS => ?_)
  refine lv_lstore_n (lv' := [(3, .long x3), (2, .int x1), (0, .ref (G.2.2.1 k0)), (1, .int p1)]) hx hb dX3_hyphenPlaces_17 rfl hl (by decide) rfl (fun ls hl => ?_)
  refine lv_iconst (v := (0 : Int32)) hx hb dX3_hyphenPlaces_18 (by decide) ?_
  refine lv_istore (lv' := [(5, .int (0 : Int32)), (3, .long x3), (2, .int x1), (0, .ref (G.2.2.1 k0)), (1, .int p1)]) hx hb dX3_hyphenPlaces_19 hl (by decide) rfl (fun ls hl => ?_)
  refine lv_aload_n hx hb dX3_hyphenPlaces_21 rfl (lv_at hl 3 rfl) ?_
  refine lv_iload_n hx hb dX3_hyphenPlaces_22 rfl (lv_at hl 2 rfl) ?_
  obtain ⟨x5, hg6, hf⟩ := b_o1 hf
  refine x_ci hB (x_rv hB hW hS (As := [.int x1]) (rest := []) (ct_X3_mayHyphenate l G hk0 hg6) (cl_RX3_99 hB.2.2.2.2.1 ⟨Nat.le_of_ble_eq_true rfl, Nat.le_of_ble_eq_true rfl⟩) hk0 (by decide) rfl rfl hl.1 rfl (Nat.le_of_ble_eq_true rfl) dX3_hyphenPlaces_23 ⟨Nat.le_refl _, Nat.le_refl _⟩) hS (fun H locs hW hS => ?_)
  refine lv_if_ne (tgt := 32) hx hb dX3_hyphenPlaces_26 (by decide) (fun c7 => ?_) (fun c7 => ?_)
  · have hf := i_f hf c7
    refine lv_iconst (v := (2 : Int32)) hx hb dX3_hyphenPlaces_32 (by decide) ?_
    refine lv_istore (lv' := [(6, .int (2 : Int32)), (5, .int (0 : Int32)), (3, .long x3), (2, .int x1), (0, .ref (G.2.2.1 k0)), (1, .int p1)]) hx hb dX3_hyphenPlaces_33 hl (by decide) rfl (fun ls hl => ?_)
    obtain ⟨y13, hL, hf⟩ := b_o1 hf
    have main14 : ∀ (x12 : Int32) (H : Heap) (locs : List Loc) (ls : Array Slot), Wd G M H → va_S (adA G) s.heap H locs → lv_has ls 7 [(5, .int x12)] → some (x12) = some (y13) → W p l e (rmq 2 49) s m args below meth c H locs 0 0 (MQ below (Qi G r M) args s 0 0 (adA G)) (F0 m 74 ls []) := by
      intro x12 H locs ls hW hS hl hE
      cases hE
      refine lv_iload hx hb dX3_hyphenPlaces_74 (lv_at hl 0 rfl) ?_
      exact e_i hB hW hS hr hlk (Option.some.inj hf) rfl dX3_hyphenPlaces_76
    have loop11 : ∀ (n : Nat) (x8 : Int32) (x9 : Int32) (H : Heap) (locs : List Loc) (ls : Array Slot), Wd G M H → va_S (adA G) s.heap H locs → lv_has ls 7 [(0, .ref (G.2.2.1 k0)), (2, .int x1), (3, .long x3), (5, .int x8), (6, .int x9)] → lq2 (f_X3_hyphenPlaces_L35 k0 M x1 x3) n x8 x9 = some (y13) → W p l e (rmq 2 49) s m args below meth c H locs 0 0 (MQ below (Qi G r M) args s 0 0 (adA G)) (F0 m 35 ls []) := by
      intro n
      induction n with
      | zero => intro x8 x9 H locs ls hW hS hl hf; exact (l_z2 hf).elim
      | succ n ih =>
        intro x8 x9 H locs ls hW hS hl hf
        have hf := l_s2 hf
        generalize lq2 (f_X3_hyphenPlaces_L35 k0 M x1 x3) n = K10 at ih hf
        unfold f_X3_hyphenPlaces_L35 at hf
        refine lv_iload hx hb dX3_hyphenPlaces_35 (lv_at hl 4 rfl) ?_
        refine lv_iload_n hx hb dX3_hyphenPlaces_37 rfl (lv_at hl 1 rfl) ?_
        refine lv_iconst (v := (2 : Int32)) hx hb dX3_hyphenPlaces_38 (by decide) ?_
        refine lv_isub hx hb dX3_hyphenPlaces_39 ?_
        refine lv_icmp_gt (tgt := 74) hx hb dX3_hyphenPlaces_40 (by decide) (fun c15 => ?_) (fun c15 => ?_)
        · have hf := i_t hf c15
          exact main14 x8 _ _ ls hW hS (lv_sub hl [3] rfl) hf
        · have hf := i_f hf c15
          refine lv_aload_n hx hb dX3_hyphenPlaces_43 rfl (lv_at hl 0 rfl) ?_
          refine fg3_2 hB hW hk0 wd1_97 dX3_hyphenPlaces_44 ?_
          refine lv_lload_n hx hb dX3_hyphenPlaces_47 rfl (lv_at hl 2 rfl) ?_
          refine lv_iload hx hb dX3_hyphenPlaces_48 (lv_at hl 4 rfl) ?_
          obtain ⟨x16, hg17, hf⟩ := b_o1 hf
          refine x_ci hB (x_rv hB hW hS (As := [.long x3, .int x9]) (rest := []) (ct_X4_greatestValue l G (rf3_2 hk0) hg17) (cl_RX3_103 hB.2.2.2.2.1 ⟨Nat.le_of_ble_eq_true rfl, Nat.le_of_ble_eq_true rfl⟩) (rf3_2 hk0) (by decide) rfl rfl hl.1 rfl (Nat.le_of_ble_eq_true rfl) dX3_hyphenPlaces_50 ⟨Nat.le_refl _, Nat.le_refl _⟩) hS (fun H locs hW hS => ?_)
          refine lv_iconst (v := (2 : Int32)) hx hb dX3_hyphenPlaces_53 (by decide) ?_
          refine lv_irem hx hb dX3_hyphenPlaces_54 (by decide) ?_
          refine lv_iconst (v := (1 : Int32)) hx hb dX3_hyphenPlaces_55 (by decide) ?_
          refine lv_icmp_ne (tgt := 68) hx hb dX3_hyphenPlaces_56 (by decide) (fun c18 => ?_) (fun c18 => ?_)
          · have hf := i_f hf c18
            obtain ⟨x19, ex19⟩ : ∃ y : Int32, y = x9 + (1 : Int32) := ⟨_, rfl⟩
            have hf := nm_o hf ex19
            refine lv_iinc (v := x19) (lv' := [(6, .int x19), (0, .ref (G.2.2.1 k0)), (2, .int x1), (3, .long x3), (5, .int x8)]) hx hb dX3_hyphenPlaces_68 hl (k := 4) rfl (by rw [ex19]; rfl) (by decide) rfl (fun ls hl => ?_)
            refine lv_goto (tgt := 35) hx hb dX3_hyphenPlaces_71 (by decide) ?_
            exact ih x8 x19 _ _ ls hW hS (lv_sub hl [1, 2, 3, 4, 0] rfl) hf
          · have hf := i_t hf c18
            refine lv_iload hx hb dX3_hyphenPlaces_59 (lv_at hl 3 rfl) ?_
            refine lv_iconst (v := (1 : Int32)) hx hb dX3_hyphenPlaces_61 (by decide) ?_
            refine lv_iload hx hb dX3_hyphenPlaces_62 (lv_at hl 4 rfl) ?_
            refine lv_ishl hx hb dX3_hyphenPlaces_64 ?_
            refine lv_ior hx hb dX3_hyphenPlaces_65 ?_
            refine lv_topi (fun x20 ex20 => ?_)
            have hf := nm_o hf ex20
            refine lv_istore (lv' := [(5, .int x20), (0, .ref (G.2.2.1 k0)), (2, .int x1), (3, .long x3), (6, .int x9)]) hx hb dX3_hyphenPlaces_66 hl (by decide) rfl (fun ls hl => ?_)
            obtain ⟨x21, ex21⟩ : ∃ y : Int32, y = x9 + (1 : Int32) := ⟨_, rfl⟩
            have hf := nm_o hf ex21
            refine lv_iinc (v := x21) (lv' := [(6, .int x21), (5, .int x20), (0, .ref (G.2.2.1 k0)), (2, .int x1), (3, .long x3)]) hx hb dX3_hyphenPlaces_68 hl (k := 4) rfl (by rw [ex21]; rfl) (by decide) rfl (fun ls hl => ?_)
            refine lv_goto (tgt := 35) hx hb dX3_hyphenPlaces_71 (by decide) ?_
            exact ih x20 x21 _ _ ls hW hS (lv_sub hl [2, 3, 4, 1, 0] rfl) hf
    exact loop11 FU (0 : Int32) (2 : Int32) _ _ ls hW hS (lv_sub hl [4, 3, 2, 1, 0] rfl) hL
  · have hf := i_t hf c7
    refine lv_iload hx hb dX3_hyphenPlaces_29 (lv_at hl 0 rfl) ?_
    exact e_i hB hW hS hr hlk (Option.some.inj hf) rfl dX3_hyphenPlaces_31
def f_J6_bitCount_0f7a4 (p1 : Int32) : Option Int32 := (nmq ((p1 - ((iush p1 (1 : Int32)) &&& (1431655765 : Int32)))) (fun (x1 : Int32) => nmq (((x1 &&& (858993459 : Int32)) + ((iush x1 (2 : Int32)) &&& (858993459 : Int32)))) (fun (x2 : Int32) => nmq (((x2 + (iush x2 (4 : Int32))) &&& (252645135 : Int32))) (fun (x3 : Int32) => nmq ((x3 + (iush x3 (8 : Int32)))) (fun (x4 : Int32) => nmq ((x4 + (iush x4 (16 : Int32)))) (fun (x5 : Int32) => some (x5 &&& (63 : Int32))))))))
set_option maxHeartbeats 4000000 in
set_option maxRecDepth 100000 in
theorem ct_J6_bitCount_0f7a4 (l : Launch) (G : GG) {p1 : Int32} {M : Mem} {r : Int32}  (hf : f_J6_bitCount_0f7a4 p1 = some r) : Met l yJ6_bitCount_0f7a4 (wsq yJ6_bitCount_0f7a4 cJ6_bitCount_0f7a4 1 (some .int)) (rmq 0 0) (va_Pc [.int p1] (World G M)) (Qi G r M) 0 0 (adA G) := by
  refine x_start (by decide +kernel) (Nat.le_of_ble_eq_true rfl) ?_
  intro p e s m args below meth c hB hr hlk hW hS ls hl
  have hx := hB.x
  have hb := hB.b
  have hl : lv_has ls 1 [(0, .int p1)] := hl
  unfold f_J6_bitCount_0f7a4 at hf
  refine lv_iload_n hx hb dJ6_bitCount_0f7a4_0 rfl (lv_at hl 0 rfl) ?_
  refine lv_iload_n hx hb dJ6_bitCount_0f7a4_1 rfl (lv_at hl 0 rfl) ?_
  refine lv_iconst (v := (1 : Int32)) hx hb dJ6_bitCount_0f7a4_2 (by decide) ?_
  refine lv_iushr hx hb dJ6_bitCount_0f7a4_3 rfl ?_
  refine lv_ldcw (v := (1431655765 : Int32)) hx hb hB.ow (hB.w wd3_206) dJ6_bitCount_0f7a4_4 ?_
  refine lv_iand hx hb dJ6_bitCount_0f7a4_7 ?_
  refine lv_isub hx hb dJ6_bitCount_0f7a4_8 ?_
  refine lv_topi (fun x1 ex1 => ?_)
  have hf := nm_o hf ex1
  refine lv_istore_n (lv' := [(0, .int x1)]) hx hb dJ6_bitCount_0f7a4_9 rfl hl (by decide) rfl (fun ls hl => ?_)
  refine lv_iload_n hx hb dJ6_bitCount_0f7a4_10 rfl (lv_at hl 0 rfl) ?_
  refine lv_ldcw (v := (858993459 : Int32)) hx hb hB.ow (hB.w wd3_207) dJ6_bitCount_0f7a4_11 ?_
  refine lv_iand hx hb dJ6_bitCount_0f7a4_14 ?_
  refine lv_iload_n hx hb dJ6_bitCount_0f7a4_15 rfl (lv_at hl 0 rfl) ?_
  refine lv_iconst (v := (2 : Int32)) hx hb dJ6_bitCount_0f7a4_16 (by decide) ?_
  refine lv_iushr hx hb dJ6_bitCount_0f7a4_17 rfl ?_
  refine lv_ldcw (v := (858993459 : Int32)) hx hb hB.ow (hB.w wd3_207) dJ6_bitCount_0f7a4_18 ?_
  refine lv_iand hx hb dJ6_bitCount_0f7a4_21 ?_
  refine lv_iadd hx hb dJ6_bitCount_0f7a4_22 ?_
  refine lv_topi (fun x2 ex2 => ?_)
  have hf := nm_o hf ex2
  refine lv_istore_n (lv' := [(0, .int x2)]) hx hb dJ6_bitCount_0f7a4_23 rfl hl (by decide) rfl (fun ls hl => ?_)
  refine lv_iload_n hx hb dJ6_bitCount_0f7a4_24 rfl (lv_at hl 0 rfl) ?_
  refine lv_iload_n hx hb dJ6_bitCount_0f7a4_25 rfl (lv_at hl 0 rfl) ?_
  refine lv_iconst (v := (4 : Int32)) hx hb dJ6_bitCount_0f7a4_26 (by decide) ?_
  refine lv_iushr hx hb dJ6_bitCount_0f7a4_27 rfl ?_
  refine lv_iadd hx hb dJ6_bitCount_0f7a4_28 ?_
  refine lv_ldcw (v := (252645135 : Int32)) hx hb hB.ow (hB.w wd3_208) dJ6_bitCount_0f7a4_29 ?_
  refine lv_iand hx hb dJ6_bitCount_0f7a4_32 ?_
  refine lv_topi (fun x3 ex3 => ?_)
  have hf := nm_o hf ex3
  refine lv_istore_n (lv' := [(0, .int x3)]) hx hb dJ6_bitCount_0f7a4_33 rfl hl (by decide) rfl (fun ls hl => ?_)
  refine lv_iload_n hx hb dJ6_bitCount_0f7a4_34 rfl (lv_at hl 0 rfl) ?_
  refine lv_iload_n hx hb dJ6_bitCount_0f7a4_35 rfl (lv_at hl 0 rfl) ?_
  refine lv_bipush (v := (8 : Int32)) hx hb dJ6_bitCount_0f7a4_36 (by decide) ?_
  refine lv_iushr hx hb dJ6_bitCount_0f7a4_38 rfl ?_
  refine lv_iadd hx hb dJ6_bitCount_0f7a4_39 ?_
  refine lv_topi (fun x4 ex4 => ?_)
  have hf := nm_o hf ex4
  refine lv_istore_n (lv' := [(0, .int x4)]) hx hb dJ6_bitCount_0f7a4_40 rfl hl (by decide) rfl (fun ls hl => ?_)
  refine lv_iload_n hx hb dJ6_bitCount_0f7a4_41 rfl (lv_at hl 0 rfl) ?_
  refine lv_iload_n hx hb dJ6_bitCount_0f7a4_42 rfl (lv_at hl 0 rfl) ?_
  refine lv_bipush (v := (16 : Int32)) hx hb dJ6_bitCount_0f7a4_43 (by decide) ?_
  refine lv_iushr hx hb dJ6_bitCount_0f7a4_45 rfl ?_
  refine lv_iadd hx hb dJ6_bitCount_0f7a4_46 ?_
  refine lv_topi (fun x5 ex5 => ?_)
  have hf := nm_o hf ex5
  refine lv_istore_n (lv' := [(0, .int x5)]) hx hb dJ6_bitCount_0f7a4_47 rfl hl (by decide) rfl (fun ls hl => ?_)
  refine lv_iload_n hx hb dJ6_bitCount_0f7a4_48 rfl (lv_at hl 0 rfl) ?_
  refine lv_bipush (v := (63 : Int32)) hx hb dJ6_bitCount_0f7a4_49 (by decide) ?_
  refine lv_iand hx hb dJ6_bitCount_0f7a4_51 ?_
  exact e_i hB hW hS hr hlk (Option.some.inj hf) rfl dJ6_bitCount_0f7a4_52
theorem cl_RX8_190 {R : Room} {s : State} {args : Array Value} (ht : ∀ w ∈ lw_all, w.before args s = true) (hR : 1 + 1 ≤ R.frames ∧ 8 + (2 + 11) + 21 ≤ R.locals) : CallW R s args RX8 RX7 190 yX7_lengthOf cX7_lengthOf 2 (some .int) (wsq yX7_lengthOf cX7_lengthOf 2 (some .int)) (rmq 1 21) 0 0 1 := cwV 1 ht (goodV wd3_172 wd3_173 wd3_174 wd1_3 wd3_175) rfl rfl rfl (by decide +kernel) hR
theorem cl_RX8_193 {R : Room} {s : State} {args : Array Value} (ht : ∀ w ∈ lw_all, w.before args s = true) (hR : 2 + 1 ≤ R.frames ∧ 8 + (6 + 11) + 42 ≤ R.locals) : CallW R s args RX8 RX3 193 yX3_widthOf cX3_widthOf 6 (some .int) (wsq yX3_widthOf cX3_widthOf 6 (some .int)) (rmq 2 42) 0 0 1 := cwV 1 ht (goodV wd3_176 wd3_177 wd3_178 wd1_2 wd3_179) rfl rfl rfl (by decide +kernel) hR
theorem cl_RX8_196 {R : Room} {s : State} {args : Array Value} (ht : ∀ w ∈ lw_all, w.before args s = true) (hR : 1 + 1 ≤ R.frames ∧ 8 + (2 + 11) + 21 ≤ R.locals) : CallW R s args RX8 RX7 196 yX7_isForced cX7_isForced 2 (some .boolean) (wsq yX7_isForced cX7_isForced 2 (some .boolean)) (rmq 1 21) 0 0 1 := cwV 1 ht (goodV wd3_187 wd3_188 wd3_189 wd1_3 wd3_190) rfl rfl rfl (by decide +kernel) hR
theorem cl_RX8_199 {R : Room} {s : State} {args : Array Value} (ht : ∀ w ∈ lw_all, w.before args s = true) (hR : 2 + 1 ≤ R.frames ∧ 8 + (7 + 11) + 49 ≤ R.locals) : CallW R s args RX8 RX3 199 yX3_hyphenPlaces cX3_hyphenPlaces 7 (some .int) (wsq yX3_hyphenPlaces cX3_hyphenPlaces 7 (some .int)) (rmq 2 49) 0 0 1 := cwV 1 ht (goodV wd3_191 wd3_192 wd3_193 wd1_2 wd3_194) rfl rfl rfl (by decide +kernel) hR
theorem cl_RX8_202 {R : Room} {s : State} {args : Array Value} (ht : ∀ w ∈ lw_all, w.before args s = true) (hR : 0 + 1 ≤ R.frames ∧ 8 + (1 + 11) + 0 ≤ R.locals) : CallB R s args RX8 202 yJ6_bitCount_0f7a4 cJ6_bitCount_0f7a4 1 (some .int) (wsq yJ6_bitCount_0f7a4 cJ6_bitCount_0f7a4 1 (some .int)) (rmq 0 0) 0 0 1 ∧ (Cond.static yJ6_bitCount_0f7a4).before args s = true := va_cwS 1 ht (goodS wd3_203 wd3_204 wd1_14 wd3_205) rfl rfl rfl (by decide +kernel) hR
def f_X8_word (p1 : Int32) (p2 : Int32) (M : Mem) : Option (Int32 × Mem) := (bq1 (f_X7_has 3 p1 M) (fun (x1 : Int32) => (if x1 = 0 then (bq2 (f_X8_refuse (-1 : Int32) M) (fun (x25 : Int32) (M26 : Mem) => some (x25, M26))) else (if p2 = (0 : Int32) then (bq1 (f_X7_lengthOf 3 p1 M) (fun (x5 : Int32) => some (x5, M))) else if p2 = (1 : Int32) then (bq1 (f_X3_widthOf 1 p1 M) (fun (x8 : Int32) => some (x8, M))) else if p2 = (2 : Int32) then (bq1 (f_X7_isForced 3 p1 M) (fun (x11 : Int32) => (if x11 = 0 then some ((0 : Int32), M) else some ((1 : Int32), M)))) else if p2 = (3 : Int32) then (bq1 (f_X3_hyphenPlaces 1 p1 M) (fun (x15 : Int32) => bq1 (f_J6_bitCount_0f7a4 x15) (fun (x17 : Int32) => some (((1 : Int32) + x17), M)))) else if p2 = (4 : Int32) then (bq1 (f_X3_hyphenPlaces 1 p1 M) (fun (x20 : Int32) => some (x20, M))) else (bq2 (f_X8_refuse (-2 : Int32) M) (fun (x22 : Int32) (M23 : Mem) => some (x22, M23)))))))
set_option maxHeartbeats 4000000 in
set_option maxRecDepth 100000 in
theorem ct_X8_word (l : Launch) (G : GG) {p1 : Int32} {p2 : Int32} {M : Mem} {r : Int32} {Mr : Mem}  (hf : f_X8_word p1 p2 M = some (r, Mr)) : Met l yX8_word (wsq yX8_word cX8_word 3 (some .int)) (rmq 3 75) (va_Pc [.ref (G.2.2.1 0), .int p1, .int p2] (World G M)) (Qi G r Mr) 0 0 (adA G) := by
  refine x_start (plainFor_of_name (by decide)) (Nat.le_of_ble_eq_true rfl) ?_
  intro p e s m args below meth c hB hr hlk hW hS ls hl
  have hx := hB.x
  have hb := hB.b
  have hl : lv_has ls 3 [(0, .ref (G.2.2.1 0)), (1, .int p1), (2, .int p2)] := hl
  unfold f_X8_word at hf
  refine lv_aload_n hx hb dX8_word_0 rfl (lv_at hl 0 rfl) ?_
  refine fg8_0 hB hW tl0 wd2_91 dX8_word_1 ?_
  refine fg3_1 hB hW tl1 wd1_95 dX8_word_4 ?_
  refine lv_iload_n hx hb dX8_word_7 rfl (lv_at hl 1 rfl) ?_
  obtain ⟨x1, hg2, hf⟩ := b_o1 hf
  refine x_ci hB (x_rv hB hW hS (As := [.int p1]) (rest := []) (ct_X7_has l G tl3 hg2) (cl_RX8_121 hB.2.2.2.2.1 ⟨Nat.le_of_ble_eq_true rfl, Nat.le_of_ble_eq_true rfl⟩) tl3 (by decide) rfl rfl hl.1 rfl (Nat.le_of_ble_eq_true rfl) dX8_word_8 ⟨Nat.le_refl _, Nat.le_refl _⟩) hS (fun H locs hW hS => ?_)
  refine lv_if_ne (tgt := 20) hx hb dX8_word_11 (by decide) (fun c3 => ?_) (fun c3 => ?_)
  · have hf := i_f hf c3
    refine lv_iload_n hx hb dX8_word_20 rfl (lv_at hl 2 rfl) ?_
    by_cases c4 : p2 = (0 : Int32)
    · have hf := i_t hf c4
      refine lv_tableIn (tgt := 56) hx hb dX8_word_21 (by rw [c4]; decide) (by rw [c4]; decide) (by rw [c4] <;> rfl) (by decide) ?_
      refine lv_aload_n hx hb dX8_word_56 rfl (lv_at hl 0 rfl) ?_
      refine fg8_0 hB hW tl0 wd2_91 dX8_word_57 ?_
      refine fg3_1 hB hW tl1 wd1_95 dX8_word_60 ?_
      refine lv_iload_n hx hb dX8_word_63 rfl (lv_at hl 1 rfl) ?_
      obtain ⟨x5, hg6, hf⟩ := b_o1 hf
      refine x_ci hB (x_rv hB hW hS (As := [.int p1]) (rest := []) (ct_X7_lengthOf l G tl3 hg6) (cl_RX8_190 hB.2.2.2.2.1 ⟨Nat.le_of_ble_eq_true rfl, Nat.le_of_ble_eq_true rfl⟩) tl3 (by decide) rfl rfl hl.1 rfl (Nat.le_of_ble_eq_true rfl) dX8_word_64 ⟨Nat.le_refl _, Nat.le_refl _⟩) hS (fun H locs hW hS => ?_)
      exact e_i hB hW hS hr hlk (s_1 hf) (s_2 hf) dX8_word_67
    · have hf := i_f hf c4
      by_cases c7 : p2 = (1 : Int32)
      · have hf := i_t hf c7
        refine lv_tableIn (tgt := 68) hx hb dX8_word_21 (by rw [c7]; decide) (by rw [c7]; decide) (by rw [c7] <;> rfl) (by decide) ?_
        refine lv_aload_n hx hb dX8_word_68 rfl (lv_at hl 0 rfl) ?_
        refine fg8_0 hB hW tl0 wd2_91 dX8_word_69 ?_
        refine lv_iload_n hx hb dX8_word_72 rfl (lv_at hl 1 rfl) ?_
        obtain ⟨x8, hg9, hf⟩ := b_o1 hf
        refine x_ci hB (x_rv hB hW hS (As := [.int p1]) (rest := []) (ct_X3_widthOf l G tl1 hg9) (cl_RX8_193 hB.2.2.2.2.1 ⟨Nat.le_of_ble_eq_true rfl, Nat.le_of_ble_eq_true rfl⟩) tl1 (by decide) rfl rfl hl.1 rfl (Nat.le_of_ble_eq_true rfl) dX8_word_73 ⟨Nat.le_refl _, Nat.le_refl _⟩) hS (fun H locs hW hS => ?_)
        exact e_i hB hW hS hr hlk (s_1 hf) (s_2 hf) dX8_word_76
      · have hf := i_f hf c7
        by_cases c10 : p2 = (2 : Int32)
        · have hf := i_t hf c10
          refine lv_tableIn (tgt := 77) hx hb dX8_word_21 (by rw [c10]; decide) (by rw [c10]; decide) (by rw [c10] <;> rfl) (by decide) ?_
          refine lv_aload_n hx hb dX8_word_77 rfl (lv_at hl 0 rfl) ?_
          refine fg8_0 hB hW tl0 wd2_91 dX8_word_78 ?_
          refine fg3_1 hB hW tl1 wd1_95 dX8_word_81 ?_
          refine lv_iload_n hx hb dX8_word_84 rfl (lv_at hl 1 rfl) ?_
          obtain ⟨x11, hg12, hf⟩ := b_o1 hf
          refine x_ci hB (x_rv hB hW hS (As := [.int p1]) (rest := []) (ct_X7_isForced l G tl3 hg12) (cl_RX8_196 hB.2.2.2.2.1 ⟨Nat.le_of_ble_eq_true rfl, Nat.le_of_ble_eq_true rfl⟩) tl3 (by decide) rfl rfl hl.1 rfl (Nat.le_of_ble_eq_true rfl) dX8_word_85 ⟨Nat.le_refl _, Nat.le_refl _⟩) hS (fun H locs hW hS => ?_)
          refine lv_if_eq (tgt := 95) hx hb dX8_word_88 (by decide) (fun c13 => ?_) (fun c13 => ?_)
          · have hf := i_t hf c13
            refine lv_iconst (v := (0 : Int32)) hx hb dX8_word_95 (by decide) ?_
            exact e_i hB hW hS hr hlk (s_1 hf) (s_2 hf) dX8_word_96
          · have hf := i_f hf c13
            refine lv_iconst (v := (1 : Int32)) hx hb dX8_word_91 (by decide) ?_
            refine lv_goto (tgt := 96) hx hb dX8_word_92 (by decide) ?_
            exact e_i hB hW hS hr hlk (s_1 hf) (s_2 hf) dX8_word_96
        · have hf := i_f hf c10
          by_cases c14 : p2 = (3 : Int32)
          · have hf := i_t hf c14
            refine lv_tableIn (tgt := 97) hx hb dX8_word_21 (by rw [c14]; decide) (by rw [c14]; decide) (by rw [c14] <;> rfl) (by decide) ?_
            refine lv_iconst (v := (1 : Int32)) hx hb dX8_word_97 (by decide) ?_
            refine lv_aload_n hx hb dX8_word_98 rfl (lv_at hl 0 rfl) ?_
            refine fg8_0 hB hW tl0 wd2_91 dX8_word_99 ?_
            refine lv_iload_n hx hb dX8_word_102 rfl (lv_at hl 1 rfl) ?_
            obtain ⟨x15, hg16, hf⟩ := b_o1 hf
            refine x_ci hB (x_rv hB hW hS (As := [.int p1]) (rest := [.int (1 : Int32)]) (ct_X3_hyphenPlaces l G tl1 hg16) (cl_RX8_199 hB.2.2.2.2.1 ⟨Nat.le_of_ble_eq_true rfl, Nat.le_of_ble_eq_true rfl⟩) tl1 (by decide) rfl rfl hl.1 rfl (Nat.le_of_ble_eq_true rfl) dX8_word_103 ⟨Nat.le_refl _, Nat.le_refl _⟩) hS (fun H locs hW hS => ?_)
            obtain ⟨x17, hg18, hf⟩ := b_o1 hf
            refine x_ci hB (x_rs hB hW hS (As := [.int x15]) (rest := [.int (1 : Int32)]) (ct_J6_bitCount_0f7a4 l G hg18) (cl_RX8_202 hB.2.2.2.2.1 ⟨Nat.le_of_ble_eq_true rfl, Nat.le_of_ble_eq_true rfl⟩) rfl hl.1 rfl (Nat.le_of_ble_eq_true rfl) dX8_word_106 ⟨Nat.le_refl _, Nat.le_refl _⟩) hS (fun H locs hW hS => ?_)
            refine lv_iadd hx hb dX8_word_109 ?_
            exact e_i hB hW hS hr hlk (s_1 hf) (s_2 hf) dX8_word_110
          · have hf := i_f hf c14
            by_cases c19 : p2 = (4 : Int32)
            · have hf := i_t hf c19
              refine lv_tableIn (tgt := 111) hx hb dX8_word_21 (by rw [c19]; decide) (by rw [c19]; decide) (by rw [c19] <;> rfl) (by decide) ?_
              refine lv_aload_n hx hb dX8_word_111 rfl (lv_at hl 0 rfl) ?_
              refine fg8_0 hB hW tl0 wd2_91 dX8_word_112 ?_
              refine lv_iload_n hx hb dX8_word_115 rfl (lv_at hl 1 rfl) ?_
              obtain ⟨x20, hg21, hf⟩ := b_o1 hf
              refine x_ci hB (x_rv hB hW hS (As := [.int p1]) (rest := []) (ct_X3_hyphenPlaces l G tl1 hg21) (cl_RX8_199 hB.2.2.2.2.1 ⟨Nat.le_of_ble_eq_true rfl, Nat.le_of_ble_eq_true rfl⟩) tl1 (by decide) rfl rfl hl.1 rfl (Nat.le_of_ble_eq_true rfl) dX8_word_116 ⟨Nat.le_refl _, Nat.le_refl _⟩) hS (fun H locs hW hS => ?_)
              exact e_i hB hW hS hr hlk (s_1 hf) (s_2 hf) dX8_word_119
            · have hf := i_f hf c19
              refine lv_tableOut (tgt := 120) hx hb dX8_word_21 (sw_out (lo := 0) (hi := 4) (fun v h1 h2 hv => ?_)) (by decide) ?_
              · rcases (show v = 0 ∨ v = 1 ∨ v = 2 ∨ v = 3 ∨ v = 4 by omega) with rfl | rfl | rfl | rfl | rfl
                · exact c4 hv
                · exact c7 hv
                · exact c10 hv
                · exact c14 hv
                · exact c19 hv
              · skip
                refine lv_aload_n hx hb dX8_word_120 rfl (lv_at hl 0 rfl) ?_
                refine lv_bipush (v := (-2 : Int32)) hx hb dX8_word_121 (by decide) ?_
                obtain ⟨x22, M23, hg24, hf⟩ := b_o2 hf
                refine x_ci hB (x_rv hB hW hS (As := [.int (-2 : Int32)]) (rest := []) (ct_X8_refuse l G hg24) (cl_RX8_50 hB.2.2.2.2.1 ⟨Nat.le_of_ble_eq_true rfl, Nat.le_of_ble_eq_true rfl⟩) tl0 (by decide) rfl rfl hl.1 rfl (Nat.le_of_ble_eq_true rfl) dX8_word_123 ⟨Nat.le_refl _, Nat.le_refl _⟩) hS (fun H locs hW hS => ?_)
                exact e_i hB hW hS hr hlk (s_1 hf) (s_2 hf) dX8_word_126
  · have hf := i_t hf c3
    refine lv_aload_n hx hb dX8_word_14 rfl (lv_at hl 0 rfl) ?_
    refine lv_iconst (v := (-1 : Int32)) hx hb dX8_word_15 (by decide) ?_
    obtain ⟨x25, M26, hg27, hf⟩ := b_o2 hf
    refine x_ci hB (x_rv hB hW hS (As := [.int (-1 : Int32)]) (rest := []) (ct_X8_refuse l G hg27) (cl_RX8_50 hB.2.2.2.2.1 ⟨Nat.le_of_ble_eq_true rfl, Nat.le_of_ble_eq_true rfl⟩) tl0 (by decide) rfl rfl hl.1 rfl (Nat.le_of_ble_eq_true rfl) dX8_word_16 ⟨Nat.le_refl _, Nat.le_refl _⟩) hS (fun H locs hW hS => ?_)
    exact e_i hB hW hS hr hlk (s_1 hf) (s_2 hf) dX8_word_19
theorem cl_RX8_207 {R : Room} {s : State} {args : Array Value} (ht : ∀ w ∈ lw_all, w.before args s = true) (hR : 0 + 1 ≤ R.frames ∧ 8 + (2 + 11) + 0 ≤ R.locals) : CallW R s args RX8 RX7 207 yX7_spellingOf cX7_spellingOf 2 (some .long) (wsq yX7_spellingOf cX7_spellingOf 2 (some .long)) (rmq 0 0) 0 0 1 := cwV 1 ht (goodV wd3_213 wd3_120 wd3_121 wd1_3 wd3_122) rfl rfl rfl (by decide +kernel) hR
theorem cl_RX8_210 {R : Room} {s : State} {args : Array Value} (ht : ∀ w ∈ lw_all, w.before args s = true) (hR : 0 + 1 ≤ R.frames ∧ 8 + (3 + 11) + 0 ≤ R.locals) : CallB R s args RX8 210 yX8_letterIn cX8_letterIn 3 (some .int) (wsq yX8_letterIn cX8_letterIn 3 (some .int)) (rmq 0 0) 0 0 2 ∧ (Cond.static yX8_letterIn).before args s = true := va_cwS 2 ht (goodS wd3_214 wd3_183 wd1_1 wd3_184) rfl rfl rfl (by decide +kernel) hR
def f_X8_spelt (p1 : Int32) (p2 : Int32) (M : Mem) : Option (Int32 × Mem) := (bq1 (f_X7_has 3 p1 M) (fun (x1 : Int32) => (jq (fun (_ : Unit) => (bq2 (f_X8_refuse (-1 : Int32) M) (fun (x5 : Int32) (M6 : Mem) => some (x5, M6)))) (fun (K4 : Unit → Option (Int32 × Mem)) => (if x1 = 0 then (K4 ()) else (if p2 < 0 then (K4 ()) else (bq1 (f_X7_lengthOf 3 p1 M) (fun (x10 : Int32) => (if p2 < x10 then (bq1 (f_X7_spellingOf 3 p1 M) (fun (x13 : Int64) => bq1 (f_X8_letterIn x13 p2) (fun (x15 : Int32) => some (x15, M)))) else (K4 ()))))))))))
set_option maxHeartbeats 4000000 in
set_option maxRecDepth 100000 in
theorem ct_X8_spelt (l : Launch) (G : GG) {p1 : Int32} {p2 : Int32} {M : Mem} {r : Int32} {Mr : Mem}  (hf : f_X8_spelt p1 p2 M = some (r, Mr)) : Met l yX8_spelt (wsq yX8_spelt cX8_spelt 3 (some .int)) (rmq 2 43) (va_Pc [.ref (G.2.2.1 0), .int p1, .int p2] (World G M)) (Qi G r Mr) 0 0 (adA G) := by
  refine x_start (plainFor_of_name (by decide)) (Nat.le_of_ble_eq_true rfl) ?_
  intro p e s m args below meth c hB hr hlk hW hS ls hl
  have hx := hB.x
  have hb := hB.b
  have hl : lv_has ls 3 [(0, .ref (G.2.2.1 0)), (1, .int p1), (2, .int p2)] := hl
  unfold f_X8_spelt at hf
  refine lv_aload_n hx hb dX8_spelt_0 rfl (lv_at hl 0 rfl) ?_
  refine fg8_0 hB hW tl0 wd2_91 dX8_spelt_1 ?_
  refine fg3_1 hB hW tl1 wd1_95 dX8_spelt_4 ?_
  refine lv_iload_n hx hb dX8_spelt_7 rfl (lv_at hl 1 rfl) ?_
  obtain ⟨x1, hg2, hf⟩ := b_o1 hf
  refine x_ci hB (x_rv hB hW hS (As := [.int p1]) (rest := []) (ct_X7_has l G tl3 hg2) (cl_RX8_121 hB.2.2.2.2.1 ⟨Nat.le_of_ble_eq_true rfl, Nat.le_of_ble_eq_true rfl⟩) tl3 (by decide) rfl rfl hl.1 rfl (Nat.le_of_ble_eq_true rfl) dX8_spelt_8 ⟨Nat.le_refl _, Nat.le_refl _⟩) hS (fun H locs hW hS => ?_)
  obtain ⟨K4, eK4, hf⟩ := j_o hf
  have main3 : ∀ (_ : Unit) (H : Heap) (locs : List Loc) (ls : Array Slot), Wd G M H → va_S (adA G) s.heap H locs → lv_has ls 3 [(0, .ref (G.2.2.1 0))] → K4 () = some (r, Mr) → W p l e (rmq 2 43) s m args below meth c H locs 0 0 (MQ below (Qi G r Mr) args s 0 0 (adA G)) (F0 m 33 ls []) := by
    intro _ H locs ls hW hS hl hf
    subst eK4
    refine lv_aload_n hx hb dX8_spelt_33 rfl (lv_at hl 0 rfl) ?_
    refine lv_iconst (v := (-1 : Int32)) hx hb dX8_spelt_34 (by decide) ?_
    obtain ⟨x5, M6, hg7, hf⟩ := b_o2 hf
    refine x_ci hB (x_rv hB hW hS (As := [.int (-1 : Int32)]) (rest := []) (ct_X8_refuse l G hg7) (cl_RX8_50 hB.2.2.2.2.1 ⟨Nat.le_of_ble_eq_true rfl, Nat.le_of_ble_eq_true rfl⟩) tl0 (by decide) rfl rfl hl.1 rfl (Nat.le_of_ble_eq_true rfl) dX8_spelt_35 ⟨Nat.le_refl _, Nat.le_refl _⟩) hS (fun H locs hW hS => ?_)
    exact e_i hB hW hS hr hlk (s_1 hf) (s_2 hf) dX8_spelt_38
  refine lv_if_eq (tgt := 33) hx hb dX8_spelt_11 (by decide) (fun c8 => ?_) (fun c8 => ?_)
  · have hf := i_t hf c8
    exact main3 () _ _ ls hW hS (lv_sub hl [0] rfl) hf
  · have hf := i_f hf c8
    refine lv_iload_n hx hb dX8_spelt_14 rfl (lv_at hl 2 rfl) ?_
    refine lv_if_lt (tgt := 33) hx hb dX8_spelt_15 (by decide) (fun c9 => ?_) (fun c9 => ?_)
    · have hf := i_t hf c9
      exact main3 () _ _ ls hW hS (lv_sub hl [0] rfl) hf
    · have hf := i_f hf c9
      refine lv_iload_n hx hb dX8_spelt_18 rfl (lv_at hl 2 rfl) ?_
      refine lv_aload_n hx hb dX8_spelt_19 rfl (lv_at hl 0 rfl) ?_
      refine fg8_0 hB hW tl0 wd2_91 dX8_spelt_20 ?_
      refine fg3_1 hB hW tl1 wd1_95 dX8_spelt_23 ?_
      refine lv_iload_n hx hb dX8_spelt_26 rfl (lv_at hl 1 rfl) ?_
      obtain ⟨x10, hg11, hf⟩ := b_o1 hf
      refine x_ci hB (x_rv hB hW hS (As := [.int p1]) (rest := [.int p2]) (ct_X7_lengthOf l G tl3 hg11) (cl_RX8_190 hB.2.2.2.2.1 ⟨Nat.le_of_ble_eq_true rfl, Nat.le_of_ble_eq_true rfl⟩) tl3 (by decide) rfl rfl hl.1 rfl (Nat.le_of_ble_eq_true rfl) dX8_spelt_27 ⟨Nat.le_refl _, Nat.le_refl _⟩) hS (fun H locs hW hS => ?_)
      refine lv_icmp_lt (tgt := 39) hx hb dX8_spelt_30 (by decide) (fun c12 => ?_) (fun c12 => ?_)
      · have hf := i_t hf c12
        refine lv_aload_n hx hb dX8_spelt_39 rfl (lv_at hl 0 rfl) ?_
        refine fg8_0 hB hW tl0 wd2_91 dX8_spelt_40 ?_
        refine fg3_1 hB hW tl1 wd1_95 dX8_spelt_43 ?_
        refine lv_iload_n hx hb dX8_spelt_46 rfl (lv_at hl 1 rfl) ?_
        obtain ⟨x13, hg14, hf⟩ := b_o1 hf
        refine x_cl hB (x_rv hB hW hS (As := [.int p1]) (rest := []) (ct_X7_spellingOf l G tl3 hg14) (cl_RX8_207 hB.2.2.2.2.1 ⟨Nat.le_of_ble_eq_true rfl, Nat.le_of_ble_eq_true rfl⟩) tl3 (by decide) rfl rfl hl.1 rfl (Nat.le_of_ble_eq_true rfl) dX8_spelt_47 ⟨Nat.le_refl _, Nat.le_refl _⟩) hS (fun H locs hW hS => ?_)
        refine lv_iload_n hx hb dX8_spelt_50 rfl (lv_at hl 2 rfl) ?_
        obtain ⟨x15, hg16, hf⟩ := b_o1 hf
        refine x_ci hB (x_rs hB hW hS (As := [.long x13, .int p2]) (rest := []) (ct_X8_letterIn l G hg16) (cl_RX8_210 hB.2.2.2.2.1 ⟨Nat.le_of_ble_eq_true rfl, Nat.le_of_ble_eq_true rfl⟩) rfl hl.1 rfl (Nat.le_of_ble_eq_true rfl) dX8_spelt_51 ⟨Nat.le_refl _, Nat.le_refl _⟩) hS (fun H locs hW hS => ?_)
        exact e_i hB hW hS hr hlk (s_1 hf) (s_2 hf) dX8_spelt_54
      · have hf := i_f hf c12
        exact main3 () _ _ ls hW hS (lv_sub hl [0] rfl) hf
theorem cl_RX8_213 {R : Room} {s : State} {args : Array Value} (ht : ∀ w ∈ lw_all, w.before args s = true) (hR : 1 + 1 ≤ R.frames ∧ 8 + (9 + 11) + 21 ≤ R.locals) : CallW R s args RX8 RX4 213 yX4_greatestValue cX4_greatestValue 9 (some .int) (wsq yX4_greatestValue cX4_greatestValue 9 (some .int)) (rmq 1 21) 0 0 2 := cwV 2 ht (goodV wd3_219 wd3_200 wd3_201 wd1_4 wd3_202) rfl rfl rfl (by decide +kernel) hR
def f_X8_values (p1 : Int32) (p2 : Int32) (M : Mem) : Option (Int32 × Mem) := (bq1 (f_X7_has 3 p1 M) (fun (x1 : Int32) => (jq (fun (_ : Unit) => (bq2 (f_X8_refuse (-1 : Int32) M) (fun (x5 : Int32) (M6 : Mem) => some (x5, M6)))) (fun (K4 : Unit → Option (Int32 × Mem)) => (if x1 = 0 then (K4 ()) else (if p2 < 0 then (K4 ()) else (bq1 (f_X7_lengthOf 3 p1 M) (fun (x10 : Int32) => (if p2 ≤ x10 then (bq1 (f_X7_spellingOf 3 p1 M) (fun (x13 : Int64) => bq1 (f_X4_greatestValue 7 x13 p2 M) (fun (x15 : Int32) => some (x15, M)))) else (K4 ()))))))))))
set_option maxHeartbeats 4000000 in
set_option maxRecDepth 100000 in
theorem ct_X8_values (l : Launch) (G : GG) {p1 : Int32} {p2 : Int32} {M : Mem} {r : Int32} {Mr : Mem}  (hf : f_X8_values p1 p2 M = some (r, Mr)) : Met l yX8_values (wsq yX8_values cX8_values 3 (some .int)) (rmq 2 49) (va_Pc [.ref (G.2.2.1 0), .int p1, .int p2] (World G M)) (Qi G r Mr) 0 0 (adA G) := by
  refine x_start (plainFor_of_name (by decide)) (Nat.le_of_ble_eq_true rfl) ?_
  intro p e s m args below meth c hB hr hlk hW hS ls hl
  have hx := hB.x
  have hb := hB.b
  have hl : lv_has ls 3 [(0, .ref (G.2.2.1 0)), (1, .int p1), (2, .int p2)] := hl
  unfold f_X8_values at hf
  refine lv_aload_n hx hb dX8_values_0 rfl (lv_at hl 0 rfl) ?_
  refine fg8_0 hB hW tl0 wd2_91 dX8_values_1 ?_
  refine fg3_1 hB hW tl1 wd1_95 dX8_values_4 ?_
  refine lv_iload_n hx hb dX8_values_7 rfl (lv_at hl 1 rfl) ?_
  obtain ⟨x1, hg2, hf⟩ := b_o1 hf
  refine x_ci hB (x_rv hB hW hS (As := [.int p1]) (rest := []) (ct_X7_has l G tl3 hg2) (cl_RX8_121 hB.2.2.2.2.1 ⟨Nat.le_of_ble_eq_true rfl, Nat.le_of_ble_eq_true rfl⟩) tl3 (by decide) rfl rfl hl.1 rfl (Nat.le_of_ble_eq_true rfl) dX8_values_8 ⟨Nat.le_refl _, Nat.le_refl _⟩) hS (fun H locs hW hS => ?_)
  obtain ⟨K4, eK4, hf⟩ := j_o hf
  have main3 : ∀ (_ : Unit) (H : Heap) (locs : List Loc) (ls : Array Slot), Wd G M H → va_S (adA G) s.heap H locs → lv_has ls 3 [(0, .ref (G.2.2.1 0))] → K4 () = some (r, Mr) → W p l e (rmq 2 49) s m args below meth c H locs 0 0 (MQ below (Qi G r Mr) args s 0 0 (adA G)) (F0 m 33 ls []) := by
    intro _ H locs ls hW hS hl hf
    subst eK4
    refine lv_aload_n hx hb dX8_values_33 rfl (lv_at hl 0 rfl) ?_
    refine lv_iconst (v := (-1 : Int32)) hx hb dX8_values_34 (by decide) ?_
    obtain ⟨x5, M6, hg7, hf⟩ := b_o2 hf
    refine x_ci hB (x_rv hB hW hS (As := [.int (-1 : Int32)]) (rest := []) (ct_X8_refuse l G hg7) (cl_RX8_50 hB.2.2.2.2.1 ⟨Nat.le_of_ble_eq_true rfl, Nat.le_of_ble_eq_true rfl⟩) tl0 (by decide) rfl rfl hl.1 rfl (Nat.le_of_ble_eq_true rfl) dX8_values_35 ⟨Nat.le_refl _, Nat.le_refl _⟩) hS (fun H locs hW hS => ?_)
    exact e_i hB hW hS hr hlk (s_1 hf) (s_2 hf) dX8_values_38
  refine lv_if_eq (tgt := 33) hx hb dX8_values_11 (by decide) (fun c8 => ?_) (fun c8 => ?_)
  · have hf := i_t hf c8
    exact main3 () _ _ ls hW hS (lv_sub hl [0] rfl) hf
  · have hf := i_f hf c8
    refine lv_iload_n hx hb dX8_values_14 rfl (lv_at hl 2 rfl) ?_
    refine lv_if_lt (tgt := 33) hx hb dX8_values_15 (by decide) (fun c9 => ?_) (fun c9 => ?_)
    · have hf := i_t hf c9
      exact main3 () _ _ ls hW hS (lv_sub hl [0] rfl) hf
    · have hf := i_f hf c9
      refine lv_iload_n hx hb dX8_values_18 rfl (lv_at hl 2 rfl) ?_
      refine lv_aload_n hx hb dX8_values_19 rfl (lv_at hl 0 rfl) ?_
      refine fg8_0 hB hW tl0 wd2_91 dX8_values_20 ?_
      refine fg3_1 hB hW tl1 wd1_95 dX8_values_23 ?_
      refine lv_iload_n hx hb dX8_values_26 rfl (lv_at hl 1 rfl) ?_
      obtain ⟨x10, hg11, hf⟩ := b_o1 hf
      refine x_ci hB (x_rv hB hW hS (As := [.int p1]) (rest := [.int p2]) (ct_X7_lengthOf l G tl3 hg11) (cl_RX8_190 hB.2.2.2.2.1 ⟨Nat.le_of_ble_eq_true rfl, Nat.le_of_ble_eq_true rfl⟩) tl3 (by decide) rfl rfl hl.1 rfl (Nat.le_of_ble_eq_true rfl) dX8_values_27 ⟨Nat.le_refl _, Nat.le_refl _⟩) hS (fun H locs hW hS => ?_)
      refine lv_icmp_le (tgt := 39) hx hb dX8_values_30 (by decide) (fun c12 => ?_) (fun c12 => ?_)
      · have hf := i_t hf c12
        refine lv_aload_n hx hb dX8_values_39 rfl (lv_at hl 0 rfl) ?_
        refine fg8_0 hB hW tl0 wd2_91 dX8_values_40 ?_
        refine fg3_2 hB hW tl1 wd1_98 dX8_values_43 ?_
        refine lv_aload_n hx hb dX8_values_46 rfl (lv_at hl 0 rfl) ?_
        refine fg8_0 hB hW tl0 wd2_91 dX8_values_47 ?_
        refine fg3_1 hB hW tl1 wd1_95 dX8_values_50 ?_
        refine lv_iload_n hx hb dX8_values_53 rfl (lv_at hl 1 rfl) ?_
        obtain ⟨x13, hg14, hf⟩ := b_o1 hf
        refine x_cl hB (x_rv hB hW hS (As := [.int p1]) (rest := [.ref (G.2.2.1 7)]) (ct_X7_spellingOf l G tl3 hg14) (cl_RX8_207 hB.2.2.2.2.1 ⟨Nat.le_of_ble_eq_true rfl, Nat.le_of_ble_eq_true rfl⟩) tl3 (by decide) rfl rfl hl.1 rfl (Nat.le_of_ble_eq_true rfl) dX8_values_54 ⟨Nat.le_refl _, Nat.le_refl _⟩) hS (fun H locs hW hS => ?_)
        refine lv_iload_n hx hb dX8_values_57 rfl (lv_at hl 2 rfl) ?_
        obtain ⟨x15, hg16, hf⟩ := b_o1 hf
        refine x_ci hB (x_rv hB hW hS (As := [.long x13, .int p2]) (rest := []) (ct_X4_greatestValue l G tl7 hg16) (cl_RX8_213 hB.2.2.2.2.1 ⟨Nat.le_of_ble_eq_true rfl, Nat.le_of_ble_eq_true rfl⟩) tl7 (by decide) rfl rfl hl.1 rfl (Nat.le_of_ble_eq_true rfl) dX8_values_58 ⟨Nat.le_refl _, Nat.le_refl _⟩) hS (fun H locs hW hS => ?_)
        exact e_i hB hW hS hr hlk (s_1 hf) (s_2 hf) dX8_values_61
      · have hf := i_f hf c12
        exact main3 () _ _ ls hW hS (lv_sub hl [0] rfl) hf
def f_X4_has (k0 : Nat) (p1 : Int32) (M : Mem) : Option Int32 := (if p1 < 0 then some (0 : Int32) else (if (gi M k0 4) ≤ p1 then some (0 : Int32) else some (1 : Int32)))
set_option maxHeartbeats 4000000 in
set_option maxRecDepth 100000 in
theorem ct_X4_has (l : Launch) (G : GG) {k0 : Nat} {p1 : Int32} {M : Mem} {r : Int32} (hk0 : isT 4 k0) (hf : f_X4_has k0 p1 M = some r) : Met l yX4_has (wsq yX4_has cX4_has 2 (some .boolean)) (rmq 0 0) (va_Pc [.ref (G.2.2.1 k0), .int p1] (World G M)) (Qi G r M) 0 0 (adA G) := by
  refine x_start (plainFor_of_name (by decide)) (Nat.le_of_ble_eq_true rfl) ?_
  intro p e s m args below meth c hB hr hlk hW hS ls hl
  have hx := hB.x
  have hb := hB.b
  have hl : lv_has ls 2 [(0, .ref (G.2.2.1 k0)), (1, .int p1)] := hl
  unfold f_X4_has at hf
  refine lv_iload_n hx hb dX4_has_0 rfl (lv_at hl 1 rfl) ?_
  refine lv_if_lt (tgt := 16) hx hb dX4_has_1 (by decide) (fun c1 => ?_) (fun c1 => ?_)
  · have hf := i_t hf c1
    refine lv_iconst (v := (0 : Int32)) hx hb dX4_has_16 (by decide) ?_
    exact e_z (by decide) hB hW hS hr hlk (Option.some.inj hf) rfl dX4_has_17
  · have hf := i_f hf c1
    refine lv_iload_n hx hb dX4_has_4 rfl (lv_at hl 1 rfl) ?_
    refine lv_aload_n hx hb dX4_has_5 rfl (lv_at hl 0 rfl) ?_
    refine fg4_4 hB hW hk0 wd1_77 dX4_has_6 ?_
    refine lv_icmp_ge (tgt := 16) hx hb dX4_has_9 (by decide) (fun c2 => ?_) (fun c2 => ?_)
    · have hf := i_t hf c2
      refine lv_iconst (v := (0 : Int32)) hx hb dX4_has_16 (by decide) ?_
      exact e_z (by decide) hB hW hS hr hlk (Option.some.inj hf) rfl dX4_has_17
    · have hf := i_f hf c2
      refine lv_iconst (v := (1 : Int32)) hx hb dX4_has_12 (by decide) ?_
      refine lv_goto (tgt := 17) hx hb dX4_has_13 (by decide) ?_
      exact e_z (by decide) hB hW hS hr hlk (Option.some.inj hf) rfl dX4_has_17
theorem cl_RX4_41 {R : Room} {s : State} {args : Array Value} (hN : Nst s) (ht : ∀ w ∈ lw_all, w.before args s = true) (hR : 0 + 1 ≤ R.frames ∧ 8 + (3 + 11) + 0 ≤ R.locals) : va_CN R s args RX4 41 yX8_letterIn "LinesOfFragments" cX8_letterIn 3 (some .int) (wsq yX8_letterIn cX8_letterIn 3 (some .int)) (rmq 0 0) 0 0 2 ∧ (Cond.static yX8_letterIn).before args s = true ∧ True := ⟨va_cnB 2 ht (goodC wd3_184) rfl rfl rfl (hN _ (List.mem_of_getElem? (l := nestL) (i := 17) rfl)) (ht _ wd1_1) (by decide +kernel) hR, ht _ wd3_183, trivial⟩
def f_X4_firstLetter (k0 : Nat) (p1 : Int32) (M : Mem) : Option Int32 := (bq1 (f_X4_spellingOf k0 p1 M) (fun (x1 : Int64) => bq1 (f_X8_letterIn x1 (0 : Int32)) (fun (x3 : Int32) => some x3)))
set_option maxHeartbeats 4000000 in
set_option maxRecDepth 100000 in
theorem ct_X4_firstLetter (l : Launch) (G : GG) {k0 : Nat} {p1 : Int32} {M : Mem} {r : Int32} (hk0 : isT 4 k0) (hf : f_X4_firstLetter k0 p1 M = some r) : Met l yX4_firstLetter (wsq yX4_firstLetter cX4_firstLetter 2 (some .int)) (rmq 1 22) (va_Pc [.ref (G.2.2.1 k0), .int p1] (World G M)) (Qi G r M) 0 0 (adA G) := by
  refine x_start (plainFor_of_name (by decide)) (Nat.le_of_ble_eq_true rfl) ?_
  intro p e s m args below meth c hB hr hlk hW hS ls hl
  have hx := hB.x
  have hb := hB.b
  have hl : lv_has ls 2 [(0, .ref (G.2.2.1 k0)), (1, .int p1)] := hl
  unfold f_X4_firstLetter at hf
  refine lv_aload_n hx hb dX4_firstLetter_0 rfl (lv_at hl 0 rfl) ?_
  refine lv_iload_n hx hb dX4_firstLetter_1 rfl (lv_at hl 1 rfl) ?_
  obtain ⟨x1, hg2, hf⟩ := b_o1 hf
  refine x_cl hB (x_rv hB hW hS (As := [.int p1]) (rest := []) (ct_X4_spellingOf l G hk0 hg2) (cl_RX4_37 hB.2.2.2.2.1 ⟨Nat.le_of_ble_eq_true rfl, Nat.le_of_ble_eq_true rfl⟩) hk0 (by decide) rfl rfl hl.1 rfl (Nat.le_of_ble_eq_true rfl) dX4_firstLetter_2 ⟨Nat.le_refl _, Nat.le_refl _⟩) hS (fun H locs hW hS => ?_)
  refine lv_iconst (v := (0 : Int32)) hx hb dX4_firstLetter_5 (by decide) ?_
  obtain ⟨x3, hg4, hf⟩ := b_o1 hf
  refine x_ci hB (x_rn hB hW hS (As := [.long x1, .int (0 : Int32)]) (rest := []) (ct_X8_letterIn l G hg4) (cl_RX4_41 hB.nst hB.2.2.2.2.1 ⟨Nat.le_of_ble_eq_true rfl, Nat.le_of_ble_eq_true rfl⟩) rfl hl.1 rfl (Nat.le_of_ble_eq_true rfl) dX4_firstLetter_6 ⟨Nat.le_refl _, Nat.le_refl _⟩) hS (fun H locs hW hS => ?_)
  exact e_i hB hW hS hr hlk (Option.some.inj hf) rfl dX4_firstLetter_9
theorem cl_RX8_216 {R : Room} {s : State} {args : Array Value} (ht : ∀ w ∈ lw_all, w.before args s = true) (hR : 0 + 1 ≤ R.frames ∧ 8 + (2 + 11) + 0 ≤ R.locals) : CallW R s args RX8 RX4 216 yX4_has cX4_has 2 (some .boolean) (wsq yX4_has cX4_has 2 (some .boolean)) (rmq 0 0) 0 0 1 := cwV 1 ht (goodV wd3_224 wd3_225 wd3_226 wd1_4 wd3_227) rfl rfl rfl (by decide +kernel) hR
theorem cl_RX8_226 {R : Room} {s : State} {args : Array Value} (ht : ∀ w ∈ lw_all, w.before args s = true) (hR : 1 + 1 ≤ R.frames ∧ 8 + (2 + 11) + 22 ≤ R.locals) : CallW R s args RX8 RX4 226 yX4_firstLetter cX4_firstLetter 2 (some .int) (wsq yX4_firstLetter cX4_firstLetter 2 (some .int)) (rmq 1 22) 0 0 1 := cwV 1 ht (goodV wd3_228 wd3_229 wd3_230 wd1_4 wd3_231) rfl rfl rfl (by decide +kernel) hR
def f_X8_pattern (p1 : Int32) (p2 : Int32) (M : Mem) : Option (Int32 × Mem) := (bq1 (f_X4_has 7 p1 M) (fun (x1 : Int32) => (if x1 = 0 then (bq2 (f_X8_refuse (-1 : Int32) M) (fun (x19 : Int32) (M20 : Mem) => some (x19, M20))) else (if p2 = (0 : Int32) then (bq1 (f_X8_at 9 p1 M) (fun (x5 : Int32) => some (x5, M))) else if p2 = (1 : Int32) then (bq1 (f_X8_at 10 p1 M) (fun (x8 : Int32) => some (x8, M))) else if p2 = (2 : Int32) then (bq1 (f_X8_at 11 p1 M) (fun (x11 : Int32) => some (x11, M))) else if p2 = (3 : Int32) then (bq1 (f_X4_firstLetter 7 p1 M) (fun (x14 : Int32) => some (x14, M))) else (bq2 (f_X8_refuse (-2 : Int32) M) (fun (x16 : Int32) (M17 : Mem) => some (x16, M17)))))))
set_option maxHeartbeats 4000000 in
set_option maxRecDepth 100000 in
theorem ct_X8_pattern (l : Launch) (G : GG) {p1 : Int32} {p2 : Int32} {M : Mem} {r : Int32} {Mr : Mem}  (hf : f_X8_pattern p1 p2 M = some (r, Mr)) : Met l yX8_pattern (wsq yX8_pattern cX8_pattern 3 (some .int)) (rmq 2 43) (va_Pc [.ref (G.2.2.1 0), .int p1, .int p2] (World G M)) (Qi G r Mr) 0 0 (adA G) := by
  refine x_start (plainFor_of_name (by decide)) (Nat.le_of_ble_eq_true rfl) ?_
  intro p e s m args below meth c hB hr hlk hW hS ls hl
  have hx := hB.x
  have hb := hB.b
  have hl : lv_has ls 3 [(0, .ref (G.2.2.1 0)), (1, .int p1), (2, .int p2)] := hl
  unfold f_X8_pattern at hf
  refine lv_aload_n hx hb dX8_pattern_0 rfl (lv_at hl 0 rfl) ?_
  refine fg8_0 hB hW tl0 wd2_91 dX8_pattern_1 ?_
  refine fg3_2 hB hW tl1 wd1_98 dX8_pattern_4 ?_
  refine lv_iload_n hx hb dX8_pattern_7 rfl (lv_at hl 1 rfl) ?_
  obtain ⟨x1, hg2, hf⟩ := b_o1 hf
  refine x_ci hB (x_rv hB hW hS (As := [.int p1]) (rest := []) (ct_X4_has l G tl7 hg2) (cl_RX8_216 hB.2.2.2.2.1 ⟨Nat.le_of_ble_eq_true rfl, Nat.le_of_ble_eq_true rfl⟩) tl7 (by decide) rfl rfl hl.1 rfl (Nat.le_of_ble_eq_true rfl) dX8_pattern_8 ⟨Nat.le_refl _, Nat.le_refl _⟩) hS (fun H locs hW hS => ?_)
  refine lv_if_ne (tgt := 20) hx hb dX8_pattern_11 (by decide) (fun c3 => ?_) (fun c3 => ?_)
  · have hf := i_f hf c3
    refine lv_iload_n hx hb dX8_pattern_20 rfl (lv_at hl 2 rfl) ?_
    by_cases c4 : p2 = (0 : Int32)
    · have hf := i_t hf c4
      refine lv_tableIn (tgt := 52) hx hb dX8_pattern_21 (by rw [c4]; decide) (by rw [c4]; decide) (by rw [c4] <;> rfl) (by decide) ?_
      refine lv_aload_n hx hb dX8_pattern_52 rfl (lv_at hl 0 rfl) ?_
      refine fg8_0 hB hW tl0 wd2_91 dX8_pattern_53 ?_
      refine fg3_2 hB hW tl1 wd1_98 dX8_pattern_56 ?_
      refine fg4_1 hB hW tl7 wd1_72 dX8_pattern_59 ?_
      refine lv_iload_n hx hb dX8_pattern_62 rfl (lv_at hl 1 rfl) ?_
      obtain ⟨x5, hg6, hf⟩ := b_o1 hf
      refine x_ci hB (x_rs hB hW hS (As := [.ref (G.2.2.1 9), .int p1]) (rest := []) (ct_X8_at l G tl9 hg6) (cl_RX8_95 hB.2.2.2.2.1 ⟨Nat.le_of_ble_eq_true rfl, Nat.le_of_ble_eq_true rfl⟩) rfl hl.1 rfl (Nat.le_of_ble_eq_true rfl) dX8_pattern_63 ⟨Nat.le_refl _, Nat.le_refl _⟩) hS (fun H locs hW hS => ?_)
      exact e_i hB hW hS hr hlk (s_1 hf) (s_2 hf) dX8_pattern_66
    · have hf := i_f hf c4
      by_cases c7 : p2 = (1 : Int32)
      · have hf := i_t hf c7
        refine lv_tableIn (tgt := 67) hx hb dX8_pattern_21 (by rw [c7]; decide) (by rw [c7]; decide) (by rw [c7] <;> rfl) (by decide) ?_
        refine lv_aload_n hx hb dX8_pattern_67 rfl (lv_at hl 0 rfl) ?_
        refine fg8_0 hB hW tl0 wd2_91 dX8_pattern_68 ?_
        refine fg3_2 hB hW tl1 wd1_98 dX8_pattern_71 ?_
        refine fg4_2 hB hW tl7 wd1_74 dX8_pattern_74 ?_
        refine lv_iload_n hx hb dX8_pattern_77 rfl (lv_at hl 1 rfl) ?_
        obtain ⟨x8, hg9, hf⟩ := b_o1 hf
        refine x_ci hB (x_rs hB hW hS (As := [.ref (G.2.2.1 10), .int p1]) (rest := []) (ct_X8_at l G tl10 hg9) (cl_RX8_95 hB.2.2.2.2.1 ⟨Nat.le_of_ble_eq_true rfl, Nat.le_of_ble_eq_true rfl⟩) rfl hl.1 rfl (Nat.le_of_ble_eq_true rfl) dX8_pattern_78 ⟨Nat.le_refl _, Nat.le_refl _⟩) hS (fun H locs hW hS => ?_)
        exact e_i hB hW hS hr hlk (s_1 hf) (s_2 hf) dX8_pattern_81
      · have hf := i_f hf c7
        by_cases c10 : p2 = (2 : Int32)
        · have hf := i_t hf c10
          refine lv_tableIn (tgt := 82) hx hb dX8_pattern_21 (by rw [c10]; decide) (by rw [c10]; decide) (by rw [c10] <;> rfl) (by decide) ?_
          refine lv_aload_n hx hb dX8_pattern_82 rfl (lv_at hl 0 rfl) ?_
          refine fg8_0 hB hW tl0 wd2_91 dX8_pattern_83 ?_
          refine fg3_2 hB hW tl1 wd1_98 dX8_pattern_86 ?_
          refine fg4_3 hB hW tl7 wd1_76 dX8_pattern_89 ?_
          refine lv_iload_n hx hb dX8_pattern_92 rfl (lv_at hl 1 rfl) ?_
          obtain ⟨x11, hg12, hf⟩ := b_o1 hf
          refine x_ci hB (x_rs hB hW hS (As := [.ref (G.2.2.1 11), .int p1]) (rest := []) (ct_X8_at l G tl11 hg12) (cl_RX8_95 hB.2.2.2.2.1 ⟨Nat.le_of_ble_eq_true rfl, Nat.le_of_ble_eq_true rfl⟩) rfl hl.1 rfl (Nat.le_of_ble_eq_true rfl) dX8_pattern_93 ⟨Nat.le_refl _, Nat.le_refl _⟩) hS (fun H locs hW hS => ?_)
          exact e_i hB hW hS hr hlk (s_1 hf) (s_2 hf) dX8_pattern_96
        · have hf := i_f hf c10
          by_cases c13 : p2 = (3 : Int32)
          · have hf := i_t hf c13
            refine lv_tableIn (tgt := 97) hx hb dX8_pattern_21 (by rw [c13]; decide) (by rw [c13]; decide) (by rw [c13] <;> rfl) (by decide) ?_
            refine lv_aload_n hx hb dX8_pattern_97 rfl (lv_at hl 0 rfl) ?_
            refine fg8_0 hB hW tl0 wd2_91 dX8_pattern_98 ?_
            refine fg3_2 hB hW tl1 wd1_98 dX8_pattern_101 ?_
            refine lv_iload_n hx hb dX8_pattern_104 rfl (lv_at hl 1 rfl) ?_
            obtain ⟨x14, hg15, hf⟩ := b_o1 hf
            refine x_ci hB (x_rv hB hW hS (As := [.int p1]) (rest := []) (ct_X4_firstLetter l G tl7 hg15) (cl_RX8_226 hB.2.2.2.2.1 ⟨Nat.le_of_ble_eq_true rfl, Nat.le_of_ble_eq_true rfl⟩) tl7 (by decide) rfl rfl hl.1 rfl (Nat.le_of_ble_eq_true rfl) dX8_pattern_105 ⟨Nat.le_refl _, Nat.le_refl _⟩) hS (fun H locs hW hS => ?_)
            exact e_i hB hW hS hr hlk (s_1 hf) (s_2 hf) dX8_pattern_108
          · have hf := i_f hf c13
            refine lv_tableOut (tgt := 109) hx hb dX8_pattern_21 (sw_out (lo := 0) (hi := 3) (fun v h1 h2 hv => ?_)) (by decide) ?_
            · rcases (show v = 0 ∨ v = 1 ∨ v = 2 ∨ v = 3 by omega) with rfl | rfl | rfl | rfl
              · exact c4 hv
              · exact c7 hv
              · exact c10 hv
              · exact c13 hv
            · skip
              refine lv_aload_n hx hb dX8_pattern_109 rfl (lv_at hl 0 rfl) ?_
              refine lv_bipush (v := (-2 : Int32)) hx hb dX8_pattern_110 (by decide) ?_
              obtain ⟨x16, M17, hg18, hf⟩ := b_o2 hf
              refine x_ci hB (x_rv hB hW hS (As := [.int (-2 : Int32)]) (rest := []) (ct_X8_refuse l G hg18) (cl_RX8_50 hB.2.2.2.2.1 ⟨Nat.le_of_ble_eq_true rfl, Nat.le_of_ble_eq_true rfl⟩) tl0 (by decide) rfl rfl hl.1 rfl (Nat.le_of_ble_eq_true rfl) dX8_pattern_112 ⟨Nat.le_refl _, Nat.le_refl _⟩) hS (fun H locs hW hS => ?_)
              exact e_i hB hW hS hr hlk (s_1 hf) (s_2 hf) dX8_pattern_115
  · have hf := i_t hf c3
    refine lv_aload_n hx hb dX8_pattern_14 rfl (lv_at hl 0 rfl) ?_
    refine lv_iconst (v := (-1 : Int32)) hx hb dX8_pattern_15 (by decide) ?_
    obtain ⟨x19, M20, hg21, hf⟩ := b_o2 hf
    refine x_ci hB (x_rv hB hW hS (As := [.int (-1 : Int32)]) (rest := []) (ct_X8_refuse l G hg21) (cl_RX8_50 hB.2.2.2.2.1 ⟨Nat.le_of_ble_eq_true rfl, Nat.le_of_ble_eq_true rfl⟩) tl0 (by decide) rfl rfl hl.1 rfl (Nat.le_of_ble_eq_true rfl) dX8_pattern_16 ⟨Nat.le_refl _, Nat.le_refl _⟩) hS (fun H locs hW hS => ?_)
    exact e_i hB hW hS hr hlk (s_1 hf) (s_2 hf) dX8_pattern_19
def f_X0_lastLeft_L4 (p1 : Int32) (p2 : Int32) (K3 : Int32 → Int32 → Option (Int32)) (x1 : Int32) (x2 : Int32) : Option (Int32) := (if p1 ≤ x2 then (some (x1)) else (if ((ishr_ p2 x2) &&& (1 : Int32)) = 0 then (nmq (x2 + (1 : Int32)) (fun (x11 : Int32) => (K3 x2 x11))) else (nmq (x2 + (1 : Int32)) (fun (x10 : Int32) => (K3 x1 x10)))))
def f_X0_lastLeft (p1 : Int32) (p2 : Int32) : Option Int32 := (bq1 (lq2 (f_X0_lastLeft_L4 p1 p2) FU (-1 : Int32) (0 : Int32)) (fun (x5 : Int32) => some x5))
set_option maxHeartbeats 4000000 in
set_option maxRecDepth 100000 in
theorem ct_X0_lastLeft (l : Launch) (G : GG) {p1 : Int32} {p2 : Int32} {M : Mem} {r : Int32}  (hf : f_X0_lastLeft p1 p2 = some r) : Met l yX0_lastLeft (wsq yX0_lastLeft cX0_lastLeft 4 (some .int)) (rmq 0 0) (va_Pc [.int p1, .int p2] (World G M)) (Qi G r M) 0 0 (adA G) := by
  refine x_start (plainFor_of_name (by decide)) (Nat.le_of_ble_eq_true rfl) ?_
  intro p e s m args below meth c hB hr hlk hW hS ls hl
  have hx := hB.x
  have hb := hB.b
  have hl : lv_has ls 4 [(0, .int p1), (1, .int p2)] := hl
  unfold f_X0_lastLeft at hf
  refine lv_iconst (v := (-1 : Int32)) hx hb dX0_lastLeft_0 (by decide) ?_
  refine lv_istore_n (lv' := [(2, .int (-1 : Int32)), (0, .int p1), (1, .int p2)]) hx hb dX0_lastLeft_1 rfl hl (by decide) rfl (fun ls hl => ?_)
  refine lv_iconst (v := (0 : Int32)) hx hb dX0_lastLeft_2 (by decide) ?_
  refine lv_istore_n (lv' := [(3, .int (0 : Int32)), (2, .int (-1 : Int32)), (0, .int p1), (1, .int p2)]) hx hb dX0_lastLeft_3 rfl hl (by decide) rfl (fun ls hl => ?_)
  obtain ⟨y6, hL, hf⟩ := b_o1 hf
  have main7 : ∀ (x5 : Int32) (H : Heap) (locs : List Loc) (ls : Array Slot), Wd G M H → va_S (adA G) s.heap H locs → lv_has ls 4 [(2, .int x5)] → some (x5) = some (y6) → W p l e (rmq 0 0) s m args below meth c H locs 0 0 (MQ below (Qi G r M) args s 0 0 (adA G)) (F0 m 25 ls []) := by
    intro x5 H locs ls hW hS hl hE
    cases hE
    refine lv_iload_n hx hb dX0_lastLeft_25 rfl (lv_at hl 0 rfl) ?_
    exact e_i hB hW hS hr hlk (Option.some.inj hf) rfl dX0_lastLeft_26
  have loop4 : ∀ (n : Nat) (x1 : Int32) (x2 : Int32) (H : Heap) (locs : List Loc) (ls : Array Slot), Wd G M H → va_S (adA G) s.heap H locs → lv_has ls 4 [(0, .int p1), (1, .int p2), (2, .int x1), (3, .int x2)] → lq2 (f_X0_lastLeft_L4 p1 p2) n x1 x2 = some (y6) → W p l e (rmq 0 0) s m args below meth c H locs 0 0 (MQ below (Qi G r M) args s 0 0 (adA G)) (F0 m 4 ls []) := by
    intro n
    induction n with
    | zero => intro x1 x2 H locs ls hW hS hl hf; exact (l_z2 hf).elim
    | succ n ih =>
      intro x1 x2 H locs ls hW hS hl hf
      have hf := l_s2 hf
      generalize lq2 (f_X0_lastLeft_L4 p1 p2) n = K3 at ih hf
      unfold f_X0_lastLeft_L4 at hf
      refine lv_iload_n hx hb dX0_lastLeft_4 rfl (lv_at hl 3 rfl) ?_
      refine lv_iload_n hx hb dX0_lastLeft_5 rfl (lv_at hl 0 rfl) ?_
      refine lv_icmp_ge (tgt := 25) hx hb dX0_lastLeft_6 (by decide) (fun c8 => ?_) (fun c8 => ?_)
      · have hf := i_t hf c8
        exact main7 x1 _ _ ls hW hS (lv_sub hl [2] rfl) hf
      · have hf := i_f hf c8
        refine lv_iload_n hx hb dX0_lastLeft_9 rfl (lv_at hl 1 rfl) ?_
        refine lv_iload_n hx hb dX0_lastLeft_10 rfl (lv_at hl 3 rfl) ?_
        refine lv_ishr hx hb dX0_lastLeft_11 ?_
        refine lv_iconst (v := (1 : Int32)) hx hb dX0_lastLeft_12 (by decide) ?_
        refine lv_iand hx hb dX0_lastLeft_13 ?_
        refine lv_if_ne (tgt := 19) hx hb dX0_lastLeft_14 (by decide) (fun c9 => ?_) (fun c9 => ?_)
        · have hf := i_f hf c9
          obtain ⟨x10, ex10⟩ : ∃ y : Int32, y = x2 + (1 : Int32) := ⟨_, rfl⟩
          have hf := nm_o hf ex10
          refine lv_iinc (v := x10) (lv' := [(3, .int x10), (0, .int p1), (1, .int p2), (2, .int x1)]) hx hb dX0_lastLeft_19 hl (k := 3) rfl (by rw [ex10]; rfl) (by decide) rfl (fun ls hl => ?_)
          refine lv_goto (tgt := 4) hx hb dX0_lastLeft_22 (by decide) ?_
          exact ih x1 x10 _ _ ls hW hS (lv_sub hl [1, 2, 3, 0] rfl) hf
        · have hf := i_t hf c9
          refine lv_iload_n hx hb dX0_lastLeft_17 rfl (lv_at hl 3 rfl) ?_
          refine lv_istore_n (lv' := [(2, .int x2), (0, .int p1), (1, .int p2), (3, .int x2)]) hx hb dX0_lastLeft_18 rfl hl (by decide) rfl (fun ls hl => ?_)
          obtain ⟨x11, ex11⟩ : ∃ y : Int32, y = x2 + (1 : Int32) := ⟨_, rfl⟩
          have hf := nm_o hf ex11
          refine lv_iinc (v := x11) (lv' := [(3, .int x11), (2, .int x2), (0, .int p1), (1, .int p2)]) hx hb dX0_lastLeft_19 hl (k := 3) rfl (by rw [ex11]; rfl) (by decide) rfl (fun ls hl => ?_)
          refine lv_goto (tgt := 4) hx hb dX0_lastLeft_22 (by decide) ?_
          exact ih x2 x11 _ _ ls hW hS (lv_sub hl [2, 3, 1, 0] rfl) hf
  exact loop4 FU (-1 : Int32) (0 : Int32) _ _ ls hW hS (lv_sub hl [2, 3, 1, 0] rfl) hL
theorem cl_RX0_46 {R : Room} {s : State} {args : Array Value} (ht : ∀ w ∈ lw_all, w.before args s = true) (hR : 1 + 1 ≤ R.frames ∧ 8 + (2 + 11) + 21 ≤ R.locals) : CallW R s args RX0 RX7 46 yX7_isForced cX7_isForced 2 (some .boolean) (wsq yX7_isForced cX7_isForced 2 (some .boolean)) (rmq 1 21) 0 0 1 := cwV 1 ht (goodV wd4_11 wd3_188 wd3_189 wd1_3 wd3_190) rfl rfl rfl (by decide +kernel) hR
def f_X0_endOf (k1 : Nat) (p2 : Int32) (p3 : Int32) (M : Mem) : Option Int32 := (bq1 (f_X7_isForced k1 p2 M) (fun (x1 : Int32) => (if x1 = 0 then (if p2 = p3 then some (3 : Int32) else some (0 : Int32)) else some (2 : Int32))))
set_option maxHeartbeats 4000000 in
set_option maxRecDepth 100000 in
theorem ct_X0_endOf (l : Launch) (G : GG) {k1 : Nat} {p2 : Int32} {p3 : Int32} {M : Mem} {r : Int32} (hk1 : isT 7 k1) (hf : f_X0_endOf k1 p2 p3 M = some r) : Met l yX0_endOf (wsq yX0_endOf cX0_endOf 3 (some .int)) (rmq 2 42) (va_Pc [.ref (G.2.2.1 k1), .int p2, .int p3] (World G M)) (Qi G r M) 0 0 (adA G) := by
  refine x_start (plainFor_of_name (by decide)) (Nat.le_of_ble_eq_true rfl) ?_
  intro p e s m args below meth c hB hr hlk hW hS ls hl
  have hx := hB.x
  have hb := hB.b
  have hl : lv_has ls 3 [(0, .ref (G.2.2.1 k1)), (1, .int p2), (2, .int p3)] := hl
  unfold f_X0_endOf at hf
  refine lv_aload_n hx hb dX0_endOf_0 rfl (lv_at hl 0 rfl) ?_
  refine lv_iload_n hx hb dX0_endOf_1 rfl (lv_at hl 1 rfl) ?_
  obtain ⟨x1, hg2, hf⟩ := b_o1 hf
  refine x_ci hB (x_rv hB hW hS (As := [.int p2]) (rest := []) (ct_X7_isForced l G hk1 hg2) (cl_RX0_46 hB.2.2.2.2.1 ⟨Nat.le_of_ble_eq_true rfl, Nat.le_of_ble_eq_true rfl⟩) hk1 (by decide) rfl rfl hl.1 rfl (Nat.le_of_ble_eq_true rfl) dX0_endOf_2 ⟨Nat.le_refl _, Nat.le_refl _⟩) hS (fun H locs hW hS => ?_)
  refine lv_if_eq (tgt := 10) hx hb dX0_endOf_5 (by decide) (fun c3 => ?_) (fun c3 => ?_)
  · have hf := i_t hf c3
    refine lv_iload_n hx hb dX0_endOf_10 rfl (lv_at hl 1 rfl) ?_
    refine lv_iload_n hx hb dX0_endOf_11 rfl (lv_at hl 2 rfl) ?_
    refine lv_icmp_ne (tgt := 19) hx hb dX0_endOf_12 (by decide) (fun c4 => ?_) (fun c4 => ?_)
    · have hf := i_f hf c4
      refine lv_iconst (v := (0 : Int32)) hx hb dX0_endOf_19 (by decide) ?_
      exact e_i hB hW hS hr hlk (Option.some.inj hf) rfl dX0_endOf_20
    · have hf := i_t hf c4
      refine lv_iconst (v := (3 : Int32)) hx hb dX0_endOf_15 (by decide) ?_
      refine lv_goto (tgt := 20) hx hb dX0_endOf_16 (by decide) ?_
      exact e_i hB hW hS hr hlk (Option.some.inj hf) rfl dX0_endOf_20
  · have hf := i_f hf c3
    refine lv_iconst (v := (2 : Int32)) hx hb dX0_endOf_8 (by decide) ?_
    exact e_i hB hW hS hr hlk (Option.some.inj hf) rfl dX0_endOf_9
theorem cl_RX0_74 {R : Room} {s : State} {args : Array Value} (hN : Nst s) (ht : ∀ w ∈ lw_all, w.before args s = true) (hR : 0 + 1 ≤ R.frames ∧ 8 + (3 + 11) + 0 ≤ R.locals) : va_CN R s args RX0 74 yX8_put "LinesOfFragments" cX8_put 3 none (wsq yX8_put cX8_put 3 none) (rmq 0 0) 0 0 3 ∧ (Cond.static yX8_put).before args s = true ∧ True := ⟨va_cnB 3 ht (goodC wd2_138) rfl rfl rfl (hN _ (List.mem_of_getElem? (l := nestL) (i := 20) rfl)) (ht _ wd1_1) (by decide +kernel) hR, ht _ wd2_137, trivial⟩
def f_X0_add (p1 : Int32) (p2 : Int32) (p3 : Int32) (M : Mem) : Option Mem := (bq1 (f_X8_put 129 (gi M 128 3) p1 M) (fun (M1 : Mem) => bq1 (f_X8_put 130 (gi M1 128 3) p2 M1) (fun (M3 : Mem) => bq1 (f_X8_put 131 (gi M3 128 3) p3 M3) (fun (M5 : Mem) => nmq (si M5 128 3 ((gi M5 128 3) + (1 : Int32))) (fun (M7 : Mem) => some M7)))))
set_option maxHeartbeats 4000000 in
set_option maxRecDepth 100000 in
theorem ct_X0_add (l : Launch) (G : GG) {p1 : Int32} {p2 : Int32} {p3 : Int32} {M : Mem} {Mr : Mem}  (hf : f_X0_add p1 p2 p3 M = some Mr) : Met l yX0_add (wsq yX0_add cX0_add 4 none) (rmq 1 22) (va_Pc [.ref (G.2.2.1 128), .int p1, .int p2, .int p3] (World G M)) (Qv G Mr) 0 0 (adA G) := by
  refine x_start (plainFor_of_name (by decide)) (Nat.le_of_ble_eq_true rfl) ?_
  intro p e s m args below meth c hB hr hlk hW hS ls hl
  have hx := hB.x
  have hb := hB.b
  have hl : lv_has ls 4 [(0, .ref (G.2.2.1 128)), (1, .int p1), (2, .int p2), (3, .int p3)] := hl
  unfold f_X0_add at hf
  refine lv_aload_n hx hb dX0_add_0 rfl (lv_at hl 0 rfl) ?_
  refine fg0_0 hB hW tl128 wd1_218 dX0_add_1 ?_
  refine lv_aload_n hx hb dX0_add_4 rfl (lv_at hl 0 rfl) ?_
  refine fg0_3 hB hW tl128 wd1_224 dX0_add_5 ?_
  refine lv_iload_n hx hb dX0_add_8 rfl (lv_at hl 1 rfl) ?_
  obtain ⟨M1, hg2, hf⟩ := b_o1 hf
  refine x_cv hB (x_rn hB hW hS (As := [.ref (G.2.2.1 129), .int (gi M 128 3), .int p1]) (rest := []) (ct_X8_put l G tl129 hg2) (cl_RX0_74 hB.nst hB.2.2.2.2.1 ⟨Nat.le_of_ble_eq_true rfl, Nat.le_of_ble_eq_true rfl⟩) rfl hl.1 rfl (Nat.le_of_ble_eq_true rfl) dX0_add_9 ⟨Nat.le_refl _, Nat.le_refl _⟩) hS (fun H locs hW hS => ?_)
  refine lv_aload_n hx hb dX0_add_12 rfl (lv_at hl 0 rfl) ?_
  refine fg0_1 hB hW tl128 wd1_220 dX0_add_13 ?_
  refine lv_aload_n hx hb dX0_add_16 rfl (lv_at hl 0 rfl) ?_
  refine fg0_3 hB hW tl128 wd1_224 dX0_add_17 ?_
  refine lv_iload_n hx hb dX0_add_20 rfl (lv_at hl 2 rfl) ?_
  obtain ⟨M3, hg4, hf⟩ := b_o1 hf
  refine x_cv hB (x_rn hB hW hS (As := [.ref (G.2.2.1 130), .int (gi M1 128 3), .int p2]) (rest := []) (ct_X8_put l G tl130 hg4) (cl_RX0_74 hB.nst hB.2.2.2.2.1 ⟨Nat.le_of_ble_eq_true rfl, Nat.le_of_ble_eq_true rfl⟩) rfl hl.1 rfl (Nat.le_of_ble_eq_true rfl) dX0_add_21 ⟨Nat.le_refl _, Nat.le_refl _⟩) hS (fun H locs hW hS => ?_)
  refine lv_aload_n hx hb dX0_add_24 rfl (lv_at hl 0 rfl) ?_
  refine fg0_2 hB hW tl128 wd1_222 dX0_add_25 ?_
  refine lv_aload_n hx hb dX0_add_28 rfl (lv_at hl 0 rfl) ?_
  refine fg0_3 hB hW tl128 wd1_224 dX0_add_29 ?_
  refine lv_iload_n hx hb dX0_add_32 rfl (lv_at hl 3 rfl) ?_
  obtain ⟨M5, hg6, hf⟩ := b_o1 hf
  refine x_cv hB (x_rn hB hW hS (As := [.ref (G.2.2.1 131), .int (gi M3 128 3), .int p3]) (rest := []) (ct_X8_put l G tl131 hg6) (cl_RX0_74 hB.nst hB.2.2.2.2.1 ⟨Nat.le_of_ble_eq_true rfl, Nat.le_of_ble_eq_true rfl⟩) rfl hl.1 rfl (Nat.le_of_ble_eq_true rfl) dX0_add_33 ⟨Nat.le_refl _, Nat.le_refl _⟩) hS (fun H locs hW hS => ?_)
  refine lv_aload_n hx hb dX0_add_36 rfl (lv_at hl 0 rfl) ?_
  refine lv_dup hx hb dX0_add_37 rfl ?_
  refine fg0_3 hB hW tl128 wd1_224 dX0_add_38 ?_
  refine lv_iconst (v := (1 : Int32)) hx hb dX0_add_41 (by decide) ?_
  refine lv_iadd hx hb dX0_add_42 ?_
  refine fp0_3 hB hW hS tl128 wd1_224 dX0_add_43 (fun H locs M7 eM7 hW hS => ?_)
  have hf := nm_o hf eM7
  exact e_v hB hW hS hr hlk (Option.some.inj hf) dX0_add_46
theorem cl_RX0_50 {R : Room} {s : State} {args : Array Value} (ht : ∀ w ∈ lw_all, w.before args s = true) (hR : 1 + 1 ≤ R.frames ∧ 8 + (2 + 11) + 21 ≤ R.locals) : CallW R s args RX0 RX7 50 yX7_lengthOf cX7_lengthOf 2 (some .int) (wsq yX7_lengthOf cX7_lengthOf 2 (some .int)) (rmq 1 21) 0 0 1 := cwV 1 ht (goodV wd4_16 wd3_173 wd3_174 wd1_3 wd3_175) rfl rfl rfl (by decide +kernel) hR
theorem cl_RX0_54 {R : Room} {s : State} {args : Array Value} (ht : ∀ w ∈ lw_all, w.before args s = true) (hR : 0 + 1 ≤ R.frames ∧ 8 + (2 + 11) + 0 ≤ R.locals) : CallW R s args RX0 RX7 54 yX7_spellingOf cX7_spellingOf 2 (some .long) (wsq yX7_spellingOf cX7_spellingOf 2 (some .long)) (rmq 0 0) 0 0 1 := cwV 1 ht (goodV wd4_17 wd3_120 wd3_121 wd1_3 wd3_122) rfl rfl rfl (by decide +kernel) hR
theorem cl_RX0_58 {R : Room} {s : State} {args : Array Value} (ht : ∀ w ∈ lw_all, w.before args s = true) (hR : 2 + 1 ≤ R.frames ∧ 8 + (7 + 11) + 49 ≤ R.locals) : CallW R s args RX0 RX3 58 yX3_hyphenPlaces cX3_hyphenPlaces 7 (some .int) (wsq yX3_hyphenPlaces cX3_hyphenPlaces 7 (some .int)) (rmq 2 49) 0 0 1 := cwV 1 ht (goodV wd4_18 wd3_192 wd3_193 wd1_2 wd3_194) rfl rfl rfl (by decide +kernel) hR
theorem cl_RX0_62 {R : Room} {s : State} {args : Array Value} (hN : Nst s) (ht : ∀ w ∈ lw_all, w.before args s = true) (hR : 0 + 1 ≤ R.frames ∧ 8 + (3 + 11) + 0 ≤ R.locals) : va_CN R s args RX0 62 yX8_letterIn "LinesOfFragments" cX8_letterIn 3 (some .int) (wsq yX8_letterIn cX8_letterIn 3 (some .int)) (rmq 0 0) 0 0 2 ∧ (Cond.static yX8_letterIn).before args s = true ∧ True := ⟨va_cnB 2 ht (goodC wd3_184) rfl rfl rfl (hN _ (List.mem_of_getElem? (l := nestL) (i := 18) rfl)) (ht _ wd1_1) (by decide +kernel) hR, ht _ wd3_183, trivial⟩
theorem cl_RX0_66 {R : Room} {s : State} {args : Array Value} (hN : Nst s) (ht : ∀ w ∈ lw_all, w.before args s = true) (hR : 0 + 1 ≤ R.frames ∧ 8 + (2 + 11) + 0 ≤ R.locals) : va_CN R s args RX0 66 yX8_at "LinesOfFragments" cX8_at 2 (some .int) (wsq yX8_at cX8_at 2 (some .int)) (rmq 0 0) 0 0 2 ∧ (Cond.static yX8_at).before args s = true ∧ True := ⟨va_cnB 2 ht (goodC wd2_135) rfl rfl rfl (hN _ (List.mem_of_getElem? (l := nestL) (i := 19) rfl)) (ht _ wd1_1) (by decide +kernel) hR, ht _ wd2_134, trivial⟩
theorem cl_RX0_70 {R : Room} {s : State} {args : Array Value} (ht : ∀ w ∈ lw_all, w.before args s = true) (hR : 1 + 1 ≤ R.frames ∧ 8 + (4 + 11) + 22 ≤ R.locals) : CallW R s args RX0 RX0 70 yX0_add cX0_add 4 none (wsq yX0_add cX0_add 4 none) (rmq 1 22) 0 0 3 := cwV 3 ht (goodV wd4_21 wd4_23 wsel_21 wd1_9 wd4_24) rfl rfl rfl (by decide +kernel) hR
def f_X0_cutWord_L33 (k1 : Nat) (p3 : Int32) (p4 : Int32) (x1 : Int32) (x3 : Int64) (x5 : Int32) (K10 : Int32 → Int32 → Mem → Option (Mem)) (x7 : Int32) (x8 : Int32) (M9 : Mem) : Option (Mem) := (if x1 < x8 then (some (M9)) else (bq1 (f_X8_letterIn x3 (x8 - (1 : Int32))) (fun (x16 : Int32) => bq1 (f_X8_at (k1 + 1) x16 M9) (fun (x18 : Int32) => nmq ((x7 + x18)) (fun (x20 : Int32) => (if x8 = x1 then (bq1 (f_X0_add x20 p3 p4 M9) (fun (M27 : Mem) => (nmq (x8 + (1 : Int32)) (fun (x29 : Int32) => (K10 x20 x29 M27))))) else (if ((ishr_ x5 x8) &&& (1 : Int32)) = (1 : Int32) then (bq1 (f_X0_add x20 p3 (1 : Int32) M9) (fun (M24 : Mem) => (nmq (x8 + (1 : Int32)) (fun (x26 : Int32) => (K10 (0 : Int32) x26 M24))))) else (nmq (x8 + (1 : Int32)) (fun (x23 : Int32) => (K10 x20 x23 M9))))))))))
def f_X0_cutWord (k1 : Nat) (p2 : Int32) (p3 : Int32) (p4 : Int32) (M : Mem) : Option Mem := (bq1 (f_X7_lengthOf (k1 + 2) p2 M) (fun (x1 : Int32) => bq1 (f_X7_spellingOf (k1 + 2) p2 M) (fun (x3 : Int64) => bq1 (f_X3_hyphenPlaces k1 p2 M) (fun (x5 : Int32) => (bq1 (lq3 (f_X0_cutWord_L33 k1 p3 p4 x1 x3 x5) FU (0 : Int32) (1 : Int32) M) (fun (M12 : Mem) => some M12))))))
set_option maxHeartbeats 4000000 in
set_option maxRecDepth 100000 in
theorem ct_X0_cutWord (l : Launch) (G : GG) {k1 : Nat} {p2 : Int32} {p3 : Int32} {p4 : Int32} {M : Mem} {Mr : Mem} (hk1 : isT 3 k1) (hf : f_X0_cutWord k1 p2 p3 p4 M = some Mr) : Met l yX0_cutWord (wsq yX0_cutWord cX0_cutWord 11 none) (rmq 3 75) (va_Pc [.ref (G.2.2.1 128), .ref (G.2.2.1 k1), .int p2, .int p3, .int p4] (World G M)) (Qv G Mr) 0 0 (adA G) := by
  refine x_start (plainFor_of_name (by decide)) (Nat.le_of_ble_eq_true rfl) ?_
  intro p e s m args below meth c hB hr hlk hW hS ls hl
  have hx := hB.x
  have hb := hB.b
  have hl : lv_has ls 11 [(0, .ref (G.2.2.1 128)), (1, .ref (G.2.2.1 k1)), (2, .int p2), (3, .int p3), (4, .int p4)] := hl
  unfold f_X0_cutWord at hf
  refine lv_aload_n hx hb dX0_cutWord_0 rfl (lv_at hl 1 rfl) ?_
  refine fg3_1 hB hW hk1 wd1_94 dX0_cutWord_1 ?_
  refine lv_iload_n hx hb dX0_cutWord_4 rfl (lv_at hl 2 rfl) ?_
  obtain ⟨x1, hg2, hf⟩ := b_o1 hf
  refine x_ci hB (x_rv hB hW hS (As := [.int p2]) (rest := []) (ct_X7_lengthOf l G (rf3_1 hk1) hg2) (cl_RX0_50 hB.2.2.2.2.1 ⟨Nat.le_of_ble_eq_true rfl, Nat.le_of_ble_eq_true rfl⟩) (rf3_1 hk1) (by decide) rfl rfl hl.1 rfl (Nat.le_of_ble_eq_true rfl) dX0_cutWord_5 ⟨Nat.le_refl _, Nat.le_refl _⟩) hS (fun H locs hW hS => ?_)
  refine lv_istore (lv' := [(5, .int x1), (0, .ref (G.2.2.1 128)), (1, .ref (G.2.2.1 k1)), (2, .int p2), (3, .int p3), (4, .int p4)]) hx hb dX0_cutWord_8 hl (by decide) rfl (fun ls hl => ?_)
  refine lv_aload_n hx hb dX0_cutWord_10 rfl (lv_at hl 2 rfl) ?_
  refine fg3_1 hB hW hk1 wd1_94 dX0_cutWord_11 ?_
  refine lv_iload_n hx hb dX0_cutWord_14 rfl (lv_at hl 3 rfl) ?_
  obtain ⟨x3, hg4, hf⟩ := b_o1 hf
  refine x_cl hB (x_rv hB hW hS (As := [.int p2]) (rest := []) (ct_X7_spellingOf l G (rf3_1 hk1) hg4) (cl_RX0_54 hB.2.2.2.2.1 ⟨Nat.le_of_ble_eq_true rfl, Nat.le_of_ble_eq_true rfl⟩) (rf3_1 hk1) (by decide) rfl rfl hl.1 rfl (Nat.le_of_ble_eq_true rfl) dX0_cutWord_15 ⟨Nat.le_refl _, Nat.le_refl _⟩) hS (fun H locs hW hS => ?_)
  refine lv_lstore (lv' := [(6, .long x3), (5, .int x1), (0, .ref (G.2.2.1 128)), (1, .ref (G.2.2.1 k1)), (2, .int p2), (3, .int p3), (4, .int p4)]) hx hb dX0_cutWord_18 hl (by decide) rfl (fun ls hl => ?_)
  refine lv_aload_n hx hb dX0_cutWord_20 rfl (lv_at hl 3 rfl) ?_
  refine lv_iload_n hx hb dX0_cutWord_21 rfl (lv_at hl 4 rfl) ?_
  obtain ⟨x5, hg6, hf⟩ := b_o1 hf
  refine x_ci hB (x_rv hB hW hS (As := [.int p2]) (rest := []) (ct_X3_hyphenPlaces l G hk1 hg6) (cl_RX0_58 hB.2.2.2.2.1 ⟨Nat.le_of_ble_eq_true rfl, Nat.le_of_ble_eq_true rfl⟩) hk1 (by decide) rfl rfl hl.1 rfl (Nat.le_of_ble_eq_true rfl) dX0_cutWord_22 ⟨Nat.le_refl _, Nat.le_refl _⟩) hS (fun H locs hW hS => ?_)
  refine lv_istore (lv' := [(8, .int x5), (6, .long x3), (5, .int x1), (0, .ref (G.2.2.1 128)), (1, .ref (G.2.2.1 k1)), (2, .int p2), (3, .int p3), (4, .int p4)]) hx hb dX0_cutWord_25 hl (by decide) rfl (fun ls hl => ?_)
  refine lv_iconst (v := (0 : Int32)) hx hb dX0_cutWord_27 (by decide) ?_
  refine lv_istore (lv' := [(9, .int (0 : Int32)), (8, .int x5), (6, .long x3), (5, .int x1), (0, .ref (G.2.2.1 128)), (1, .ref (G.2.2.1 k1)), (2, .int p2), (3, .int p3), (4, .int p4)]) hx hb dX0_cutWord_28 hl (by decide) rfl (fun ls hl => ?_)
  refine lv_iconst (v := (1 : Int32)) hx hb dX0_cutWord_30 (by decide) ?_
  refine lv_istore (lv' := [(10, .int (1 : Int32)), (9, .int (0 : Int32)), (8, .int x5), (6, .long x3), (5, .int x1), (0, .ref (G.2.2.1 128)), (1, .ref (G.2.2.1 k1)), (2, .int p2), (3, .int p3), (4, .int p4)]) hx hb dX0_cutWord_31 hl (by decide) rfl (fun ls hl => ?_)
  obtain ⟨M13, hL, hf⟩ := b_o1 hf
  have main14 : ∀ (M12 : Mem) (H : Heap) (locs : List Loc) (ls : Array Slot), Wd G M12 H → va_S (adA G) s.heap H locs → lv_has ls 11 [] → some (M12) = some (M13) → W p l e (rmq 3 75) s m args below meth c H locs 0 0 (MQ below (Qv G Mr) args s 0 0 (adA G)) (F0 m 108 ls []) := by
    intro M12 H locs ls hW hS hl hE
    cases hE
    exact e_v hB hW hS hr hlk (Option.some.inj hf) dX0_cutWord_108
  have loop11 : ∀ (n : Nat) (x7 : Int32) (x8 : Int32) (M9 : Mem) (H : Heap) (locs : List Loc) (ls : Array Slot), Wd G M9 H → va_S (adA G) s.heap H locs → lv_has ls 11 [(0, .ref (G.2.2.1 128)), (1, .ref (G.2.2.1 k1)), (3, .int p3), (4, .int p4), (5, .int x1), (6, .long x3), (8, .int x5), (9, .int x7), (10, .int x8)] → lq3 (f_X0_cutWord_L33 k1 p3 p4 x1 x3 x5) n x7 x8 M9 = some (M13) → W p l e (rmq 3 75) s m args below meth c H locs 0 0 (MQ below (Qv G Mr) args s 0 0 (adA G)) (F0 m 33 ls []) := by
    intro n
    induction n with
    | zero => intro x7 x8 M9 H locs ls hW hS hl hf; exact (l_z3 hf).elim
    | succ n ih =>
      intro x7 x8 M9 H locs ls hW hS hl hf
      have hf := l_s3 hf
      generalize lq3 (f_X0_cutWord_L33 k1 p3 p4 x1 x3 x5) n = K10 at ih hf
      unfold f_X0_cutWord_L33 at hf
      refine lv_iload hx hb dX0_cutWord_33 (lv_at hl 8 rfl) ?_
      refine lv_iload hx hb dX0_cutWord_35 (lv_at hl 4 rfl) ?_
      refine lv_icmp_gt (tgt := 108) hx hb dX0_cutWord_37 (by decide) (fun c15 => ?_) (fun c15 => ?_)
      · have hf := i_t hf c15
        exact main14 M9 _ _ ls hW hS (lv_sub hl [] rfl) hf
      · have hf := i_f hf c15
        refine lv_iload hx hb dX0_cutWord_40 (lv_at hl 7 rfl) ?_
        refine lv_aload_n hx hb dX0_cutWord_42 rfl (lv_at hl 1 rfl) ?_
        refine fg3_0 hB hW hk1 wd1_92 dX0_cutWord_43 ?_
        refine lv_lload hx hb dX0_cutWord_46 (lv_at hl 5 rfl) ?_
        refine lv_iload hx hb dX0_cutWord_48 (lv_at hl 8 rfl) ?_
        refine lv_iconst (v := (1 : Int32)) hx hb dX0_cutWord_50 (by decide) ?_
        refine lv_isub hx hb dX0_cutWord_51 ?_
        obtain ⟨x16, hg17, hf⟩ := b_o1 hf
        refine x_ci hB (x_rn hB hW hS (As := [.long x3, .int (x8 - (1 : Int32))]) (rest := [.ref (G.2.2.1 (k1 + 1)), .int x7]) (ct_X8_letterIn l G hg17) (cl_RX0_62 hB.nst hB.2.2.2.2.1 ⟨Nat.le_of_ble_eq_true rfl, Nat.le_of_ble_eq_true rfl⟩) rfl hl.1 rfl (Nat.le_of_ble_eq_true rfl) dX0_cutWord_52 ⟨Nat.le_refl _, Nat.le_refl _⟩) hS (fun H locs hW hS => ?_)
        obtain ⟨x18, hg19, hf⟩ := b_o1 hf
        refine x_ci hB (x_rn hB hW hS (As := [.ref (G.2.2.1 (k1 + 1)), .int x16]) (rest := [.int x7]) (ct_X8_at l G (rf3_0 hk1) hg19) (cl_RX0_66 hB.nst hB.2.2.2.2.1 ⟨Nat.le_of_ble_eq_true rfl, Nat.le_of_ble_eq_true rfl⟩) rfl hl.1 rfl (Nat.le_of_ble_eq_true rfl) dX0_cutWord_55 ⟨Nat.le_refl _, Nat.le_refl _⟩) hS (fun H locs hW hS => ?_)
        refine lv_iadd hx hb dX0_cutWord_58 ?_
        refine lv_topi (fun x20 ex20 => ?_)
        have hf := nm_o hf ex20
        refine lv_istore (lv' := [(9, .int x20), (0, .ref (G.2.2.1 128)), (1, .ref (G.2.2.1 k1)), (3, .int p3), (4, .int p4), (5, .int x1), (6, .long x3), (8, .int x5), (10, .int x8)]) hx hb dX0_cutWord_59 hl (by decide) rfl (fun ls hl => ?_)
        refine lv_iload hx hb dX0_cutWord_61 (lv_at hl 8 rfl) ?_
        refine lv_iload hx hb dX0_cutWord_63 (lv_at hl 5 rfl) ?_
        refine lv_icmp_ne (tgt := 80) hx hb dX0_cutWord_65 (by decide) (fun c21 => ?_) (fun c21 => ?_)
        · have hf := i_f hf c21
          refine lv_iload hx hb dX0_cutWord_80 (lv_at hl 7 rfl) ?_
          refine lv_iload hx hb dX0_cutWord_82 (lv_at hl 8 rfl) ?_
          refine lv_ishr hx hb dX0_cutWord_84 ?_
          refine lv_iconst (v := (1 : Int32)) hx hb dX0_cutWord_85 (by decide) ?_
          refine lv_iand hx hb dX0_cutWord_86 ?_
          refine lv_iconst (v := (1 : Int32)) hx hb dX0_cutWord_87 (by decide) ?_
          refine lv_icmp_ne (tgt := 102) hx hb dX0_cutWord_88 (by decide) (fun c22 => ?_) (fun c22 => ?_)
          · have hf := i_f hf c22
            obtain ⟨x23, ex23⟩ : ∃ y : Int32, y = x8 + (1 : Int32) := ⟨_, rfl⟩
            have hf := nm_o hf ex23
            refine lv_iinc (v := x23) (lv' := [(10, .int x23), (9, .int x20), (0, .ref (G.2.2.1 128)), (1, .ref (G.2.2.1 k1)), (3, .int p3), (4, .int p4), (5, .int x1), (6, .long x3), (8, .int x5)]) hx hb dX0_cutWord_102 hl (k := 8) rfl (by rw [ex23]; rfl) (by decide) rfl (fun ls hl => ?_)
            refine lv_goto (tgt := 33) hx hb dX0_cutWord_105 (by decide) ?_
            exact ih x20 x23 M9 _ _ ls hW hS (lv_sub hl [2, 3, 4, 5, 6, 7, 8, 1, 0] rfl) hf
          · have hf := i_t hf c22
            refine lv_aload_n hx hb dX0_cutWord_91 rfl (lv_at hl 1 rfl) ?_
            refine lv_iload hx hb dX0_cutWord_92 (lv_at hl 0 rfl) ?_
            refine lv_iload_n hx hb dX0_cutWord_94 rfl (lv_at hl 3 rfl) ?_
            refine lv_iconst (v := (1 : Int32)) hx hb dX0_cutWord_95 (by decide) ?_
            obtain ⟨M24, hg25, hf⟩ := b_o1 hf
            refine x_cv hB (x_rv hB hW hS (As := [.int x20, .int p3, .int (1 : Int32)]) (rest := []) (ct_X0_add l G hg25) (cl_RX0_70 hB.2.2.2.2.1 ⟨Nat.le_of_ble_eq_true rfl, Nat.le_of_ble_eq_true rfl⟩) tl128 (by decide) rfl rfl hl.1 rfl (Nat.le_of_ble_eq_true rfl) dX0_cutWord_96 ⟨Nat.le_refl _, Nat.le_refl _⟩) hS (fun H locs hW hS => ?_)
            refine lv_iconst (v := (0 : Int32)) hx hb dX0_cutWord_99 (by decide) ?_
            refine lv_istore (lv' := [(9, .int (0 : Int32)), (0, .ref (G.2.2.1 128)), (1, .ref (G.2.2.1 k1)), (3, .int p3), (4, .int p4), (5, .int x1), (6, .long x3), (8, .int x5), (10, .int x8)]) hx hb dX0_cutWord_100 hl (by decide) rfl (fun ls hl => ?_)
            obtain ⟨x26, ex26⟩ : ∃ y : Int32, y = x8 + (1 : Int32) := ⟨_, rfl⟩
            have hf := nm_o hf ex26
            refine lv_iinc (v := x26) (lv' := [(10, .int x26), (9, .int (0 : Int32)), (0, .ref (G.2.2.1 128)), (1, .ref (G.2.2.1 k1)), (3, .int p3), (4, .int p4), (5, .int x1), (6, .long x3), (8, .int x5)]) hx hb dX0_cutWord_102 hl (k := 8) rfl (by rw [ex26]; rfl) (by decide) rfl (fun ls hl => ?_)
            refine lv_goto (tgt := 33) hx hb dX0_cutWord_105 (by decide) ?_
            exact ih (0 : Int32) x26 M24 _ _ ls hW hS (lv_sub hl [2, 3, 4, 5, 6, 7, 8, 1, 0] rfl) hf
        · have hf := i_t hf c21
          refine lv_aload_n hx hb dX0_cutWord_68 rfl (lv_at hl 1 rfl) ?_
          refine lv_iload hx hb dX0_cutWord_69 (lv_at hl 0 rfl) ?_
          refine lv_iload_n hx hb dX0_cutWord_71 rfl (lv_at hl 3 rfl) ?_
          refine lv_iload hx hb dX0_cutWord_72 (lv_at hl 4 rfl) ?_
          obtain ⟨M27, hg28, hf⟩ := b_o1 hf
          refine x_cv hB (x_rv hB hW hS (As := [.int x20, .int p3, .int p4]) (rest := []) (ct_X0_add l G hg28) (cl_RX0_70 hB.2.2.2.2.1 ⟨Nat.le_of_ble_eq_true rfl, Nat.le_of_ble_eq_true rfl⟩) tl128 (by decide) rfl rfl hl.1 rfl (Nat.le_of_ble_eq_true rfl) dX0_cutWord_74 ⟨Nat.le_refl _, Nat.le_refl _⟩) hS (fun H locs hW hS => ?_)
          refine lv_goto (tgt := 102) hx hb dX0_cutWord_77 (by decide) ?_
          obtain ⟨x29, ex29⟩ : ∃ y : Int32, y = x8 + (1 : Int32) := ⟨_, rfl⟩
          have hf := nm_o hf ex29
          refine lv_iinc (v := x29) (lv' := [(10, .int x29), (9, .int x20), (0, .ref (G.2.2.1 128)), (1, .ref (G.2.2.1 k1)), (3, .int p3), (4, .int p4), (5, .int x1), (6, .long x3), (8, .int x5)]) hx hb dX0_cutWord_102 hl (k := 8) rfl (by rw [ex29]; rfl) (by decide) rfl (fun ls hl => ?_)
          refine lv_goto (tgt := 33) hx hb dX0_cutWord_105 (by decide) ?_
          exact ih x20 x29 M27 _ _ ls hW hS (lv_sub hl [2, 3, 4, 5, 6, 7, 8, 1, 0] rfl) hf
  exact loop11 FU (0 : Int32) (1 : Int32) M _ _ ls hW hS (lv_sub hl [5, 6, 8, 9, 4, 3, 2, 1, 0] rfl) hL
theorem cl_RX0_34 {R : Room} {s : State} {args : Array Value} (ht : ∀ w ∈ lw_all, w.before args s = true) (hR : 0 + 1 ≤ R.frames ∧ 8 + (4 + 11) + 0 ≤ R.locals) : CallB R s args RX0 34 yX0_lastLeft cX0_lastLeft 4 (some .int) (wsq yX0_lastLeft cX0_lastLeft 4 (some .int)) (rmq 0 0) 0 0 2 ∧ (Cond.static yX0_lastLeft).before args s = true := va_cwS 2 ht (goodS wd4_5 wd4_6 wd1_9 wd4_7) rfl rfl rfl (by decide +kernel) hR
theorem cl_RX0_38 {R : Room} {s : State} {args : Array Value} (ht : ∀ w ∈ lw_all, w.before args s = true) (hR : 2 + 1 ≤ R.frames ∧ 8 + (3 + 11) + 42 ≤ R.locals) : CallB R s args RX0 38 yX0_endOf cX0_endOf 3 (some .int) (wsq yX0_endOf cX0_endOf 3 (some .int)) (rmq 2 42) 0 0 3 ∧ (Cond.static yX0_endOf).before args s = true := va_cwS 3 ht (goodS wd4_8 wd4_9 wd1_9 wd4_10) rfl rfl rfl (by decide +kernel) hR
theorem cl_RX0_42 {R : Room} {s : State} {args : Array Value} (ht : ∀ w ∈ lw_all, w.before args s = true) (hR : 3 + 1 ≤ R.frames ∧ 8 + (11 + 11) + 75 ≤ R.locals) : CallW R s args RX0 RX0 42 yX0_cutWord cX0_cutWord 11 none (wsq yX0_cutWord cX0_cutWord 11 none) (rmq 3 75) 0 0 4 := cwV 4 ht (goodV wd4_12 wd4_14 wsel_20 wd1_9 wd4_15) rfl rfl rfl (by decide +kernel) hR
def f_X0_cut_L23 (k1 : Nat) (p2 : Int32) (x2 : Int32) (K7 : Int32 → Int32 → Mem → Option (Mem)) (x4 : Int32) (x5 : Int32) (M6 : Mem) : Option (Mem) := (if x2 < x5 then (some (M6)) else (if ((ishr_ p2 x5) &&& (1 : Int32)) = 0 then (bq1 (f_X0_endOf (k1 + 2) x5 x2 M6) (fun (x15 : Int32) => bq1 (f_X0_cutWord k1 x5 x4 x15 M6) (fun (M17 : Mem) => nmq (x4 + (1 : Int32)) (fun (x19 : Int32) => (nmq (x5 + (1 : Int32)) (fun (x20 : Int32) => (K7 x19 x20 M17))))))) else (nmq (x5 + (1 : Int32)) (fun (x14 : Int32) => (K7 x4 x14 M6)))))
def f_X0_cut (k1 : Nat) (p2 : Int32) (M : Mem) : Option Mem := (nmq (si M 128 3 (0 : Int32)) (fun (M1 : Mem) => bq1 (f_X0_lastLeft (gi M1 (k1 + 2) 3) p2) (fun (x2 : Int32) => (bq1 (lq3 (f_X0_cut_L23 k1 p2 x2) FU (0 : Int32) (0 : Int32) M1) (fun (M9 : Mem) => some M9)))))
set_option maxHeartbeats 4000000 in
set_option maxRecDepth 100000 in
theorem ct_X0_cut (l : Launch) (G : GG) {k1 : Nat} {p2 : Int32} {M : Mem} {Mr : Mem} (hk1 : isT 3 k1) (hf : f_X0_cut k1 p2 M = some Mr) : Met l yX0_cut (wsq yX0_cut cX0_cut 6 none) (rmq 4 105) (va_Pc [.ref (G.2.2.1 128), .ref (G.2.2.1 k1), .int p2] (World G M)) (Qv G Mr) 0 0 (adA G) := by
  refine x_start (plainFor_of_name (by decide)) (Nat.le_of_ble_eq_true rfl) ?_
  intro p e s m args below meth c hB hr hlk hW hS ls hl
  have hx := hB.x
  have hb := hB.b
  have hl : lv_has ls 6 [(0, .ref (G.2.2.1 128)), (1, .ref (G.2.2.1 k1)), (2, .int p2)] := hl
  unfold f_X0_cut at hf
  refine lv_aload_n hx hb dX0_cut_0 rfl (lv_at hl 0 rfl) ?_
  refine lv_iconst (v := (0 : Int32)) hx hb dX0_cut_1 (by decide) ?_
  refine fp0_3 hB hW hS tl128 wd1_224 dX0_cut_2 (fun H locs M1 eM1 hW hS => ?_)
  have hf := nm_o hf eM1
  refine lv_aload_n hx hb dX0_cut_5 rfl (lv_at hl 1 rfl) ?_
  refine fg3_1 hB hW hk1 wd1_94 dX0_cut_6 ?_
  refine fg7_3 hB hW (rf3_1 hk1) wd1_49 dX0_cut_9 ?_
  refine lv_iload_n hx hb dX0_cut_12 rfl (lv_at hl 2 rfl) ?_
  obtain ⟨x2, hg3, hf⟩ := b_o1 hf
  refine x_ci hB (x_rs hB hW hS (As := [.int (gi M1 (k1 + 2) 3), .int p2]) (rest := []) (ct_X0_lastLeft l G hg3) (cl_RX0_34 hB.2.2.2.2.1 ⟨Nat.le_of_ble_eq_true rfl, Nat.le_of_ble_eq_true rfl⟩) rfl hl.1 rfl (Nat.le_of_ble_eq_true rfl) dX0_cut_13 ⟨Nat.le_refl _, Nat.le_refl _⟩) hS (fun H locs hW hS => ?_)
  refine lv_istore_n (lv' := [(3, .int x2), (0, .ref (G.2.2.1 128)), (1, .ref (G.2.2.1 k1)), (2, .int p2)]) hx hb dX0_cut_16 rfl hl (by decide) rfl (fun ls hl => ?_)
  refine lv_iconst (v := (0 : Int32)) hx hb dX0_cut_17 (by decide) ?_
  refine lv_istore (lv' := [(4, .int (0 : Int32)), (3, .int x2), (0, .ref (G.2.2.1 128)), (1, .ref (G.2.2.1 k1)), (2, .int p2)]) hx hb dX0_cut_18 hl (by decide) rfl (fun ls hl => ?_)
  refine lv_iconst (v := (0 : Int32)) hx hb dX0_cut_20 (by decide) ?_
  refine lv_istore (lv' := [(5, .int (0 : Int32)), (4, .int (0 : Int32)), (3, .int x2), (0, .ref (G.2.2.1 128)), (1, .ref (G.2.2.1 k1)), (2, .int p2)]) hx hb dX0_cut_21 hl (by decide) rfl (fun ls hl => ?_)
  obtain ⟨M10, hL, hf⟩ := b_o1 hf
  have main11 : ∀ (M9 : Mem) (H : Heap) (locs : List Loc) (ls : Array Slot), Wd G M9 H → va_S (adA G) s.heap H locs → lv_has ls 6 [] → some (M9) = some (M10) → W p l e (rmq 4 105) s m args below meth c H locs 0 0 (MQ below (Qv G Mr) args s 0 0 (adA G)) (F0 m 66 ls []) := by
    intro M9 H locs ls hW hS hl hE
    cases hE
    exact e_v hB hW hS hr hlk (Option.some.inj hf) dX0_cut_66
  have loop8 : ∀ (n : Nat) (x4 : Int32) (x5 : Int32) (M6 : Mem) (H : Heap) (locs : List Loc) (ls : Array Slot), Wd G M6 H → va_S (adA G) s.heap H locs → lv_has ls 6 [(0, .ref (G.2.2.1 128)), (1, .ref (G.2.2.1 k1)), (2, .int p2), (3, .int x2), (4, .int x4), (5, .int x5)] → lq3 (f_X0_cut_L23 k1 p2 x2) n x4 x5 M6 = some (M10) → W p l e (rmq 4 105) s m args below meth c H locs 0 0 (MQ below (Qv G Mr) args s 0 0 (adA G)) (F0 m 23 ls []) := by
    intro n
    induction n with
    | zero => intro x4 x5 M6 H locs ls hW hS hl hf; exact (l_z3 hf).elim
    | succ n ih =>
      intro x4 x5 M6 H locs ls hW hS hl hf
      have hf := l_s3 hf
      generalize lq3 (f_X0_cut_L23 k1 p2 x2) n = K7 at ih hf
      unfold f_X0_cut_L23 at hf
      refine lv_iload hx hb dX0_cut_23 (lv_at hl 5 rfl) ?_
      refine lv_iload_n hx hb dX0_cut_25 rfl (lv_at hl 3 rfl) ?_
      refine lv_icmp_gt (tgt := 66) hx hb dX0_cut_26 (by decide) (fun c12 => ?_) (fun c12 => ?_)
      · have hf := i_t hf c12
        exact main11 M6 _ _ ls hW hS (lv_sub hl [] rfl) hf
      · have hf := i_f hf c12
        refine lv_iload_n hx hb dX0_cut_29 rfl (lv_at hl 2 rfl) ?_
        refine lv_iload hx hb dX0_cut_30 (lv_at hl 5 rfl) ?_
        refine lv_ishr hx hb dX0_cut_32 ?_
        refine lv_iconst (v := (1 : Int32)) hx hb dX0_cut_33 (by decide) ?_
        refine lv_iand hx hb dX0_cut_34 ?_
        refine lv_if_ne (tgt := 60) hx hb dX0_cut_35 (by decide) (fun c13 => ?_) (fun c13 => ?_)
        · have hf := i_f hf c13
          obtain ⟨x14, ex14⟩ : ∃ y : Int32, y = x5 + (1 : Int32) := ⟨_, rfl⟩
          have hf := nm_o hf ex14
          refine lv_iinc (v := x14) (lv' := [(5, .int x14), (0, .ref (G.2.2.1 128)), (1, .ref (G.2.2.1 k1)), (2, .int p2), (3, .int x2), (4, .int x4)]) hx hb dX0_cut_60 hl (k := 5) rfl (by rw [ex14]; rfl) (by decide) rfl (fun ls hl => ?_)
          refine lv_goto (tgt := 23) hx hb dX0_cut_63 (by decide) ?_
          exact ih x4 x14 M6 _ _ ls hW hS (lv_sub hl [1, 2, 3, 4, 5, 0] rfl) hf
        · have hf := i_t hf c13
          refine lv_aload_n hx hb dX0_cut_38 rfl (lv_at hl 0 rfl) ?_
          refine lv_aload_n hx hb dX0_cut_39 rfl (lv_at hl 1 rfl) ?_
          refine lv_iload hx hb dX0_cut_40 (lv_at hl 5 rfl) ?_
          refine lv_iload hx hb dX0_cut_42 (lv_at hl 4 rfl) ?_
          refine lv_aload_n hx hb dX0_cut_44 rfl (lv_at hl 1 rfl) ?_
          refine fg3_1 hB hW hk1 wd1_94 dX0_cut_45 ?_
          refine lv_iload hx hb dX0_cut_48 (lv_at hl 5 rfl) ?_
          refine lv_iload_n hx hb dX0_cut_50 rfl (lv_at hl 3 rfl) ?_
          obtain ⟨x15, hg16, hf⟩ := b_o1 hf
          refine x_ci hB (x_rs hB hW hS (As := [.ref (G.2.2.1 (k1 + 2)), .int x5, .int x2]) (rest := [.int x4, .int x5, .ref (G.2.2.1 k1), .ref (G.2.2.1 128)]) (ct_X0_endOf l G (rf3_1 hk1) hg16) (cl_RX0_38 hB.2.2.2.2.1 ⟨Nat.le_of_ble_eq_true rfl, Nat.le_of_ble_eq_true rfl⟩) rfl hl.1 rfl (Nat.le_of_ble_eq_true rfl) dX0_cut_51 ⟨Nat.le_refl _, Nat.le_refl _⟩) hS (fun H locs hW hS => ?_)
          obtain ⟨M17, hg18, hf⟩ := b_o1 hf
          refine x_cv hB (x_rv hB hW hS (As := [.ref (G.2.2.1 k1), .int x5, .int x4, .int x15]) (rest := []) (ct_X0_cutWord l G hk1 hg18) (cl_RX0_42 hB.2.2.2.2.1 ⟨Nat.le_of_ble_eq_true rfl, Nat.le_of_ble_eq_true rfl⟩) tl128 (by decide) rfl rfl hl.1 rfl (Nat.le_of_ble_eq_true rfl) dX0_cut_54 ⟨Nat.le_refl _, Nat.le_refl _⟩) hS (fun H locs hW hS => ?_)
          obtain ⟨x19, ex19⟩ : ∃ y : Int32, y = x4 + (1 : Int32) := ⟨_, rfl⟩
          have hf := nm_o hf ex19
          refine lv_iinc (v := x19) (lv' := [(4, .int x19), (0, .ref (G.2.2.1 128)), (1, .ref (G.2.2.1 k1)), (2, .int p2), (3, .int x2), (5, .int x5)]) hx hb dX0_cut_57 hl (k := 4) rfl (by rw [ex19]; rfl) (by decide) rfl (fun ls hl => ?_)
          obtain ⟨x20, ex20⟩ : ∃ y : Int32, y = x5 + (1 : Int32) := ⟨_, rfl⟩
          have hf := nm_o hf ex20
          refine lv_iinc (v := x20) (lv' := [(5, .int x20), (4, .int x19), (0, .ref (G.2.2.1 128)), (1, .ref (G.2.2.1 k1)), (2, .int p2), (3, .int x2)]) hx hb dX0_cut_60 hl (k := 5) rfl (by rw [ex20]; rfl) (by decide) rfl (fun ls hl => ?_)
          refine lv_goto (tgt := 23) hx hb dX0_cut_63 (by decide) ?_
          exact ih x19 x20 M17 _ _ ls hW hS (lv_sub hl [2, 3, 4, 5, 1, 0] rfl) hf
  exact loop8 FU (0 : Int32) (0 : Int32) M1 _ _ ls hW hS (lv_sub hl [3, 4, 5, 2, 1, 0] rfl) hL
def f_X3_stretchOfGlue (k0 : Nat) (M : Mem) : Option Int32 := (if (gi M k0 11) = (5 : Int32) then some ((2 : Int32) * ((gi M k0 5) + (gi M k0 12))) else (jq (fun (_ : Unit) => some ((gi M k0 5) + (gi M k0 12))) (fun (K3 : Unit → Option Int32) => (if (gi M k0 11) = (1 : Int32) then (K3 ()) else (if (gi M k0 11) = (3 : Int32) then (K3 ()) else some (gi M k0 5))))))
set_option maxHeartbeats 4000000 in
set_option maxRecDepth 100000 in
theorem ct_X3_stretchOfGlue (l : Launch) (G : GG) {k0 : Nat} {M : Mem} {r : Int32} (hk0 : isT 3 k0) (hf : f_X3_stretchOfGlue k0 M = some r) : Met l yX3_stretchOfGlue (wsq yX3_stretchOfGlue cX3_stretchOfGlue 1 (some .int)) (rmq 0 0) (va_Pc [.ref (G.2.2.1 k0)] (World G M)) (Qi G r M) 0 0 (adA G) := by
  refine x_start (plainFor_of_name (by decide)) (Nat.le_of_ble_eq_true rfl) ?_
  intro p e s m args below meth c hB hr hlk hW hS ls hl
  have hx := hB.x
  have hb := hB.b
  have hl : lv_has ls 1 [(0, .ref (G.2.2.1 k0))] := hl
  unfold f_X3_stretchOfGlue at hf
  refine lv_aload_n hx hb dX3_stretchOfGlue_0 rfl (lv_at hl 0 rfl) ?_
  refine fg3_11 hB hW hk0 wd1_126 dX3_stretchOfGlue_1 ?_
  refine lv_iconst (v := (5 : Int32)) hx hb dX3_stretchOfGlue_4 (by decide) ?_
  refine lv_icmp_ne (tgt := 20) hx hb dX3_stretchOfGlue_5 (by decide) (fun c1 => ?_) (fun c1 => ?_)
  · have hf := i_f hf c1
    refine lv_aload_n hx hb dX3_stretchOfGlue_20 rfl (lv_at hl 0 rfl) ?_
    refine fg3_11 hB hW hk0 wd1_126 dX3_stretchOfGlue_21 ?_
    refine lv_iconst (v := (1 : Int32)) hx hb dX3_stretchOfGlue_24 (by decide) ?_
    obtain ⟨K3, eK3, hf⟩ := j_o hf
    have main2 : ∀ (_ : Unit) (H : Heap) (locs : List Loc) (ls : Array Slot), Wd G M H → va_S (adA G) s.heap H locs → lv_has ls 1 [(0, .ref (G.2.2.1 k0))] → K3 () = some r → W p l e (rmq 0 0) s m args below meth c H locs 0 0 (MQ below (Qi G r M) args s 0 0 (adA G)) (F0 m 36 ls []) := by
      intro _ H locs ls hW hS hl hf
      subst eK3
      refine lv_aload_n hx hb dX3_stretchOfGlue_36 rfl (lv_at hl 0 rfl) ?_
      refine fg3_5 hB hW hk0 wd1_107 dX3_stretchOfGlue_37 ?_
      refine lv_aload_n hx hb dX3_stretchOfGlue_40 rfl (lv_at hl 0 rfl) ?_
      refine fg3_12 hB hW hk0 wd1_129 dX3_stretchOfGlue_41 ?_
      refine lv_iadd hx hb dX3_stretchOfGlue_44 ?_
      refine lv_goto (tgt := 52) hx hb dX3_stretchOfGlue_45 (by decide) ?_
      exact e_i hB hW hS hr hlk (Option.some.inj hf) rfl dX3_stretchOfGlue_52
    refine lv_icmp_eq (tgt := 36) hx hb dX3_stretchOfGlue_25 (by decide) (fun c4 => ?_) (fun c4 => ?_)
    · have hf := i_t hf c4
      exact main2 () _ _ ls hW hS (lv_sub hl [0] rfl) hf
    · have hf := i_f hf c4
      refine lv_aload_n hx hb dX3_stretchOfGlue_28 rfl (lv_at hl 0 rfl) ?_
      refine fg3_11 hB hW hk0 wd1_126 dX3_stretchOfGlue_29 ?_
      refine lv_iconst (v := (3 : Int32)) hx hb dX3_stretchOfGlue_32 (by decide) ?_
      refine lv_icmp_ne (tgt := 48) hx hb dX3_stretchOfGlue_33 (by decide) (fun c5 => ?_) (fun c5 => ?_)
      · have hf := i_f hf c5
        refine lv_aload_n hx hb dX3_stretchOfGlue_48 rfl (lv_at hl 0 rfl) ?_
        refine fg3_5 hB hW hk0 wd1_107 dX3_stretchOfGlue_49 ?_
        exact e_i hB hW hS hr hlk (Option.some.inj hf) rfl dX3_stretchOfGlue_52
      · have hf := i_t hf c5
        exact main2 () _ _ ls hW hS (lv_sub hl [0] rfl) hf
  · have hf := i_t hf c1
    refine lv_iconst (v := (2 : Int32)) hx hb dX3_stretchOfGlue_8 (by decide) ?_
    refine lv_aload_n hx hb dX3_stretchOfGlue_9 rfl (lv_at hl 0 rfl) ?_
    refine fg3_5 hB hW hk0 wd1_107 dX3_stretchOfGlue_10 ?_
    refine lv_aload_n hx hb dX3_stretchOfGlue_13 rfl (lv_at hl 0 rfl) ?_
    refine fg3_12 hB hW hk0 wd1_129 dX3_stretchOfGlue_14 ?_
    refine lv_iadd hx hb dX3_stretchOfGlue_17 ?_
    refine lv_imul hx hb dX3_stretchOfGlue_18 ?_
    exact e_i hB hW hS hr hlk (Option.some.inj hf) rfl dX3_stretchOfGlue_19
def f_X3_isTight (k0 : Nat) (M : Mem) : Option Int32 := (if (gi M k0 11) = (2 : Int32) then some (1 : Int32) else (if (gi M k0 11) = (4 : Int32) then some (1 : Int32) else some (0 : Int32)))
set_option maxHeartbeats 4000000 in
set_option maxRecDepth 100000 in
theorem ct_X3_isTight (l : Launch) (G : GG) {k0 : Nat} {M : Mem} {r : Int32} (hk0 : isT 3 k0) (hf : f_X3_isTight k0 M = some r) : Met l yX3_isTight (wsq yX3_isTight cX3_isTight 1 (some .boolean)) (rmq 0 0) (va_Pc [.ref (G.2.2.1 k0)] (World G M)) (Qi G r M) 0 0 (adA G) := by
  refine x_start (plainFor_of_name (by decide)) (Nat.le_of_ble_eq_true rfl) ?_
  intro p e s m args below meth c hB hr hlk hW hS ls hl
  have hx := hB.x
  have hb := hB.b
  have hl : lv_has ls 1 [(0, .ref (G.2.2.1 k0))] := hl
  unfold f_X3_isTight at hf
  refine lv_aload_n hx hb dX3_isTight_0 rfl (lv_at hl 0 rfl) ?_
  refine fg3_11 hB hW hk0 wd1_126 dX3_isTight_1 ?_
  refine lv_iconst (v := (2 : Int32)) hx hb dX3_isTight_4 (by decide) ?_
  refine lv_icmp_eq (tgt := 16) hx hb dX3_isTight_5 (by decide) (fun c1 => ?_) (fun c1 => ?_)
  · have hf := i_t hf c1
    refine lv_iconst (v := (1 : Int32)) hx hb dX3_isTight_16 (by decide) ?_
    refine lv_goto (tgt := 21) hx hb dX3_isTight_17 (by decide) ?_
    exact e_z (by decide) hB hW hS hr hlk (Option.some.inj hf) rfl dX3_isTight_21
  · have hf := i_f hf c1
    refine lv_aload_n hx hb dX3_isTight_8 rfl (lv_at hl 0 rfl) ?_
    refine fg3_11 hB hW hk0 wd1_126 dX3_isTight_9 ?_
    refine lv_iconst (v := (4 : Int32)) hx hb dX3_isTight_12 (by decide) ?_
    refine lv_icmp_ne (tgt := 20) hx hb dX3_isTight_13 (by decide) (fun c2 => ?_) (fun c2 => ?_)
    · have hf := i_f hf c2
      refine lv_iconst (v := (0 : Int32)) hx hb dX3_isTight_20 (by decide) ?_
      exact e_z (by decide) hB hW hS hr hlk (Option.some.inj hf) rfl dX3_isTight_21
    · have hf := i_t hf c2
      refine lv_iconst (v := (1 : Int32)) hx hb dX3_isTight_16 (by decide) ?_
      refine lv_goto (tgt := 21) hx hb dX3_isTight_17 (by decide) ?_
      exact e_z (by decide) hB hW hS hr hlk (Option.some.inj hf) rfl dX3_isTight_21
theorem cl_RX3_106 {R : Room} {s : State} {args : Array Value} (ht : ∀ w ∈ lw_all, w.before args s = true) (hR : 0 + 1 ≤ R.frames ∧ 8 + (1 + 11) + 0 ≤ R.locals) : CallW R s args RX3 RX3 106 yX3_isTight cX3_isTight 1 (some .boolean) (wsq yX3_isTight cX3_isTight 1 (some .boolean)) (rmq 0 0) 0 0 0 := cwV 0 ht (goodV wd4_42 wd4_44 wsel_22 wd1_2 wd4_45) rfl rfl rfl (by decide +kernel) hR
theorem cl_RX3_110 {R : Room} {s : State} {args : Array Value} (ht : ∀ w ∈ lw_all, w.before args s = true) (hR : 0 + 1 ≤ R.frames ∧ 8 + (2 + 11) + 0 ≤ R.locals) : CallB R s args RX3 110 yJ9_min_7cf53 cJ9_min_7cf53 2 (some .int) (wsq yJ9_min_7cf53 cJ9_min_7cf53 2 (some .int)) (rmq 0 0) 0 0 2 ∧ (Cond.static yJ9_min_7cf53).before args s = true := va_cwS 2 ht (goodS wd4_46 wd2_192 wd1_11 wd2_193) rfl rfl rfl (by decide +kernel) hR
def f_X3_shrinkOfGlue (k0 : Nat) (M : Mem) : Option Int32 := (bq1 (f_X3_isTight k0 M) (fun (x1 : Int32) => (if x1 = 0 then some (gi M k0 6) else (bq1 (f_J9_min_7cf53 ((gi M k0 6) + (1 : Int32)) (gi M k0 4)) (fun (x4 : Int32) => some x4)))))
set_option maxHeartbeats 4000000 in
set_option maxRecDepth 100000 in
theorem ct_X3_shrinkOfGlue (l : Launch) (G : GG) {k0 : Nat} {M : Mem} {r : Int32} (hk0 : isT 3 k0) (hf : f_X3_shrinkOfGlue k0 M = some r) : Met l yX3_shrinkOfGlue (wsq yX3_shrinkOfGlue cX3_shrinkOfGlue 1 (some .int)) (rmq 1 21) (va_Pc [.ref (G.2.2.1 k0)] (World G M)) (Qi G r M) 0 0 (adA G) := by
  refine x_start (plainFor_of_name (by decide)) (Nat.le_of_ble_eq_true rfl) ?_
  intro p e s m args below meth c hB hr hlk hW hS ls hl
  have hx := hB.x
  have hb := hB.b
  have hl : lv_has ls 1 [(0, .ref (G.2.2.1 k0))] := hl
  unfold f_X3_shrinkOfGlue at hf
  refine lv_aload_n hx hb dX3_shrinkOfGlue_0 rfl (lv_at hl 0 rfl) ?_
  obtain ⟨x1, hg2, hf⟩ := b_o1 hf
  refine x_ci hB (x_rv hB hW hS (As := []) (rest := []) (ct_X3_isTight l G hk0 hg2) (cl_RX3_106 hB.2.2.2.2.1 ⟨Nat.le_of_ble_eq_true rfl, Nat.le_of_ble_eq_true rfl⟩) hk0 (by decide) rfl rfl hl.1 rfl (Nat.le_of_ble_eq_true rfl) dX3_shrinkOfGlue_1 ⟨Nat.le_refl _, Nat.le_refl _⟩) hS (fun H locs hW hS => ?_)
  refine lv_if_eq (tgt := 23) hx hb dX3_shrinkOfGlue_4 (by decide) (fun c3 => ?_) (fun c3 => ?_)
  · have hf := i_t hf c3
    refine lv_aload_n hx hb dX3_shrinkOfGlue_23 rfl (lv_at hl 0 rfl) ?_
    refine fg3_6 hB hW hk0 wd1_109 dX3_shrinkOfGlue_24 ?_
    exact e_i hB hW hS hr hlk (Option.some.inj hf) rfl dX3_shrinkOfGlue_27
  · have hf := i_f hf c3
    refine lv_aload_n hx hb dX3_shrinkOfGlue_7 rfl (lv_at hl 0 rfl) ?_
    refine fg3_6 hB hW hk0 wd1_109 dX3_shrinkOfGlue_8 ?_
    refine lv_iconst (v := (1 : Int32)) hx hb dX3_shrinkOfGlue_11 (by decide) ?_
    refine lv_iadd hx hb dX3_shrinkOfGlue_12 ?_
    refine lv_aload_n hx hb dX3_shrinkOfGlue_13 rfl (lv_at hl 0 rfl) ?_
    refine fg3_4 hB hW hk0 wd1_104 dX3_shrinkOfGlue_14 ?_
    obtain ⟨x4, hg5, hf⟩ := b_o1 hf
    refine x_ci hB (x_rs hB hW hS (As := [.int ((gi M k0 6) + (1 : Int32)), .int (gi M k0 4)]) (rest := []) (ct_J9_min_7cf53 l G hg5) (cl_RX3_110 hB.2.2.2.2.1 ⟨Nat.le_of_ble_eq_true rfl, Nat.le_of_ble_eq_true rfl⟩) rfl hl.1 rfl (Nat.le_of_ble_eq_true rfl) dX3_shrinkOfGlue_17 ⟨Nat.le_refl _, Nat.le_refl _⟩) hS (fun H locs hW hS => ?_)
    refine lv_goto (tgt := 27) hx hb dX3_shrinkOfGlue_20 (by decide) ?_
    exact e_i hB hW hS hr hlk (Option.some.inj hf) rfl dX3_shrinkOfGlue_27
