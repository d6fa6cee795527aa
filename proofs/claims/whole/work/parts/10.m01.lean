def f_X8_at (k1 : Nat) (p2 : Int32) (M : Mem) : Option Int32 := (if p2 < 0 then some (0 : Int32) else (if (Int32.ofNat (alen k1)) ≤ p2 then some (0 : Int32) else (gq (inB p2 (alen k1)) (some (gi M k1 ((p2 : Int32).toNatClampNeg))))))
set_option maxHeartbeats 4000000 in
set_option maxRecDepth 100000 in
theorem ct_X8_at (l : Launch) (G : GG) {k1 : Nat} {p2 : Int32} {M : Mem} {r : Int32} (hk1 : isT 10 k1) (hf : f_X8_at k1 p2 M = some r) : Met l yX8_at (wsq yX8_at cX8_at 2 (some .int)) (rmq 0 0) (va_Pc [.ref (G.2.2.1 k1), .int p2] (World G M)) (Qi G r M) 0 0 (adA G) := by
  refine x_start (plainFor_of_name (by decide)) (Nat.le_of_ble_eq_true rfl) ?_
  intro p e s m args below meth c hB hr hlk hW hS ls hl
  have hx := hB.x
  have hb := hB.b
  have hl : lv_has ls 2 [(0, .ref (G.2.2.1 k1)), (1, .int p2)] := hl
  unfold f_X8_at at hf
  refine lv_iload_n hx hb dX8_at_0 rfl (lv_at hl 1 rfl) ?_
  refine lv_if_lt (tgt := 16) hx hb dX8_at_1 (by decide) (fun c1 => ?_) (fun c1 => ?_)
  · have hf := i_t hf c1
    refine lv_iconst (v := (0 : Int32)) hx hb dX8_at_16 (by decide) ?_
    exact e_i hB hW hS hr hlk (Option.some.inj hf) rfl dX8_at_17
  · have hf := i_f hf c1
    refine lv_iload_n hx hb dX8_at_4 rfl (lv_at hl 1 rfl) ?_
    refine lv_aload_n hx hb dX8_at_5 rfl (lv_at hl 0 rfl) ?_
    refine x_alen hB hW hk1 (by decide) rfl (v := (Int32.ofNat (alen k1))) rfl dX8_at_6 ?_
    refine lv_icmp_ge (tgt := 16) hx hb dX8_at_7 (by decide) (fun c2 => ?_) (fun c2 => ?_)
    · have hf := i_t hf c2
      refine lv_iconst (v := (0 : Int32)) hx hb dX8_at_16 (by decide) ?_
      exact e_i hB hW hS hr hlk (Option.some.inj hf) rfl dX8_at_17
    · have hf := i_f hf c2
      refine lv_aload_n hx hb dX8_at_10 rfl (lv_at hl 0 rfl) ?_
      refine lv_iload_n hx hb dX8_at_11 rfl (lv_at hl 1 rfl) ?_
      obtain ⟨h3, hf⟩ := g_o hf
      refine x_iald hB hW hk1 rfl h3 dX8_at_12 ?_
      refine lv_goto (tgt := 17) hx hb dX8_at_13 (by decide) ?_
      exact e_i hB hW hS hr hlk (Option.some.inj hf) rfl dX8_at_17
def f_X8_put (k1 : Nat) (p2 : Int32) (p3 : Int32) (M : Mem) : Option Mem := (if p2 < 0 then some M else (if (Int32.ofNat (alen k1)) ≤ p2 then some M else (gq (inB p2 (alen k1)) (nmq (si M k1 ((p2 : Int32).toNatClampNeg) p3) (fun (M4 : Mem) => some M4)))))
set_option maxHeartbeats 4000000 in
set_option maxRecDepth 100000 in
theorem ct_X8_put (l : Launch) (G : GG) {k1 : Nat} {p2 : Int32} {p3 : Int32} {M : Mem} {Mr : Mem} (hk1 : isT 10 k1) (hf : f_X8_put k1 p2 p3 M = some Mr) : Met l yX8_put (wsq yX8_put cX8_put 3 none) (rmq 0 0) (va_Pc [.ref (G.2.2.1 k1), .int p2, .int p3] (World G M)) (Qv G Mr) 0 0 (adA G) := by
  refine x_start (plainFor_of_name (by decide)) (Nat.le_of_ble_eq_true rfl) ?_
  intro p e s m args below meth c hB hr hlk hW hS ls hl
  have hx := hB.x
  have hb := hB.b
  have hl : lv_has ls 3 [(0, .ref (G.2.2.1 k1)), (1, .int p2), (2, .int p3)] := hl
  unfold f_X8_put at hf
  refine lv_iload_n hx hb dX8_put_0 rfl (lv_at hl 1 rfl) ?_
  refine lv_if_lt (tgt := 14) hx hb dX8_put_1 (by decide) (fun c1 => ?_) (fun c1 => ?_)
  · have hf := i_t hf c1
    exact e_v hB hW hS hr hlk (Option.some.inj hf) dX8_put_14
  · have hf := i_f hf c1
    refine lv_iload_n hx hb dX8_put_4 rfl (lv_at hl 1 rfl) ?_
    refine lv_aload_n hx hb dX8_put_5 rfl (lv_at hl 0 rfl) ?_
    refine x_alen hB hW hk1 (by decide) rfl (v := (Int32.ofNat (alen k1))) rfl dX8_put_6 ?_
    refine lv_icmp_ge (tgt := 14) hx hb dX8_put_7 (by decide) (fun c2 => ?_) (fun c2 => ?_)
    · have hf := i_t hf c2
      exact e_v hB hW hS hr hlk (Option.some.inj hf) dX8_put_14
    · have hf := i_f hf c2
      refine lv_aload_n hx hb dX8_put_10 rfl (lv_at hl 0 rfl) ?_
      refine lv_iload_n hx hb dX8_put_11 rfl (lv_at hl 1 rfl) ?_
      refine lv_iload_n hx hb dX8_put_12 rfl (lv_at hl 2 rfl) ?_
      obtain ⟨h3, hf⟩ := g_o hf
      refine x_i hB hW hS hk1 rfl h3 dX8_put_13 (fun H locs M4 eM4 hW hS => ?_)
      have hf := nm_o hf eM4
      exact e_v hB hW hS hr hlk (Option.some.inj hf) dX8_put_14
theorem cl_RX8_95 {R : Room} {s : State} {args : Array Value} (ht : ∀ w ∈ lw_all, w.before args s = true) (hR : 0 + 1 ≤ R.frames ∧ 8 + (2 + 11) + 0 ≤ R.locals) : CallB R s args RX8 95 yX8_at cX8_at 2 (some .int) (wsq yX8_at cX8_at 2 (some .int)) (rmq 0 0) 0 0 2 ∧ (Cond.static yX8_at).before args s = true := va_cwS 2 ht (goodS wd2_133 wd2_134 wd1_1 wd2_135) rfl rfl rfl (by decide +kernel) hR
theorem cl_RX8_99 {R : Room} {s : State} {args : Array Value} (ht : ∀ w ∈ lw_all, w.before args s = true) (hR : 0 + 1 ≤ R.frames ∧ 8 + (3 + 11) + 0 ≤ R.locals) : CallB R s args RX8 99 yX8_put cX8_put 3 none (wsq yX8_put cX8_put 3 none) (rmq 0 0) 0 0 3 ∧ (Cond.static yX8_put).before args s = true := va_cwS 3 ht (goodS wd2_136 wd2_137 wd1_1 wd2_138) rfl rfl rfl (by decide +kernel) hR
def f_X8_refuse (p1 : Int32) (M : Mem) : Option (Int32 × Mem) := (bq1 (f_X8_at 138 (-p1) M) (fun (x1 : Int32) => bq1 (f_X8_put 138 (-p1) (x1 + (1 : Int32)) M) (fun (M3 : Mem) => some (p1, M3))))
set_option maxHeartbeats 4000000 in
set_option maxRecDepth 100000 in
theorem ct_X8_refuse (l : Launch) (G : GG) {p1 : Int32} {M : Mem} {r : Int32} {Mr : Mem}  (hf : f_X8_refuse p1 M = some (r, Mr)) : Met l yX8_refuse (wsq yX8_refuse cX8_refuse 2 (some .int)) (rmq 1 22) (va_Pc [.ref (G.2.2.1 0), .int p1] (World G M)) (Qi G r Mr) 0 0 (adA G) := by
  refine x_start (plainFor_of_name (by decide)) (Nat.le_of_ble_eq_true rfl) ?_
  intro p e s m args below meth c hB hr hlk hW hS ls hl
  have hx := hB.x
  have hb := hB.b
  have hl : lv_has ls 2 [(0, .ref (G.2.2.1 0)), (1, .int p1)] := hl
  unfold f_X8_refuse at hf
  refine lv_aload_n hx hb dX8_refuse_0 rfl (lv_at hl 0 rfl) ?_
  refine fg8_7 hB hW tl0 wd2_98 dX8_refuse_1 ?_
  refine lv_iload_n hx hb dX8_refuse_4 rfl (lv_at hl 1 rfl) ?_
  refine lv_ineg hx hb dX8_refuse_5 ?_
  refine lv_aload_n hx hb dX8_refuse_6 rfl (lv_at hl 0 rfl) ?_
  refine fg8_7 hB hW tl0 wd2_98 dX8_refuse_7 ?_
  refine lv_iload_n hx hb dX8_refuse_10 rfl (lv_at hl 1 rfl) ?_
  refine lv_ineg hx hb dX8_refuse_11 ?_
  obtain ⟨x1, hg2, hf⟩ := b_o1 hf
  refine x_ci hB (x_rs hB hW hS (As := [.ref (G.2.2.1 138), .int (-p1)]) (rest := [.int (-p1), .ref (G.2.2.1 138)]) (ct_X8_at l G tl138 hg2) (cl_RX8_95 hB.2.2.2.2.1 ⟨Nat.le_of_ble_eq_true rfl, Nat.le_of_ble_eq_true rfl⟩) rfl hl.1 rfl (Nat.le_of_ble_eq_true rfl) dX8_refuse_12 ⟨Nat.le_refl _, Nat.le_refl _⟩) hS (fun H locs hW hS => ?_)
  refine lv_iconst (v := (1 : Int32)) hx hb dX8_refuse_15 (by decide) ?_
  refine lv_iadd hx hb dX8_refuse_16 ?_
  obtain ⟨M3, hg4, hf⟩ := b_o1 hf
  refine x_cv hB (x_rs hB hW hS (As := [.ref (G.2.2.1 138), .int (-p1), .int (x1 + (1 : Int32))]) (rest := []) (ct_X8_put l G tl138 hg4) (cl_RX8_99 hB.2.2.2.2.1 ⟨Nat.le_of_ble_eq_true rfl, Nat.le_of_ble_eq_true rfl⟩) rfl hl.1 rfl (Nat.le_of_ble_eq_true rfl) dX8_refuse_17 ⟨Nat.le_refl _, Nat.le_refl _⟩) hS (fun H locs hW hS => ?_)
  refine lv_iload_n hx hb dX8_refuse_20 rfl (lv_at hl 1 rfl) ?_
  exact e_i hB hW hS hr hlk (s_1 hf) (s_2 hf) dX8_refuse_21
def f_X5_isFull (M : Mem) : Option Int32 := (if (gi M 124 1) < (96 : Int32) then some (0 : Int32) else some (1 : Int32))
set_option maxHeartbeats 4000000 in
set_option maxRecDepth 100000 in
theorem ct_X5_isFull (l : Launch) (G : GG)  {M : Mem} {r : Int32}  (hf : f_X5_isFull M = some r) : Met l yX5_isFull (wsq yX5_isFull cX5_isFull 1 (some .boolean)) (rmq 0 0) (va_Pc [.ref (G.2.2.1 124)] (World G M)) (Qi G r M) 0 0 (adA G) := by
  refine x_start (plainFor_of_name (by decide)) (Nat.le_of_ble_eq_true rfl) ?_
  intro p e s m args below meth c hB hr hlk hW hS ls hl
  have hx := hB.x
  have hb := hB.b
  have hl : lv_has ls 1 [(0, .ref (G.2.2.1 124))] := hl
  unfold f_X5_isFull at hf
  refine lv_aload_n hx hb dX5_isFull_0 rfl (lv_at hl 0 rfl) ?_
  refine fg5_1 hB hW tl124 wd1_186 dX5_isFull_1 ?_
  refine lv_bipush (v := (96 : Int32)) hx hb dX5_isFull_4 (by decide) ?_
  refine lv_icmp_lt (tgt := 13) hx hb dX5_isFull_6 (by decide) (fun c1 => ?_) (fun c1 => ?_)
  · have hf := i_t hf c1
    refine lv_iconst (v := (0 : Int32)) hx hb dX5_isFull_13 (by decide) ?_
    exact e_z (by decide) hB hW hS hr hlk (Option.some.inj hf) rfl dX5_isFull_14
  · have hf := i_f hf c1
    refine lv_iconst (v := (1 : Int32)) hx hb dX5_isFull_9 (by decide) ?_
    refine lv_goto (tgt := 14) hx hb dX5_isFull_10 (by decide) ?_
    exact e_z (by decide) hB hW hS hr hlk (Option.some.inj hf) rfl dX5_isFull_14
theorem cl_RX5_19 {R : Room} {s : State} {args : Array Value} (hN : Nst s) (ht : ∀ w ∈ lw_all, w.before args s = true) (hR : 0 + 1 ≤ R.frames ∧ 8 + (3 + 11) + 0 ≤ R.locals) : va_CN R s args RX5 19 yX8_put "LinesOfFragments" cX8_put 3 none (wsq yX8_put cX8_put 3 none) (rmq 0 0) 0 0 3 ∧ (Cond.static yX8_put).before args s = true ∧ True := ⟨va_cnB 3 ht (goodC wd2_138) rfl rfl rfl (hN _ (List.mem_of_getElem? (l := nestL) (i := 0) rfl)) (ht _ wd1_1) (by decide +kernel) hR, ht _ wd2_137, trivial⟩
def f_X5_take (p1 : Int32) (M : Mem) : Option (Int32 × Mem) := (bq1 (f_X8_put 125 (gi M 124 1) p1 M) (fun (M1 : Mem) => nmq (si M1 124 1 ((gi M1 124 1) + (1 : Int32))) (fun (M3 : Mem) => some ((gi M3 124 1), M3))))
set_option maxHeartbeats 4000000 in
set_option maxRecDepth 100000 in
theorem ct_X5_take (l : Launch) (G : GG) {p1 : Int32} {M : Mem} {r : Int32} {Mr : Mem}  (hf : f_X5_take p1 M = some (r, Mr)) : Met l yX5_take (wsq yX5_take cX5_take 2 (some .int)) (rmq 1 22) (va_Pc [.ref (G.2.2.1 124), .int p1] (World G M)) (Qi G r Mr) 0 0 (adA G) := by
  refine x_start (plainFor_of_name (by decide)) (Nat.le_of_ble_eq_true rfl) ?_
  intro p e s m args below meth c hB hr hlk hW hS ls hl
  have hx := hB.x
  have hb := hB.b
  have hl : lv_has ls 2 [(0, .ref (G.2.2.1 124)), (1, .int p1)] := hl
  unfold f_X5_take at hf
  refine lv_aload_n hx hb dX5_take_0 rfl (lv_at hl 0 rfl) ?_
  refine fg5_0 hB hW tl124 wd1_185 dX5_take_1 ?_
  refine lv_aload_n hx hb dX5_take_4 rfl (lv_at hl 0 rfl) ?_
  refine fg5_1 hB hW tl124 wd1_186 dX5_take_5 ?_
  refine lv_iload_n hx hb dX5_take_8 rfl (lv_at hl 1 rfl) ?_
  obtain ⟨M1, hg2, hf⟩ := b_o1 hf
  refine x_cv hB (x_rn hB hW hS (As := [.ref (G.2.2.1 125), .int (gi M 124 1), .int p1]) (rest := []) (ct_X8_put l G tl125 hg2) (cl_RX5_19 hB.nst hB.2.2.2.2.1 ⟨Nat.le_of_ble_eq_true rfl, Nat.le_of_ble_eq_true rfl⟩) rfl hl.1 rfl (Nat.le_of_ble_eq_true rfl) dX5_take_9 ⟨Nat.le_refl _, Nat.le_refl _⟩) hS (fun H locs hW hS => ?_)
  refine lv_aload_n hx hb dX5_take_12 rfl (lv_at hl 0 rfl) ?_
  refine lv_dup hx hb dX5_take_13 rfl ?_
  refine fg5_1 hB hW tl124 wd1_186 dX5_take_14 ?_
  refine lv_iconst (v := (1 : Int32)) hx hb dX5_take_17 (by decide) ?_
  refine lv_iadd hx hb dX5_take_18 ?_
  refine fp5_1 hB hW hS tl124 wd1_186 dX5_take_19 (fun H locs M3 eM3 hW hS => ?_)
  have hf := nm_o hf eM3
  refine lv_aload_n hx hb dX5_take_22 rfl (lv_at hl 0 rfl) ?_
  refine fg5_1 hB hW tl124 wd1_186 dX5_take_23 ?_
  exact e_i hB hW hS hr hlk (s_1 hf) (s_2 hf) dX5_take_26
theorem cl_RX8_50 {R : Room} {s : State} {args : Array Value} (ht : ∀ w ∈ lw_all, w.before args s = true) (hR : 1 + 1 ≤ R.frames ∧ 8 + (2 + 11) + 22 ≤ R.locals) : CallW R s args RX8 RX8 50 yX8_refuse cX8_refuse 2 (some .int) (wsq yX8_refuse cX8_refuse 2 (some .int)) (rmq 1 22) 0 0 1 := cwV 1 ht (goodV wd2_129 wd2_131 wsel_0 wd1_1 wd2_132) rfl rfl rfl (by decide +kernel) hR
theorem cl_RX8_54 {R : Room} {s : State} {args : Array Value} (ht : ∀ w ∈ lw_all, w.before args s = true) (hR : 0 + 1 ≤ R.frames ∧ 8 + (1 + 11) + 0 ≤ R.locals) : CallW R s args RX8 RX5 54 yX5_isFull cX5_isFull 1 (some .boolean) (wsq yX5_isFull cX5_isFull 1 (some .boolean)) (rmq 0 0) 0 0 0 := cwV 0 ht (goodV wd2_139 wd2_140 wd2_141 wd1_6 wd2_142) rfl rfl rfl (by decide +kernel) hR
theorem cl_RX8_58 {R : Room} {s : State} {args : Array Value} (ht : ∀ w ∈ lw_all, w.before args s = true) (hR : 1 + 1 ≤ R.frames ∧ 8 + (2 + 11) + 22 ≤ R.locals) : CallW R s args RX8 RX5 58 yX5_take cX5_take 2 (some .int) (wsq yX5_take cX5_take 2 (some .int)) (rmq 1 22) 0 0 1 := cwV 1 ht (goodV wd2_143 wd2_144 wd2_145 wd1_6 wd2_146) rfl rfl rfl (by decide +kernel) hR
def f_X8_letter (p1 : Int32) (M : Mem) : Option (Int32 × Mem) := (if 0 ≤ p1 then (jq (fun (M2 : Mem) => (bq2 (f_X8_refuse (-6 : Int32) M2) (fun (x5 : Int32) (M6 : Mem) => some (x5, M6)))) (fun (K4 : Mem → Option (Int32 × Mem)) => (if (255 : Int32) < p1 then (K4 M) else (bq1 (f_X5_isFull M) (fun (x9 : Int32) => (if x9 = 0 then (bq2 (f_X5_take p1 M) (fun (x12 : Int32) (M13 : Mem) => some (x12, M13))) else (K4 M))))))) else (bq2 (f_X8_refuse (-4 : Int32) M) (fun (x15 : Int32) (M16 : Mem) => some (x15, M16))))
set_option maxHeartbeats 4000000 in
set_option maxRecDepth 100000 in
theorem ct_X8_letter (l : Launch) (G : GG) {p1 : Int32} {M : Mem} {r : Int32} {Mr : Mem}  (hf : f_X8_letter p1 M = some (r, Mr)) : Met l yX8_letter (wsq yX8_letter cX8_letter 2 (some .int)) (rmq 2 43) (va_Pc [.ref (G.2.2.1 0), .int p1] (World G M)) (Qi G r Mr) 0 0 (adA G) := by
  refine x_start (plainFor_of_name (by decide)) (Nat.le_of_ble_eq_true rfl) ?_
  intro p e s m args below meth c hB hr hlk hW hS ls hl
  have hx := hB.x
  have hb := hB.b
  have hl : lv_has ls 2 [(0, .ref (G.2.2.1 0)), (1, .int p1)] := hl
  unfold f_X8_letter at hf
  refine lv_iload_n hx hb dX8_letter_0 rfl (lv_at hl 1 rfl) ?_
  refine lv_if_ge (tgt := 11) hx hb dX8_letter_1 (by decide) (fun c1 => ?_) (fun c1 => ?_)
  · have hf := i_t hf c1
    refine lv_iload_n hx hb dX8_letter_11 rfl (lv_at hl 1 rfl) ?_
    refine lv_sipush (v := (255 : Int32)) hx hb dX8_letter_12 (by decide) ?_
    obtain ⟨K4, eK4, hf⟩ := j_o hf
    have main3 : ∀ (M2 : Mem) (H : Heap) (locs : List Loc) (ls : Array Slot), Wd G M2 H → va_S (adA G) s.heap H locs → lv_has ls 2 [(0, .ref (G.2.2.1 0))] → K4 M2 = some (r, Mr) → W p l e (rmq 2 43) s m args below meth c H locs 0 0 (MQ below (Qi G r Mr) args s 0 0 (adA G)) (F0 m 28 ls []) := by
      intro M2 H locs ls hW hS hl hf
      subst eK4
      refine lv_aload_n hx hb dX8_letter_28 rfl (lv_at hl 0 rfl) ?_
      refine lv_bipush (v := (-6 : Int32)) hx hb dX8_letter_29 (by decide) ?_
      obtain ⟨x5, M6, hg7, hf⟩ := b_o2 hf
      refine x_ci hB (x_rv hB hW hS (As := [.int (-6 : Int32)]) (rest := []) (ct_X8_refuse l G hg7) (cl_RX8_50 hB.2.2.2.2.1 ⟨Nat.le_of_ble_eq_true rfl, Nat.le_of_ble_eq_true rfl⟩) tl0 (by decide) rfl rfl hl.1 rfl (Nat.le_of_ble_eq_true rfl) dX8_letter_31 ⟨Nat.le_refl _, Nat.le_refl _⟩) hS (fun H locs hW hS => ?_)
      exact e_i hB hW hS hr hlk (s_1 hf) (s_2 hf) dX8_letter_34
    refine lv_icmp_gt (tgt := 28) hx hb dX8_letter_15 (by decide) (fun c8 => ?_) (fun c8 => ?_)
    · have hf := i_t hf c8
      exact main3 M _ _ ls hW hS (lv_sub hl [0] rfl) hf
    · have hf := i_f hf c8
      refine lv_aload_n hx hb dX8_letter_18 rfl (lv_at hl 0 rfl) ?_
      refine fg8_4 hB hW tl0 wd2_95 dX8_letter_19 ?_
      obtain ⟨x9, hg10, hf⟩ := b_o1 hf
      refine x_ci hB (x_rv hB hW hS (As := []) (rest := []) (ct_X5_isFull l G hg10) (cl_RX8_54 hB.2.2.2.2.1 ⟨Nat.le_of_ble_eq_true rfl, Nat.le_of_ble_eq_true rfl⟩) tl124 (by decide) rfl rfl hl.1 rfl (Nat.le_of_ble_eq_true rfl) dX8_letter_22 ⟨Nat.le_refl _, Nat.le_refl _⟩) hS (fun H locs hW hS => ?_)
      refine lv_if_eq (tgt := 35) hx hb dX8_letter_25 (by decide) (fun c11 => ?_) (fun c11 => ?_)
      · have hf := i_t hf c11
        refine lv_aload_n hx hb dX8_letter_35 rfl (lv_at hl 0 rfl) ?_
        refine fg8_4 hB hW tl0 wd2_95 dX8_letter_36 ?_
        refine lv_iload_n hx hb dX8_letter_39 rfl (lv_at hl 1 rfl) ?_
        obtain ⟨x12, M13, hg14, hf⟩ := b_o2 hf
        refine x_ci hB (x_rv hB hW hS (As := [.int p1]) (rest := []) (ct_X5_take l G hg14) (cl_RX8_58 hB.2.2.2.2.1 ⟨Nat.le_of_ble_eq_true rfl, Nat.le_of_ble_eq_true rfl⟩) tl124 (by decide) rfl rfl hl.1 rfl (Nat.le_of_ble_eq_true rfl) dX8_letter_40 ⟨Nat.le_refl _, Nat.le_refl _⟩) hS (fun H locs hW hS => ?_)
        exact e_i hB hW hS hr hlk (s_1 hf) (s_2 hf) dX8_letter_43
      · have hf := i_f hf c11
        exact main3 M _ _ ls hW hS (lv_sub hl [0] rfl) hf
  · have hf := i_f hf c1
    refine lv_aload_n hx hb dX8_letter_4 rfl (lv_at hl 0 rfl) ?_
    refine lv_bipush (v := (-4 : Int32)) hx hb dX8_letter_5 (by decide) ?_
    obtain ⟨x15, M16, hg17, hf⟩ := b_o2 hf
    refine x_ci hB (x_rv hB hW hS (As := [.int (-4 : Int32)]) (rest := []) (ct_X8_refuse l G hg17) (cl_RX8_50 hB.2.2.2.2.1 ⟨Nat.le_of_ble_eq_true rfl, Nat.le_of_ble_eq_true rfl⟩) tl0 (by decide) rfl rfl hl.1 rfl (Nat.le_of_ble_eq_true rfl) dX8_letter_7 ⟨Nat.le_refl _, Nat.le_refl _⟩) hS (fun H locs hW hS => ?_)
    exact e_i hB hW hS hr hlk (s_1 hf) (s_2 hf) dX8_letter_10
theorem cl_RX5_37 {R : Room} {s : State} {args : Array Value} (hN : Nst s) (ht : ∀ w ∈ lw_all, w.before args s = true) (hR : 0 + 1 ≤ R.frames ∧ 8 + (2 + 11) + 0 ≤ R.locals) : va_CN R s args RX5 37 yX8_at "LinesOfFragments" cX8_at 2 (some .int) (wsq yX8_at cX8_at 2 (some .int)) (rmq 0 0) 0 0 2 ∧ (Cond.static yX8_at).before args s = true ∧ True := ⟨va_cnB 2 ht (goodC wd2_135) rfl rfl rfl (hN _ (List.mem_of_getElem? (l := nestL) (i := 1) rfl)) (ht _ wd1_1) (by decide +kernel) hR, ht _ wd2_134, trivial⟩
def f_X5_here (M : Mem) : Option Int32 := (if (gi M 124 1) ≤ (gi M 124 3) then some (-1 : Int32) else (bq1 (f_X8_at 125 (gi M 124 3) M) (fun (x2 : Int32) => some x2)))
set_option maxHeartbeats 4000000 in
set_option maxRecDepth 100000 in
theorem ct_X5_here (l : Launch) (G : GG)  {M : Mem} {r : Int32}  (hf : f_X5_here M = some r) : Met l yX5_here (wsq yX5_here cX5_here 1 (some .int)) (rmq 1 21) (va_Pc [.ref (G.2.2.1 124)] (World G M)) (Qi G r M) 0 0 (adA G) := by
  refine x_start (plainFor_of_name (by decide)) (Nat.le_of_ble_eq_true rfl) ?_
  intro p e s m args below meth c hB hr hlk hW hS ls hl
  have hx := hB.x
  have hb := hB.b
  have hl : lv_has ls 1 [(0, .ref (G.2.2.1 124))] := hl
  unfold f_X5_here at hf
  refine lv_aload_n hx hb dX5_here_0 rfl (lv_at hl 0 rfl) ?_
  refine fg5_3 hB hW tl124 wd1_190 dX5_here_1 ?_
  refine lv_aload_n hx hb dX5_here_4 rfl (lv_at hl 0 rfl) ?_
  refine fg5_1 hB hW tl124 wd1_186 dX5_here_5 ?_
  refine lv_icmp_ge (tgt := 25) hx hb dX5_here_8 (by decide) (fun c1 => ?_) (fun c1 => ?_)
  · have hf := i_t hf c1
    refine lv_iconst (v := (-1 : Int32)) hx hb dX5_here_25 (by decide) ?_
    exact e_i hB hW hS hr hlk (Option.some.inj hf) rfl dX5_here_26
  · have hf := i_f hf c1
    refine lv_aload_n hx hb dX5_here_11 rfl (lv_at hl 0 rfl) ?_
    refine fg5_0 hB hW tl124 wd1_185 dX5_here_12 ?_
    refine lv_aload_n hx hb dX5_here_15 rfl (lv_at hl 0 rfl) ?_
    refine fg5_3 hB hW tl124 wd1_190 dX5_here_16 ?_
    obtain ⟨x2, hg3, hf⟩ := b_o1 hf
    refine x_ci hB (x_rn hB hW hS (As := [.ref (G.2.2.1 125), .int (gi M 124 3)]) (rest := []) (ct_X8_at l G tl125 hg3) (cl_RX5_37 hB.nst hB.2.2.2.2.1 ⟨Nat.le_of_ble_eq_true rfl, Nat.le_of_ble_eq_true rfl⟩) rfl hl.1 rfl (Nat.le_of_ble_eq_true rfl) dX5_here_19 ⟨Nat.le_refl _, Nat.le_refl _⟩) hS (fun H locs hW hS => ?_)
    refine lv_goto (tgt := 26) hx hb dX5_here_22 (by decide) ?_
    exact e_i hB hW hS hr hlk (Option.some.inj hf) rfl dX5_here_26
def f_X5_digitsBehind (p1 : Int32) : Option Int32 := (if p1 = (103 : Int32) then some (3 : Int32) else if p1 = (104 : Int32) then some (2 : Int32) else if p1 = (105 : Int32) then some (-1 : Int32) else if p1 = (106 : Int32) then some (-1 : Int32) else if p1 = (107 : Int32) then some (2 : Int32) else if p1 = (108 : Int32) then some (2 : Int32) else if p1 = (109 : Int32) then some (1 : Int32) else if p1 = (110 : Int32) then some (0 : Int32) else if p1 = (111 : Int32) then some (1 : Int32) else if p1 = (112 : Int32) then some (2 : Int32) else if p1 = (113 : Int32) then some (-1 : Int32) else if p1 = (114 : Int32) then some (-1 : Int32) else if p1 = (115 : Int32) then some (-1 : Int32) else if p1 = (116 : Int32) then some (2 : Int32) else if p1 = (117 : Int32) then some (-1 : Int32) else if p1 = (118 : Int32) then some (-1 : Int32) else if p1 = (119 : Int32) then some (0 : Int32) else some (-1 : Int32))
set_option maxHeartbeats 4000000 in
set_option maxRecDepth 100000 in
theorem ct_X5_digitsBehind (l : Launch) (G : GG) {p1 : Int32} {M : Mem} {r : Int32}  (hf : f_X5_digitsBehind p1 = some r) : Met l yX5_digitsBehind (wsq yX5_digitsBehind cX5_digitsBehind 1 (some .int)) (rmq 0 0) (va_Pc [.int p1] (World G M)) (Qi G r M) 0 0 (adA G) := by
  refine x_start (plainFor_of_name (by decide)) (Nat.le_of_ble_eq_true rfl) ?_
  intro p e s m args below meth c hB hr hlk hW hS ls hl
  have hx := hB.x
  have hb := hB.b
  have hl : lv_has ls 1 [(0, .int p1)] := hl
  unfold f_X5_digitsBehind at hf
  refine lv_iload_n hx hb dX5_digitsBehind_0 rfl (lv_at hl 0 rfl) ?_
  by_cases c1 : p1 = (103 : Int32)
  · have hf := i_t hf c1
    refine lv_tableIn (tgt := 90) hx hb dX5_digitsBehind_1 (by rw [c1]; decide) (by rw [c1]; decide) (by rw [c1] <;> rfl) (by decide) ?_
    refine lv_iconst (v := (3 : Int32)) hx hb dX5_digitsBehind_90 (by decide) ?_
    exact e_i hB hW hS hr hlk (Option.some.inj hf) rfl dX5_digitsBehind_91
  · have hf := i_f hf c1
    by_cases c2 : p1 = (104 : Int32)
    · have hf := i_t hf c2
      refine lv_tableIn (tgt := 88) hx hb dX5_digitsBehind_1 (by rw [c2]; decide) (by rw [c2]; decide) (by rw [c2] <;> rfl) (by decide) ?_
      refine lv_iconst (v := (2 : Int32)) hx hb dX5_digitsBehind_88 (by decide) ?_
      exact e_i hB hW hS hr hlk (Option.some.inj hf) rfl dX5_digitsBehind_89
    · have hf := i_f hf c2
      by_cases c3 : p1 = (105 : Int32)
      · have hf := i_t hf c3
        refine lv_tableIn (tgt := 92) hx hb dX5_digitsBehind_1 (by rw [c3]; decide) (by rw [c3]; decide) (by rw [c3] <;> rfl) (by decide) ?_
        refine lv_iconst (v := (-1 : Int32)) hx hb dX5_digitsBehind_92 (by decide) ?_
        exact e_i hB hW hS hr hlk (Option.some.inj hf) rfl dX5_digitsBehind_93
      · have hf := i_f hf c3
        by_cases c4 : p1 = (106 : Int32)
        · have hf := i_t hf c4
          refine lv_tableIn (tgt := 92) hx hb dX5_digitsBehind_1 (by rw [c4]; decide) (by rw [c4]; decide) (by rw [c4] <;> rfl) (by decide) ?_
          refine lv_iconst (v := (-1 : Int32)) hx hb dX5_digitsBehind_92 (by decide) ?_
          exact e_i hB hW hS hr hlk (Option.some.inj hf) rfl dX5_digitsBehind_93
        · have hf := i_f hf c4
          by_cases c5 : p1 = (107 : Int32)
          · have hf := i_t hf c5
            refine lv_tableIn (tgt := 88) hx hb dX5_digitsBehind_1 (by rw [c5]; decide) (by rw [c5]; decide) (by rw [c5] <;> rfl) (by decide) ?_
            refine lv_iconst (v := (2 : Int32)) hx hb dX5_digitsBehind_88 (by decide) ?_
            exact e_i hB hW hS hr hlk (Option.some.inj hf) rfl dX5_digitsBehind_89
          · have hf := i_f hf c5
            by_cases c6 : p1 = (108 : Int32)
            · have hf := i_t hf c6
              refine lv_tableIn (tgt := 88) hx hb dX5_digitsBehind_1 (by rw [c6]; decide) (by rw [c6]; decide) (by rw [c6] <;> rfl) (by decide) ?_
              refine lv_iconst (v := (2 : Int32)) hx hb dX5_digitsBehind_88 (by decide) ?_
              exact e_i hB hW hS hr hlk (Option.some.inj hf) rfl dX5_digitsBehind_89
            · have hf := i_f hf c6
              by_cases c7 : p1 = (109 : Int32)
              · have hf := i_t hf c7
                refine lv_tableIn (tgt := 86) hx hb dX5_digitsBehind_1 (by rw [c7]; decide) (by rw [c7]; decide) (by rw [c7] <;> rfl) (by decide) ?_
                refine lv_iconst (v := (1 : Int32)) hx hb dX5_digitsBehind_86 (by decide) ?_
                exact e_i hB hW hS hr hlk (Option.some.inj hf) rfl dX5_digitsBehind_87
              · have hf := i_f hf c7
                by_cases c8 : p1 = (110 : Int32)
                · have hf := i_t hf c8
                  refine lv_tableIn (tgt := 84) hx hb dX5_digitsBehind_1 (by rw [c8]; decide) (by rw [c8]; decide) (by rw [c8] <;> rfl) (by decide) ?_
                  refine lv_iconst (v := (0 : Int32)) hx hb dX5_digitsBehind_84 (by decide) ?_
                  exact e_i hB hW hS hr hlk (Option.some.inj hf) rfl dX5_digitsBehind_85
                · have hf := i_f hf c8
                  by_cases c9 : p1 = (111 : Int32)
                  · have hf := i_t hf c9
                    refine lv_tableIn (tgt := 86) hx hb dX5_digitsBehind_1 (by rw [c9]; decide) (by rw [c9]; decide) (by rw [c9] <;> rfl) (by decide) ?_
                    refine lv_iconst (v := (1 : Int32)) hx hb dX5_digitsBehind_86 (by decide) ?_
                    exact e_i hB hW hS hr hlk (Option.some.inj hf) rfl dX5_digitsBehind_87
                  · have hf := i_f hf c9
                    by_cases c10 : p1 = (112 : Int32)
                    · have hf := i_t hf c10
                      refine lv_tableIn (tgt := 88) hx hb dX5_digitsBehind_1 (by rw [c10]; decide) (by rw [c10]; decide) (by rw [c10] <;> rfl) (by decide) ?_
                      refine lv_iconst (v := (2 : Int32)) hx hb dX5_digitsBehind_88 (by decide) ?_
                      exact e_i hB hW hS hr hlk (Option.some.inj hf) rfl dX5_digitsBehind_89
                    · have hf := i_f hf c10
                      by_cases c11 : p1 = (113 : Int32)
                      · have hf := i_t hf c11
                        refine lv_tableIn (tgt := 92) hx hb dX5_digitsBehind_1 (by rw [c11]; decide) (by rw [c11]; decide) (by rw [c11] <;> rfl) (by decide) ?_
                        refine lv_iconst (v := (-1 : Int32)) hx hb dX5_digitsBehind_92 (by decide) ?_
                        exact e_i hB hW hS hr hlk (Option.some.inj hf) rfl dX5_digitsBehind_93
                      · have hf := i_f hf c11
                        by_cases c12 : p1 = (114 : Int32)
                        · have hf := i_t hf c12
                          refine lv_tableIn (tgt := 92) hx hb dX5_digitsBehind_1 (by rw [c12]; decide) (by rw [c12]; decide) (by rw [c12] <;> rfl) (by decide) ?_
                          refine lv_iconst (v := (-1 : Int32)) hx hb dX5_digitsBehind_92 (by decide) ?_
                          exact e_i hB hW hS hr hlk (Option.some.inj hf) rfl dX5_digitsBehind_93
                        · have hf := i_f hf c12
                          by_cases c13 : p1 = (115 : Int32)
                          · have hf := i_t hf c13
                            refine lv_tableIn (tgt := 92) hx hb dX5_digitsBehind_1 (by rw [c13]; decide) (by rw [c13]; decide) (by rw [c13] <;> rfl) (by decide) ?_
                            refine lv_iconst (v := (-1 : Int32)) hx hb dX5_digitsBehind_92 (by decide) ?_
                            exact e_i hB hW hS hr hlk (Option.some.inj hf) rfl dX5_digitsBehind_93
                          · have hf := i_f hf c13
                            by_cases c14 : p1 = (116 : Int32)
                            · have hf := i_t hf c14
                              refine lv_tableIn (tgt := 88) hx hb dX5_digitsBehind_1 (by rw [c14]; decide) (by rw [c14]; decide) (by rw [c14] <;> rfl) (by decide) ?_
                              refine lv_iconst (v := (2 : Int32)) hx hb dX5_digitsBehind_88 (by decide) ?_
                              exact e_i hB hW hS hr hlk (Option.some.inj hf) rfl dX5_digitsBehind_89
                            · have hf := i_f hf c14
                              by_cases c15 : p1 = (117 : Int32)
                              · have hf := i_t hf c15
                                refine lv_tableIn (tgt := 92) hx hb dX5_digitsBehind_1 (by rw [c15]; decide) (by rw [c15]; decide) (by rw [c15] <;> rfl) (by decide) ?_
                                refine lv_iconst (v := (-1 : Int32)) hx hb dX5_digitsBehind_92 (by decide) ?_
                                exact e_i hB hW hS hr hlk (Option.some.inj hf) rfl dX5_digitsBehind_93
                              · have hf := i_f hf c15
                                by_cases c16 : p1 = (118 : Int32)
                                · have hf := i_t hf c16
                                  refine lv_tableIn (tgt := 92) hx hb dX5_digitsBehind_1 (by rw [c16]; decide) (by rw [c16]; decide) (by rw [c16] <;> rfl) (by decide) ?_
                                  refine lv_iconst (v := (-1 : Int32)) hx hb dX5_digitsBehind_92 (by decide) ?_
                                  exact e_i hB hW hS hr hlk (Option.some.inj hf) rfl dX5_digitsBehind_93
                                · have hf := i_f hf c16
                                  by_cases c17 : p1 = (119 : Int32)
                                  · have hf := i_t hf c17
                                    refine lv_tableIn (tgt := 84) hx hb dX5_digitsBehind_1 (by rw [c17]; decide) (by rw [c17]; decide) (by rw [c17] <;> rfl) (by decide) ?_
                                    refine lv_iconst (v := (0 : Int32)) hx hb dX5_digitsBehind_84 (by decide) ?_
                                    exact e_i hB hW hS hr hlk (Option.some.inj hf) rfl dX5_digitsBehind_85
                                  · have hf := i_f hf c17
                                    refine lv_tableOut (tgt := 92) hx hb dX5_digitsBehind_1 (sw_out (lo := 103) (hi := 119) (fun v h1 h2 hv => ?_)) (by decide) ?_
                                    · rcases (show v = 103 ∨ v = 104 ∨ v = 105 ∨ v = 106 ∨ v = 107 ∨ v = 108 ∨ v = 109 ∨ v = 110 ∨ v = 111 ∨ v = 112 ∨ v = 113 ∨ v = 114 ∨ v = 115 ∨ v = 116 ∨ v = 117 ∨ v = 118 ∨ v = 119 by omega) with rfl | rfl | rfl | rfl | rfl | rfl | rfl | rfl | rfl | rfl | rfl | rfl | rfl | rfl | rfl | rfl | rfl
                                      · exact c1 hv
                                      · exact c2 hv
                                      · exact c3 hv
                                      · exact c4 hv
                                      · exact c5 hv
                                      · exact c6 hv
                                      · exact c7 hv
                                      · exact c8 hv
                                      · exact c9 hv
                                      · exact c10 hv
                                      · exact c11 hv
                                      · exact c12 hv
                                      · exact c13 hv
                                      · exact c14 hv
                                      · exact c15 hv
                                      · exact c16 hv
                                      · exact c17 hv
                                    · skip
                                      refine lv_iconst (v := (-1 : Int32)) hx hb dX5_digitsBehind_92 (by decide) ?_
                                      exact e_i hB hW hS hr hlk (Option.some.inj hf) rfl dX5_digitsBehind_93
theorem cl_RX5_41 {R : Room} {s : State} {args : Array Value} (ht : ∀ w ∈ lw_all, w.before args s = true) (hR : 1 + 1 ≤ R.frames ∧ 8 + (1 + 11) + 21 ≤ R.locals) : CallW R s args RX5 RX5 41 yX5_here cX5_here 1 (some .int) (wsq yX5_here cX5_here 1 (some .int)) (rmq 1 21) 0 0 0 := cwV 0 ht (goodV wd2_160 wd2_162 wsel_2 wd1_6 wd2_163) rfl rfl rfl (by decide +kernel) hR
def f_X5_isLetterHere (M : Mem) : Option Int32 := (bq1 (f_X5_here M) (fun (x1 : Int32) => (if x1 < (97 : Int32) then some (0 : Int32) else (bq1 (f_X5_here M) (fun (x4 : Int32) => (if (104 : Int32) < x4 then some (0 : Int32) else some (1 : Int32)))))))
set_option maxHeartbeats 4000000 in
set_option maxRecDepth 100000 in
theorem ct_X5_isLetterHere (l : Launch) (G : GG)  {M : Mem} {r : Int32}  (hf : f_X5_isLetterHere M = some r) : Met l yX5_isLetterHere (wsq yX5_isLetterHere cX5_isLetterHere 1 (some .boolean)) (rmq 2 41) (va_Pc [.ref (G.2.2.1 124)] (World G M)) (Qi G r M) 0 0 (adA G) := by
  refine x_start (plainFor_of_name (by decide)) (Nat.le_of_ble_eq_true rfl) ?_
  intro p e s m args below meth c hB hr hlk hW hS ls hl
  have hx := hB.x
  have hb := hB.b
  have hl : lv_has ls 1 [(0, .ref (G.2.2.1 124))] := hl
  unfold f_X5_isLetterHere at hf
  refine lv_aload_n hx hb dX5_isLetterHere_0 rfl (lv_at hl 0 rfl) ?_
  obtain ⟨x1, hg2, hf⟩ := b_o1 hf
  refine x_ci hB (x_rv hB hW hS (As := []) (rest := []) (ct_X5_here l G hg2) (cl_RX5_41 hB.2.2.2.2.1 ⟨Nat.le_of_ble_eq_true rfl, Nat.le_of_ble_eq_true rfl⟩) tl124 (by decide) rfl rfl hl.1 rfl (Nat.le_of_ble_eq_true rfl) dX5_isLetterHere_1 ⟨Nat.le_refl _, Nat.le_refl _⟩) hS (fun H locs hW hS => ?_)
  refine lv_bipush (v := (97 : Int32)) hx hb dX5_isLetterHere_4 (by decide) ?_
  refine lv_icmp_lt (tgt := 22) hx hb dX5_isLetterHere_6 (by decide) (fun c3 => ?_) (fun c3 => ?_)
  · have hf := i_t hf c3
    refine lv_iconst (v := (0 : Int32)) hx hb dX5_isLetterHere_22 (by decide) ?_
    exact e_z (by decide) hB hW hS hr hlk (Option.some.inj hf) rfl dX5_isLetterHere_23
  · have hf := i_f hf c3
    refine lv_aload_n hx hb dX5_isLetterHere_9 rfl (lv_at hl 0 rfl) ?_
    obtain ⟨x4, hg5, hf⟩ := b_o1 hf
    refine x_ci hB (x_rv hB hW hS (As := []) (rest := []) (ct_X5_here l G hg5) (cl_RX5_41 hB.2.2.2.2.1 ⟨Nat.le_of_ble_eq_true rfl, Nat.le_of_ble_eq_true rfl⟩) tl124 (by decide) rfl rfl hl.1 rfl (Nat.le_of_ble_eq_true rfl) dX5_isLetterHere_10 ⟨Nat.le_refl _, Nat.le_refl _⟩) hS (fun H locs hW hS => ?_)
    refine lv_bipush (v := (104 : Int32)) hx hb dX5_isLetterHere_13 (by decide) ?_
    refine lv_icmp_gt (tgt := 22) hx hb dX5_isLetterHere_15 (by decide) (fun c6 => ?_) (fun c6 => ?_)
    · have hf := i_t hf c6
      refine lv_iconst (v := (0 : Int32)) hx hb dX5_isLetterHere_22 (by decide) ?_
      exact e_z (by decide) hB hW hS hr hlk (Option.some.inj hf) rfl dX5_isLetterHere_23
    · have hf := i_f hf c6
      refine lv_iconst (v := (1 : Int32)) hx hb dX5_isLetterHere_18 (by decide) ?_
      refine lv_goto (tgt := 23) hx hb dX5_isLetterHere_19 (by decide) ?_
      exact e_z (by decide) hB hW hS hr hlk (Option.some.inj hf) rfl dX5_isLetterHere_23
theorem cl_RX5_56 {R : Room} {s : State} {args : Array Value} (ht : ∀ w ∈ lw_all, w.before args s = true) (hR : 2 + 1 ≤ R.frames ∧ 8 + (1 + 11) + 41 ≤ R.locals) : CallW R s args RX5 RX5 56 yX5_isLetterHere cX5_isLetterHere 1 (some .boolean) (wsq yX5_isLetterHere cX5_isLetterHere 1 (some .boolean)) (rmq 2 41) 0 0 0 := cwV 0 ht (goodV wd2_172 wd2_174 wsel_4 wd1_6 wd2_175) rfl rfl rfl (by decide +kernel) hR
def f_X5_readLetters_L2 (p1 : Int32) (K3 : Int32 → Mem → Option (Int32 × Mem)) (x1 : Int32) (M2 : Mem) : Option (Int32 × Mem) := (if p1 ≤ x1 then (some (x1, M2)) else (bq1 (f_X5_isLetterHere M2) (fun (x12 : Int32) => (if x12 = 0 then (some (x1, M2)) else (nmq (si M2 124 3 ((gi M2 124 3) + (1 : Int32))) (fun (M15 : Mem) => nmq (x1 + (1 : Int32)) (fun (x16 : Int32) => (K3 x16 M15))))))))
def f_X5_readLetters (p1 : Int32) (M : Mem) : Option (Int32 × Mem) := (bq2 (lq2 (f_X5_readLetters_L2 p1) FU (0 : Int32) M) (fun (x5 : Int32) (M6 : Mem) => (if x5 ≤ 0 then some ((0 : Int32), M6) else some ((1 : Int32), M6))))
set_option maxHeartbeats 4000000 in
set_option maxRecDepth 100000 in
theorem ct_X5_readLetters (l : Launch) (G : GG) {p1 : Int32} {M : Mem} {r : Int32} {Mr : Mem}  (hf : f_X5_readLetters p1 M = some (r, Mr)) : Met l yX5_readLetters (wsq yX5_readLetters cX5_readLetters 3 (some .boolean)) (rmq 3 61) (va_Pc [.ref (G.2.2.1 124), .int p1] (World G M)) (Qi G r Mr) 0 0 (adA G) := by
  refine x_start (plainFor_of_name (by decide)) (Nat.le_of_ble_eq_true rfl) ?_
  intro p e s m args below meth c hB hr hlk hW hS ls hl
  have hx := hB.x
  have hb := hB.b
  have hl : lv_has ls 3 [(0, .ref (G.2.2.1 124)), (1, .int p1)] := hl
  unfold f_X5_readLetters at hf
  refine lv_iconst (v := (0 : Int32)) hx hb dX5_readLetters_0 (by decide) ?_
  refine lv_istore_n (lv' := [(2, .int (0 : Int32)), (0, .ref (G.2.2.1 124)), (1, .int p1)]) hx hb dX5_readLetters_1 rfl hl (by decide) rfl (fun ls hl => ?_)
  obtain ⟨y8, M9, hL, hf⟩ := b_o2 hf
  have main10 : ∀ (x5 : Int32) (M6 : Mem) (H : Heap) (locs : List Loc) (ls : Array Slot), Wd G M6 H → va_S (adA G) s.heap H locs → lv_has ls 3 [(2, .int x5)] → some (x5, M6) = some (y8, M9) → W p l e (rmq 3 61) s m args below meth c H locs 0 0 (MQ below (Qi G r Mr) args s 0 0 (adA G)) (F0 m 30 ls []) := by
    intro x5 M6 H locs ls hW hS hl hE
    cases hE
    refine lv_iload_n hx hb dX5_readLetters_30 rfl (lv_at hl 0 rfl) ?_
    refine lv_if_le (tgt := 38) hx hb dX5_readLetters_31 (by decide) (fun c7 => ?_) (fun c7 => ?_)
    · have hf := i_t hf c7
      refine lv_iconst (v := (0 : Int32)) hx hb dX5_readLetters_38 (by decide) ?_
      exact e_z (by decide) hB hW hS hr hlk (s_1 hf) (s_2 hf) dX5_readLetters_39
    · have hf := i_f hf c7
      refine lv_iconst (v := (1 : Int32)) hx hb dX5_readLetters_34 (by decide) ?_
      refine lv_goto (tgt := 39) hx hb dX5_readLetters_35 (by decide) ?_
      exact e_z (by decide) hB hW hS hr hlk (s_1 hf) (s_2 hf) dX5_readLetters_39
  have loop4 : ∀ (n : Nat) (x1 : Int32) (M2 : Mem) (H : Heap) (locs : List Loc) (ls : Array Slot), Wd G M2 H → va_S (adA G) s.heap H locs → lv_has ls 3 [(0, .ref (G.2.2.1 124)), (1, .int p1), (2, .int x1)] → lq2 (f_X5_readLetters_L2 p1) n x1 M2 = some (y8, M9) → W p l e (rmq 3 61) s m args below meth c H locs 0 0 (MQ below (Qi G r Mr) args s 0 0 (adA G)) (F0 m 2 ls []) := by
    intro n
    induction n with
    | zero => intro x1 M2 H locs ls hW hS hl hf; exact (l_z2 hf).elim
    | succ n ih =>
      intro x1 M2 H locs ls hW hS hl hf
      have hf := l_s2 hf
      generalize lq2 (f_X5_readLetters_L2 p1) n = K3 at ih hf
      unfold f_X5_readLetters_L2 at hf
      refine lv_iload_n hx hb dX5_readLetters_2 rfl (lv_at hl 2 rfl) ?_
      refine lv_iload_n hx hb dX5_readLetters_3 rfl (lv_at hl 1 rfl) ?_
      refine lv_icmp_ge (tgt := 30) hx hb dX5_readLetters_4 (by decide) (fun c11 => ?_) (fun c11 => ?_)
      · have hf := i_t hf c11
        exact main10 x1 M2 _ _ ls hW hS (lv_sub hl [2] rfl) hf
      · have hf := i_f hf c11
        refine lv_aload_n hx hb dX5_readLetters_7 rfl (lv_at hl 0 rfl) ?_
        obtain ⟨x12, hg13, hf⟩ := b_o1 hf
        refine x_ci hB (x_rv hB hW hS (As := []) (rest := []) (ct_X5_isLetterHere l G hg13) (cl_RX5_56 hB.2.2.2.2.1 ⟨Nat.le_of_ble_eq_true rfl, Nat.le_of_ble_eq_true rfl⟩) tl124 (by decide) rfl rfl hl.1 rfl (Nat.le_of_ble_eq_true rfl) dX5_readLetters_8 ⟨Nat.le_refl _, Nat.le_refl _⟩) hS (fun H locs hW hS => ?_)
        refine lv_if_eq (tgt := 30) hx hb dX5_readLetters_11 (by decide) (fun c14 => ?_) (fun c14 => ?_)
        · have hf := i_t hf c14
          exact main10 x1 M2 _ _ ls hW hS (lv_sub hl [2] rfl) hf
        · have hf := i_f hf c14
          refine lv_aload_n hx hb dX5_readLetters_14 rfl (lv_at hl 0 rfl) ?_
          refine lv_dup hx hb dX5_readLetters_15 rfl ?_
          refine fg5_3 hB hW tl124 wd1_190 dX5_readLetters_16 ?_
          refine lv_iconst (v := (1 : Int32)) hx hb dX5_readLetters_19 (by decide) ?_
          refine lv_iadd hx hb dX5_readLetters_20 ?_
          refine fp5_3 hB hW hS tl124 wd1_190 dX5_readLetters_21 (fun H locs M15 eM15 hW hS => ?_)
          have hf := nm_o hf eM15
          obtain ⟨x16, ex16⟩ : ∃ y : Int32, y = x1 + (1 : Int32) := ⟨_, rfl⟩
          have hf := nm_o hf ex16
          refine lv_iinc (v := x16) (lv' := [(2, .int x16), (0, .ref (G.2.2.1 124)), (1, .int p1)]) hx hb dX5_readLetters_24 hl (k := 2) rfl (by rw [ex16]; rfl) (by decide) rfl (fun ls hl => ?_)
          refine lv_goto (tgt := 2) hx hb dX5_readLetters_27 (by decide) ?_
          exact ih x16 M15 _ _ ls hW hS (lv_sub hl [1, 2, 0] rfl) hf
  exact loop4 FU (0 : Int32) M _ _ ls hW hS (lv_sub hl [1, 2, 0] rfl) hL
def f_X5_isDigitHere (M : Mem) : Option Int32 := (bq1 (f_X5_here M) (fun (x1 : Int32) => (if x1 < (48 : Int32) then some (0 : Int32) else (bq1 (f_X5_here M) (fun (x4 : Int32) => (if (57 : Int32) < x4 then some (0 : Int32) else some (1 : Int32)))))))
set_option maxHeartbeats 4000000 in
set_option maxRecDepth 100000 in
theorem ct_X5_isDigitHere (l : Launch) (G : GG)  {M : Mem} {r : Int32}  (hf : f_X5_isDigitHere M = some r) : Met l yX5_isDigitHere (wsq yX5_isDigitHere cX5_isDigitHere 1 (some .boolean)) (rmq 2 41) (va_Pc [.ref (G.2.2.1 124)] (World G M)) (Qi G r M) 0 0 (adA G) := by
  refine x_start (plainFor_of_name (by decide)) (Nat.le_of_ble_eq_true rfl) ?_
  intro p e s m args below meth c hB hr hlk hW hS ls hl
  have hx := hB.x
  have hb := hB.b
  have hl : lv_has ls 1 [(0, .ref (G.2.2.1 124))] := hl
  unfold f_X5_isDigitHere at hf
  refine lv_aload_n hx hb dX5_isDigitHere_0 rfl (lv_at hl 0 rfl) ?_
  obtain ⟨x1, hg2, hf⟩ := b_o1 hf
  refine x_ci hB (x_rv hB hW hS (As := []) (rest := []) (ct_X5_here l G hg2) (cl_RX5_41 hB.2.2.2.2.1 ⟨Nat.le_of_ble_eq_true rfl, Nat.le_of_ble_eq_true rfl⟩) tl124 (by decide) rfl rfl hl.1 rfl (Nat.le_of_ble_eq_true rfl) dX5_isDigitHere_1 ⟨Nat.le_refl _, Nat.le_refl _⟩) hS (fun H locs hW hS => ?_)
  refine lv_bipush (v := (48 : Int32)) hx hb dX5_isDigitHere_4 (by decide) ?_
  refine lv_icmp_lt (tgt := 22) hx hb dX5_isDigitHere_6 (by decide) (fun c3 => ?_) (fun c3 => ?_)
  · have hf := i_t hf c3
    refine lv_iconst (v := (0 : Int32)) hx hb dX5_isDigitHere_22 (by decide) ?_
    exact e_z (by decide) hB hW hS hr hlk (Option.some.inj hf) rfl dX5_isDigitHere_23
  · have hf := i_f hf c3
    refine lv_aload_n hx hb dX5_isDigitHere_9 rfl (lv_at hl 0 rfl) ?_
    obtain ⟨x4, hg5, hf⟩ := b_o1 hf
    refine x_ci hB (x_rv hB hW hS (As := []) (rest := []) (ct_X5_here l G hg5) (cl_RX5_41 hB.2.2.2.2.1 ⟨Nat.le_of_ble_eq_true rfl, Nat.le_of_ble_eq_true rfl⟩) tl124 (by decide) rfl rfl hl.1 rfl (Nat.le_of_ble_eq_true rfl) dX5_isDigitHere_10 ⟨Nat.le_refl _, Nat.le_refl _⟩) hS (fun H locs hW hS => ?_)
    refine lv_bipush (v := (57 : Int32)) hx hb dX5_isDigitHere_13 (by decide) ?_
    refine lv_icmp_gt (tgt := 22) hx hb dX5_isDigitHere_15 (by decide) (fun c6 => ?_) (fun c6 => ?_)
    · have hf := i_t hf c6
      refine lv_iconst (v := (0 : Int32)) hx hb dX5_isDigitHere_22 (by decide) ?_
      exact e_z (by decide) hB hW hS hr hlk (Option.some.inj hf) rfl dX5_isDigitHere_23
    · have hf := i_f hf c6
      refine lv_iconst (v := (1 : Int32)) hx hb dX5_isDigitHere_18 (by decide) ?_
      refine lv_goto (tgt := 23) hx hb dX5_isDigitHere_19 (by decide) ?_
      exact e_z (by decide) hB hW hS hr hlk (Option.some.inj hf) rfl dX5_isDigitHere_23
theorem cl_RX5_59 {R : Room} {s : State} {args : Array Value} (ht : ∀ w ∈ lw_all, w.before args s = true) (hR : 2 + 1 ≤ R.frames ∧ 8 + (1 + 11) + 41 ≤ R.locals) : CallW R s args RX5 RX5 59 yX5_isDigitHere cX5_isDigitHere 1 (some .boolean) (wsq yX5_isDigitHere cX5_isDigitHere 1 (some .boolean)) (rmq 2 41) 0 0 0 := cwV 0 ht (goodV wd2_180 wd2_182 wsel_6 wd1_6 wd2_183) rfl rfl rfl (by decide +kernel) hR
def f_X5_readDigits_L2 (p1 : Int32) (K3 : Int32 → Mem → Option (Int32 × Mem)) (x1 : Int32) (M2 : Mem) : Option (Int32 × Mem) := (if p1 ≤ x1 then some ((1 : Int32), M2) else (bq1 (f_X5_isDigitHere M2) (fun (x6 : Int32) => (if x6 = 0 then some ((0 : Int32), M2) else (nmq (si M2 124 3 ((gi M2 124 3) + (1 : Int32))) (fun (M9 : Mem) => nmq (x1 + (1 : Int32)) (fun (x10 : Int32) => (K3 x10 M9))))))))
def f_X5_readDigits (p1 : Int32) (M : Mem) : Option (Int32 × Mem) := (lq2 (f_X5_readDigits_L2 p1) FU (0 : Int32) M)
set_option maxHeartbeats 4000000 in
set_option maxRecDepth 100000 in
theorem ct_X5_readDigits (l : Launch) (G : GG) {p1 : Int32} {M : Mem} {r : Int32} {Mr : Mem}  (hf : f_X5_readDigits p1 M = some (r, Mr)) : Met l yX5_readDigits (wsq yX5_readDigits cX5_readDigits 3 (some .boolean)) (rmq 3 61) (va_Pc [.ref (G.2.2.1 124), .int p1] (World G M)) (Qi G r Mr) 0 0 (adA G) := by
  refine x_start (plainFor_of_name (by decide)) (Nat.le_of_ble_eq_true rfl) ?_
  intro p e s m args below meth c hB hr hlk hW hS ls hl
  have hx := hB.x
  have hb := hB.b
  have hl : lv_has ls 3 [(0, .ref (G.2.2.1 124)), (1, .int p1)] := hl
  unfold f_X5_readDigits at hf
  refine lv_iconst (v := (0 : Int32)) hx hb dX5_readDigits_0 (by decide) ?_
  refine lv_istore_n (lv' := [(2, .int (0 : Int32)), (0, .ref (G.2.2.1 124)), (1, .int p1)]) hx hb dX5_readDigits_1 rfl hl (by decide) rfl (fun ls hl => ?_)
  have loop4 : ∀ (n : Nat) (x1 : Int32) (M2 : Mem) (H : Heap) (locs : List Loc) (ls : Array Slot), Wd G M2 H → va_S (adA G) s.heap H locs → lv_has ls 3 [(0, .ref (G.2.2.1 124)), (1, .int p1), (2, .int x1)] → lq2 (f_X5_readDigits_L2 p1) n x1 M2 = some (r, Mr) → W p l e (rmq 3 61) s m args below meth c H locs 0 0 (MQ below (Qi G r Mr) args s 0 0 (adA G)) (F0 m 2 ls []) := by
    intro n
    induction n with
    | zero => intro x1 M2 H locs ls hW hS hl hf; exact (l_z2 hf).elim
    | succ n ih =>
      intro x1 M2 H locs ls hW hS hl hf
      have hf := l_s2 hf
      generalize lq2 (f_X5_readDigits_L2 p1) n = K3 at ih hf
      unfold f_X5_readDigits_L2 at hf
      refine lv_iload_n hx hb dX5_readDigits_2 rfl (lv_at hl 2 rfl) ?_
      refine lv_iload_n hx hb dX5_readDigits_3 rfl (lv_at hl 1 rfl) ?_
      refine lv_icmp_ge (tgt := 32) hx hb dX5_readDigits_4 (by decide) (fun c5 => ?_) (fun c5 => ?_)
      · have hf := i_t hf c5
        refine lv_iconst (v := (1 : Int32)) hx hb dX5_readDigits_32 (by decide) ?_
        exact e_z (by decide) hB hW hS hr hlk (s_1 hf) (s_2 hf) dX5_readDigits_33
      · have hf := i_f hf c5
        refine lv_aload_n hx hb dX5_readDigits_7 rfl (lv_at hl 0 rfl) ?_
        obtain ⟨x6, hg7, hf⟩ := b_o1 hf
        refine x_ci hB (x_rv hB hW hS (As := []) (rest := []) (ct_X5_isDigitHere l G hg7) (cl_RX5_59 hB.2.2.2.2.1 ⟨Nat.le_of_ble_eq_true rfl, Nat.le_of_ble_eq_true rfl⟩) tl124 (by decide) rfl rfl hl.1 rfl (Nat.le_of_ble_eq_true rfl) dX5_readDigits_8 ⟨Nat.le_refl _, Nat.le_refl _⟩) hS (fun H locs hW hS => ?_)
        refine lv_if_ne (tgt := 16) hx hb dX5_readDigits_11 (by decide) (fun c8 => ?_) (fun c8 => ?_)
        · have hf := i_f hf c8
          refine lv_aload_n hx hb dX5_readDigits_16 rfl (lv_at hl 0 rfl) ?_
          refine lv_dup hx hb dX5_readDigits_17 rfl ?_
          refine fg5_3 hB hW tl124 wd1_190 dX5_readDigits_18 ?_
          refine lv_iconst (v := (1 : Int32)) hx hb dX5_readDigits_21 (by decide) ?_
          refine lv_iadd hx hb dX5_readDigits_22 ?_
          refine fp5_3 hB hW hS tl124 wd1_190 dX5_readDigits_23 (fun H locs M9 eM9 hW hS => ?_)
          have hf := nm_o hf eM9
          obtain ⟨x10, ex10⟩ : ∃ y : Int32, y = x1 + (1 : Int32) := ⟨_, rfl⟩
          have hf := nm_o hf ex10
          refine lv_iinc (v := x10) (lv' := [(2, .int x10), (0, .ref (G.2.2.1 124)), (1, .int p1)]) hx hb dX5_readDigits_26 hl (k := 2) rfl (by rw [ex10]; rfl) (by decide) rfl (fun ls hl => ?_)
          refine lv_goto (tgt := 2) hx hb dX5_readDigits_29 (by decide) ?_
          exact ih x10 M9 _ _ ls hW hS (lv_sub hl [1, 2, 0] rfl) hf
        · have hf := i_t hf c8
          refine lv_iconst (v := (0 : Int32)) hx hb dX5_readDigits_14 (by decide) ?_
          exact e_z (by decide) hB hW hS hr hlk (s_1 hf) (s_2 hf) dX5_readDigits_15
  exact loop4 FU (0 : Int32) M _ _ ls hW hS (lv_sub hl [1, 2, 0] rfl) hf
theorem cl_RX5_45 {R : Room} {s : State} {args : Array Value} (ht : ∀ w ∈ lw_all, w.before args s = true) (hR : 0 + 1 ≤ R.frames ∧ 8 + (1 + 11) + 0 ≤ R.locals) : CallB R s args RX5 45 yX5_digitsBehind cX5_digitsBehind 1 (some .int) (wsq yX5_digitsBehind cX5_digitsBehind 1 (some .int)) (rmq 0 0) 0 0 1 ∧ (Cond.static yX5_digitsBehind).before args s = true := va_cwS 1 ht (goodS wd2_165 wd2_166 wd1_6 wd2_167) rfl rfl rfl (by decide +kernel) hR
theorem cl_RX5_49 {R : Room} {s : State} {args : Array Value} (ht : ∀ w ∈ lw_all, w.before args s = true) (hR : 3 + 1 ≤ R.frames ∧ 8 + (3 + 11) + 61 ≤ R.locals) : CallW R s args RX5 RX5 49 yX5_readLetters cX5_readLetters 3 (some .boolean) (wsq yX5_readLetters cX5_readLetters 3 (some .boolean)) (rmq 3 61) 0 0 1 := cwV 1 ht (goodV wd2_168 wd2_170 wsel_3 wd1_6 wd2_171) rfl rfl rfl (by decide +kernel) hR
theorem cl_RX5_53 {R : Room} {s : State} {args : Array Value} (ht : ∀ w ∈ lw_all, w.before args s = true) (hR : 3 + 1 ≤ R.frames ∧ 8 + (3 + 11) + 61 ≤ R.locals) : CallW R s args RX5 RX5 53 yX5_readDigits cX5_readDigits 3 (some .boolean) (wsq yX5_readDigits cX5_readDigits 3 (some .boolean)) (rmq 3 61) 0 0 1 := cwV 1 ht (goodV wd2_176 wd2_178 wsel_5 wd1_6 wd2_179) rfl rfl rfl (by decide +kernel) hR
def f_X5_readStatement (M : Mem) : Option (Int32 × Mem) := (bq1 (f_X5_here M) (fun (x1 : Int32) => bq1 (f_X5_digitsBehind x1) (fun (x3 : Int32) => (if 0 ≤ x3 then (nmq (si M 124 3 ((gi M 124 3) + (1 : Int32))) (fun (M6 : Mem) => (jq (fun (M7 : Mem) => (jq (fun (M10 : Mem) => (bq1 (f_X5_digitsBehind x1) (fun (x13 : Int32) => bq2 (f_X5_readDigits x13 M10) (fun (x15 : Int32) (M16 : Mem) => (if x15 = 0 then some ((0 : Int32), M16) else (bq1 (f_X5_here M16) (fun (x19 : Int32) => (if x19 = (59 : Int32) then (nmq (si M16 124 3 ((gi M16 124 3) + (1 : Int32))) (fun (M22 : Mem) => some ((1 : Int32), M22))) else some ((0 : Int32), M16))))))))) (fun (K12 : Mem → Option (Int32 × Mem)) => (if x1 = (112 : Int32) then (bq2 (f_X5_readLetters (3 : Int32) M7) (fun (x24 : Int32) (M25 : Mem) => (if x24 = 0 then some ((0 : Int32), M25) else (K12 M25)))) else (K12 M7))))) (fun (K9 : Mem → Option (Int32 × Mem)) => (if x1 = (119 : Int32) then (bq2 (f_X5_readLetters (12 : Int32) M6) (fun (x29 : Int32) (M30 : Mem) => (if x29 = 0 then some ((0 : Int32), M30) else (K9 M30)))) else (K9 M6)))))) else some ((0 : Int32), M)))))
set_option maxHeartbeats 4000000 in
set_option maxRecDepth 100000 in
theorem ct_X5_readStatement (l : Launch) (G : GG)  {M : Mem} {r : Int32} {Mr : Mem}  (hf : f_X5_readStatement M = some (r, Mr)) : Met l yX5_readStatement (wsq yX5_readStatement cX5_readStatement 2 (some .boolean)) (rmq 4 83) (va_Pc [.ref (G.2.2.1 124)] (World G M)) (Qi G r Mr) 0 0 (adA G) := by
  refine x_start (plainFor_of_name (by decide)) (Nat.le_of_ble_eq_true rfl) ?_
  intro p e s m args below meth c hB hr hlk hW hS ls hl
  have hx := hB.x
  have hb := hB.b
  have hl : lv_has ls 2 [(0, .ref (G.2.2.1 124))] := hl
  unfold f_X5_readStatement at hf
  refine lv_aload_n hx hb dX5_readStatement_0 rfl (lv_at hl 0 rfl) ?_
  obtain ⟨x1, hg2, hf⟩ := b_o1 hf
  refine x_ci hB (x_rv hB hW hS (As := []) (rest := []) (ct_X5_here l G hg2) (cl_RX5_41 hB.2.2.2.2.1 ⟨Nat.le_of_ble_eq_true rfl, Nat.le_of_ble_eq_true rfl⟩) tl124 (by decide) rfl rfl hl.1 rfl (Nat.le_of_ble_eq_true rfl) dX5_readStatement_1 ⟨Nat.le_refl _, Nat.le_refl _⟩) hS (fun H locs hW hS => ?_)
  refine lv_istore_n (lv' := [(1, .int x1), (0, .ref (G.2.2.1 124))]) hx hb dX5_readStatement_4 rfl hl (by decide) rfl (fun ls hl => ?_)
  refine lv_iload_n hx hb dX5_readStatement_5 rfl (lv_at hl 0 rfl) ?_
  obtain ⟨x3, hg4, hf⟩ := b_o1 hf
  refine x_ci hB (x_rs hB hW hS (As := [.int x1]) (rest := []) (ct_X5_digitsBehind l G hg4) (cl_RX5_45 hB.2.2.2.2.1 ⟨Nat.le_of_ble_eq_true rfl, Nat.le_of_ble_eq_true rfl⟩) rfl hl.1 rfl (Nat.le_of_ble_eq_true rfl) dX5_readStatement_6 ⟨Nat.le_refl _, Nat.le_refl _⟩) hS (fun H locs hW hS => ?_)
  refine lv_if_ge (tgt := 14) hx hb dX5_readStatement_9 (by decide) (fun c5 => ?_) (fun c5 => ?_)
  · have hf := i_t hf c5
    refine lv_aload_n hx hb dX5_readStatement_14 rfl (lv_at hl 1 rfl) ?_
    refine lv_dup hx hb dX5_readStatement_15 rfl ?_
    refine fg5_3 hB hW tl124 wd1_190 dX5_readStatement_16 ?_
    refine lv_iconst (v := (1 : Int32)) hx hb dX5_readStatement_19 (by decide) ?_
    refine lv_iadd hx hb dX5_readStatement_20 ?_
    refine fp5_3 hB hW hS tl124 wd1_190 dX5_readStatement_21 (fun H locs M6 eM6 hW hS => ?_)
    have hf := nm_o hf eM6
    refine lv_iload_n hx hb dX5_readStatement_24 rfl (lv_at hl 0 rfl) ?_
    refine lv_bipush (v := (119 : Int32)) hx hb dX5_readStatement_25 (by decide) ?_
    obtain ⟨K9, eK9, hf⟩ := j_o hf
    have main8 : ∀ (M7 : Mem) (H : Heap) (locs : List Loc) (ls : Array Slot), Wd G M7 H → va_S (adA G) s.heap H locs → lv_has ls 2 [(0, .ref (G.2.2.1 124)), (1, .int x1)] → K9 M7 = some (r, Mr) → W p l e (rmq 4 83) s m args below meth c H locs 0 0 (MQ below (Qi G r Mr) args s 0 0 (adA G)) (F0 m 41 ls []) := by
      intro M7 H locs ls hW hS hl hf
      subst eK9
      refine lv_iload_n hx hb dX5_readStatement_41 rfl (lv_at hl 1 rfl) ?_
      refine lv_bipush (v := (112 : Int32)) hx hb dX5_readStatement_42 (by decide) ?_
      obtain ⟨K12, eK12, hf⟩ := j_o hf
      have main11 : ∀ (M10 : Mem) (H : Heap) (locs : List Loc) (ls : Array Slot), Wd G M10 H → va_S (adA G) s.heap H locs → lv_has ls 2 [(0, .ref (G.2.2.1 124)), (1, .int x1)] → K12 M10 = some (r, Mr) → W p l e (rmq 4 83) s m args below meth c H locs 0 0 (MQ below (Qi G r Mr) args s 0 0 (adA G)) (F0 m 57 ls []) := by
        intro M10 H locs ls hW hS hl hf
        subst eK12
        refine lv_aload_n hx hb dX5_readStatement_57 rfl (lv_at hl 0 rfl) ?_
        refine lv_iload_n hx hb dX5_readStatement_58 rfl (lv_at hl 1 rfl) ?_
        obtain ⟨x13, hg14, hf⟩ := b_o1 hf
        refine x_ci hB (x_rs hB hW hS (As := [.int x1]) (rest := [.ref (G.2.2.1 124)]) (ct_X5_digitsBehind l G hg14) (cl_RX5_45 hB.2.2.2.2.1 ⟨Nat.le_of_ble_eq_true rfl, Nat.le_of_ble_eq_true rfl⟩) rfl hl.1 rfl (Nat.le_of_ble_eq_true rfl) dX5_readStatement_59 ⟨Nat.le_refl _, Nat.le_refl _⟩) hS (fun H locs hW hS => ?_)
        obtain ⟨x15, M16, hg17, hf⟩ := b_o2 hf
        refine x_ci hB (x_rv hB hW hS (As := [.int x13]) (rest := []) (ct_X5_readDigits l G hg17) (cl_RX5_53 hB.2.2.2.2.1 ⟨Nat.le_of_ble_eq_true rfl, Nat.le_of_ble_eq_true rfl⟩) tl124 (by decide) rfl rfl hl.1 rfl (Nat.le_of_ble_eq_true rfl) dX5_readStatement_62 ⟨Nat.le_refl _, Nat.le_refl _⟩) hS (fun H locs hW hS => ?_)
        refine lv_if_eq (tgt := 77) hx hb dX5_readStatement_65 (by decide) (fun c18 => ?_) (fun c18 => ?_)
        · have hf := i_t hf c18
          refine lv_iconst (v := (0 : Int32)) hx hb dX5_readStatement_77 (by decide) ?_
          exact e_z (by decide) hB hW hS hr hlk (s_1 hf) (s_2 hf) dX5_readStatement_78
        · have hf := i_f hf c18
          refine lv_aload_n hx hb dX5_readStatement_68 rfl (lv_at hl 0 rfl) ?_
          obtain ⟨x19, hg20, hf⟩ := b_o1 hf
          refine x_ci hB (x_rv hB hW hS (As := []) (rest := []) (ct_X5_here l G hg20) (cl_RX5_41 hB.2.2.2.2.1 ⟨Nat.le_of_ble_eq_true rfl, Nat.le_of_ble_eq_true rfl⟩) tl124 (by decide) rfl rfl hl.1 rfl (Nat.le_of_ble_eq_true rfl) dX5_readStatement_69 ⟨Nat.le_refl _, Nat.le_refl _⟩) hS (fun H locs hW hS => ?_)
          refine lv_bipush (v := (59 : Int32)) hx hb dX5_readStatement_72 (by decide) ?_
          refine lv_icmp_eq (tgt := 79) hx hb dX5_readStatement_74 (by decide) (fun c21 => ?_) (fun c21 => ?_)
          · have hf := i_t hf c21
            refine lv_aload_n hx hb dX5_readStatement_79 rfl (lv_at hl 0 rfl) ?_
            refine lv_dup hx hb dX5_readStatement_80 rfl ?_
            refine fg5_3 hB hW tl124 wd1_190 dX5_readStatement_81 ?_
            refine lv_iconst (v := (1 : Int32)) hx hb dX5_readStatement_84 (by decide) ?_
            refine lv_iadd hx hb dX5_readStatement_85 ?_
            refine fp5_3 hB hW hS tl124 wd1_190 dX5_readStatement_86 (fun H locs M22 eM22 hW hS => ?_)
            have hf := nm_o hf eM22
            refine lv_iconst (v := (1 : Int32)) hx hb dX5_readStatement_89 (by decide) ?_
            exact e_z (by decide) hB hW hS hr hlk (s_1 hf) (s_2 hf) dX5_readStatement_90
          · have hf := i_f hf c21
            refine lv_iconst (v := (0 : Int32)) hx hb dX5_readStatement_77 (by decide) ?_
            exact e_z (by decide) hB hW hS hr hlk (s_1 hf) (s_2 hf) dX5_readStatement_78
      refine lv_icmp_ne (tgt := 57) hx hb dX5_readStatement_44 (by decide) (fun c23 => ?_) (fun c23 => ?_)
      · have hf := i_f hf c23
        exact main11 M7 _ _ ls hW hS (lv_sub hl [0, 1] rfl) hf
      · have hf := i_t hf c23
        refine lv_aload_n hx hb dX5_readStatement_47 rfl (lv_at hl 0 rfl) ?_
        refine lv_iconst (v := (3 : Int32)) hx hb dX5_readStatement_48 (by decide) ?_
        obtain ⟨x24, M25, hg26, hf⟩ := b_o2 hf
        refine x_ci hB (x_rv hB hW hS (As := [.int (3 : Int32)]) (rest := []) (ct_X5_readLetters l G hg26) (cl_RX5_49 hB.2.2.2.2.1 ⟨Nat.le_of_ble_eq_true rfl, Nat.le_of_ble_eq_true rfl⟩) tl124 (by decide) rfl rfl hl.1 rfl (Nat.le_of_ble_eq_true rfl) dX5_readStatement_49 ⟨Nat.le_refl _, Nat.le_refl _⟩) hS (fun H locs hW hS => ?_)
        refine lv_if_ne (tgt := 57) hx hb dX5_readStatement_52 (by decide) (fun c27 => ?_) (fun c27 => ?_)
        · have hf := i_f hf c27
          exact main11 M25 _ _ ls hW hS (lv_sub hl [0, 1] rfl) hf
        · have hf := i_t hf c27
          refine lv_iconst (v := (0 : Int32)) hx hb dX5_readStatement_55 (by decide) ?_
          exact e_z (by decide) hB hW hS hr hlk (s_1 hf) (s_2 hf) dX5_readStatement_56
    refine lv_icmp_ne (tgt := 41) hx hb dX5_readStatement_27 (by decide) (fun c28 => ?_) (fun c28 => ?_)
    · have hf := i_f hf c28
      exact main8 M6 _ _ ls hW hS (lv_sub hl [1, 0] rfl) hf
    · have hf := i_t hf c28
      refine lv_aload_n hx hb dX5_readStatement_30 rfl (lv_at hl 1 rfl) ?_
      refine lv_bipush (v := (12 : Int32)) hx hb dX5_readStatement_31 (by decide) ?_
      obtain ⟨x29, M30, hg31, hf⟩ := b_o2 hf
      refine x_ci hB (x_rv hB hW hS (As := [.int (12 : Int32)]) (rest := []) (ct_X5_readLetters l G hg31) (cl_RX5_49 hB.2.2.2.2.1 ⟨Nat.le_of_ble_eq_true rfl, Nat.le_of_ble_eq_true rfl⟩) tl124 (by decide) rfl rfl hl.1 rfl (Nat.le_of_ble_eq_true rfl) dX5_readStatement_33 ⟨Nat.le_refl _, Nat.le_refl _⟩) hS (fun H locs hW hS => ?_)
      refine lv_if_ne (tgt := 41) hx hb dX5_readStatement_36 (by decide) (fun c32 => ?_) (fun c32 => ?_)
      · have hf := i_f hf c32
        exact main8 M30 _ _ ls hW hS (lv_sub hl [1, 0] rfl) hf
      · have hf := i_t hf c32
        refine lv_iconst (v := (0 : Int32)) hx hb dX5_readStatement_39 (by decide) ?_
        exact e_z (by decide) hB hW hS hr hlk (s_1 hf) (s_2 hf) dX5_readStatement_40
  · have hf := i_f hf c5
    refine lv_iconst (v := (0 : Int32)) hx hb dX5_readStatement_12 (by decide) ?_
    exact e_z (by decide) hB hW hS hr hlk (s_1 hf) (s_2 hf) dX5_readStatement_13
theorem cl_RX5_26 {R : Room} {s : State} {args : Array Value} (ht : ∀ w ∈ lw_all, w.before args s = true) (hR : 4 + 1 ≤ R.frames ∧ 8 + (2 + 11) + 83 ≤ R.locals) : CallW R s args RX5 RX5 26 yX5_readStatement cX5_readStatement 2 (some .boolean) (wsq yX5_readStatement cX5_readStatement 2 (some .boolean)) (rmq 4 83) 0 0 0 := cwV 0 ht (goodV wd2_156 wd2_158 wsel_1 wd1_6 wd2_159) rfl rfl rfl (by decide +kernel) hR
def f_X5_misspelt_L19  (K8 : Int32 → Mem → Option (Int32 × Mem)) (x6 : Int32) (M7 : Mem) : Option (Int32 × Mem) := (if (96 : Int32) ≤ x6 then some ((-1 : Int32), M7) else (if (gi M7 124 1) ≤ (gi M7 124 3) then some ((-1 : Int32), M7) else (bq2 (f_X5_readStatement M7) (fun (x12 : Int32) (M13 : Mem) => (if x12 = 0 then some ((gi M13 124 3), M13) else (nmq (x6 + (1 : Int32)) (fun (x16 : Int32) => (K8 x16 M13))))))))
def f_X5_misspelt (M : Mem) : Option (Int32 × Mem) := (nmq (si M 124 3 (0 : Int32)) (fun (M1 : Mem) => bq2 (f_X5_readStatement M1) (fun (x2 : Int32) (M3 : Mem) => (if x2 = 0 then some ((gi M3 124 3), M3) else (lq2 f_X5_misspelt_L19 FU (1 : Int32) M3)))))
set_option maxHeartbeats 4000000 in
set_option maxRecDepth 100000 in
theorem ct_X5_misspelt (l : Launch) (G : GG)  {M : Mem} {r : Int32} {Mr : Mem}  (hf : f_X5_misspelt M = some (r, Mr)) : Met l yX5_misspelt (wsq yX5_misspelt cX5_misspelt 2 (some .int)) (rmq 5 104) (va_Pc [.ref (G.2.2.1 124)] (World G M)) (Qi G r Mr) 0 0 (adA G) := by
  refine x_start (plainFor_of_name (by decide)) (Nat.le_of_ble_eq_true rfl) ?_
  intro p e s m args below meth c hB hr hlk hW hS ls hl
  have hx := hB.x
  have hb := hB.b
  have hl : lv_has ls 2 [(0, .ref (G.2.2.1 124))] := hl
  unfold f_X5_misspelt at hf
  refine lv_aload_n hx hb dX5_misspelt_0 rfl (lv_at hl 0 rfl) ?_
  refine lv_iconst (v := (0 : Int32)) hx hb dX5_misspelt_1 (by decide) ?_
  refine fp5_3 hB hW hS tl124 wd1_190 dX5_misspelt_2 (fun H locs M1 eM1 hW hS => ?_)
  have hf := nm_o hf eM1
  refine lv_aload_n hx hb dX5_misspelt_5 rfl (lv_at hl 0 rfl) ?_
  obtain ⟨x2, M3, hg4, hf⟩ := b_o2 hf
  refine x_ci hB (x_rv hB hW hS (As := []) (rest := []) (ct_X5_readStatement l G hg4) (cl_RX5_26 hB.2.2.2.2.1 ⟨Nat.le_of_ble_eq_true rfl, Nat.le_of_ble_eq_true rfl⟩) tl124 (by decide) rfl rfl hl.1 rfl (Nat.le_of_ble_eq_true rfl) dX5_misspelt_6 ⟨Nat.le_refl _, Nat.le_refl _⟩) hS (fun H locs hW hS => ?_)
  refine lv_if_ne (tgt := 17) hx hb dX5_misspelt_9 (by decide) (fun c5 => ?_) (fun c5 => ?_)
  · have hf := i_f hf c5
    refine lv_iconst (v := (1 : Int32)) hx hb dX5_misspelt_17 (by decide) ?_
    refine lv_istore_n (lv' := [(1, .int (1 : Int32)), (0, .ref (G.2.2.1 124))]) hx hb dX5_misspelt_18 rfl hl (by decide) rfl (fun ls hl => ?_)
    have loop9 : ∀ (n : Nat) (x6 : Int32) (M7 : Mem) (H : Heap) (locs : List Loc) (ls : Array Slot), Wd G M7 H → va_S (adA G) s.heap H locs → lv_has ls 2 [(0, .ref (G.2.2.1 124)), (1, .int x6)] → lq2 f_X5_misspelt_L19 n x6 M7 = some (r, Mr) → W p l e (rmq 5 104) s m args below meth c H locs 0 0 (MQ below (Qi G r Mr) args s 0 0 (adA G)) (F0 m 19 ls []) := by
      intro n
      induction n with
      | zero => intro x6 M7 H locs ls hW hS hl hf; exact (l_z2 hf).elim
      | succ n ih =>
        intro x6 M7 H locs ls hW hS hl hf
        have hf := l_s2 hf
        generalize lq2 f_X5_misspelt_L19 n = K8 at ih hf
        unfold f_X5_misspelt_L19 at hf
        refine lv_iload_n hx hb dX5_misspelt_19 rfl (lv_at hl 1 rfl) ?_
        refine lv_bipush (v := (96 : Int32)) hx hb dX5_misspelt_20 (by decide) ?_
        refine lv_icmp_ge (tgt := 54) hx hb dX5_misspelt_22 (by decide) (fun c10 => ?_) (fun c10 => ?_)
        · have hf := i_t hf c10
          refine lv_iconst (v := (-1 : Int32)) hx hb dX5_misspelt_54 (by decide) ?_
          exact e_i hB hW hS hr hlk (s_1 hf) (s_2 hf) dX5_misspelt_55
        · have hf := i_f hf c10
          refine lv_aload_n hx hb dX5_misspelt_25 rfl (lv_at hl 0 rfl) ?_
          refine fg5_3 hB hW tl124 wd1_190 dX5_misspelt_26 ?_
          refine lv_aload_n hx hb dX5_misspelt_29 rfl (lv_at hl 0 rfl) ?_
          refine fg5_1 hB hW tl124 wd1_186 dX5_misspelt_30 ?_
          refine lv_icmp_ge (tgt := 54) hx hb dX5_misspelt_33 (by decide) (fun c11 => ?_) (fun c11 => ?_)
          · have hf := i_t hf c11
            refine lv_iconst (v := (-1 : Int32)) hx hb dX5_misspelt_54 (by decide) ?_
            exact e_i hB hW hS hr hlk (s_1 hf) (s_2 hf) dX5_misspelt_55
          · have hf := i_f hf c11
            refine lv_aload_n hx hb dX5_misspelt_36 rfl (lv_at hl 0 rfl) ?_
            obtain ⟨x12, M13, hg14, hf⟩ := b_o2 hf
            refine x_ci hB (x_rv hB hW hS (As := []) (rest := []) (ct_X5_readStatement l G hg14) (cl_RX5_26 hB.2.2.2.2.1 ⟨Nat.le_of_ble_eq_true rfl, Nat.le_of_ble_eq_true rfl⟩) tl124 (by decide) rfl rfl hl.1 rfl (Nat.le_of_ble_eq_true rfl) dX5_misspelt_37 ⟨Nat.le_refl _, Nat.le_refl _⟩) hS (fun H locs hW hS => ?_)
            refine lv_if_ne (tgt := 48) hx hb dX5_misspelt_40 (by decide) (fun c15 => ?_) (fun c15 => ?_)
            · have hf := i_f hf c15
              obtain ⟨x16, ex16⟩ : ∃ y : Int32, y = x6 + (1 : Int32) := ⟨_, rfl⟩
              have hf := nm_o hf ex16
              refine lv_iinc (v := x16) (lv' := [(1, .int x16), (0, .ref (G.2.2.1 124))]) hx hb dX5_misspelt_48 hl (k := 1) rfl (by rw [ex16]; rfl) (by decide) rfl (fun ls hl => ?_)
              refine lv_goto (tgt := 19) hx hb dX5_misspelt_51 (by decide) ?_
              exact ih x16 M13 _ _ ls hW hS (lv_sub hl [1, 0] rfl) hf
            · have hf := i_t hf c15
              refine lv_aload_n hx hb dX5_misspelt_43 rfl (lv_at hl 0 rfl) ?_
              refine fg5_3 hB hW tl124 wd1_190 dX5_misspelt_44 ?_
              exact e_i hB hW hS hr hlk (s_1 hf) (s_2 hf) dX5_misspelt_47
    exact loop9 FU (1 : Int32) M3 _ _ ls hW hS (lv_sub hl [1, 0] rfl) hf
  · have hf := i_t hf c5
    refine lv_aload_n hx hb dX5_misspelt_12 rfl (lv_at hl 0 rfl) ?_
    refine fg5_3 hB hW tl124 wd1_190 dX5_misspelt_13 ?_
    exact e_i hB hW hS hr hlk (s_1 hf) (s_2 hf) dX5_misspelt_16
def f_J9_min_7cf53 (p1 : Int32) (p2 : Int32) : Option Int32 := (if p2 < p1 then some p2 else some p1)
set_option maxHeartbeats 4000000 in
set_option maxRecDepth 100000 in
theorem ct_J9_min_7cf53 (l : Launch) (G : GG) {p1 : Int32} {p2 : Int32} {M : Mem} {r : Int32}  (hf : f_J9_min_7cf53 p1 p2 = some r) : Met l yJ9_min_7cf53 (wsq yJ9_min_7cf53 cJ9_min_7cf53 2 (some .int)) (rmq 0 0) (va_Pc [.int p1, .int p2] (World G M)) (Qi G r M) 0 0 (adA G) := by
  refine x_start (by decide +kernel) (Nat.le_of_ble_eq_true rfl) ?_
  intro p e s m args below meth c hB hr hlk hW hS ls hl
  have hx := hB.x
  have hb := hB.b
  have hl : lv_has ls 2 [(0, .int p1), (1, .int p2)] := hl
  unfold f_J9_min_7cf53 at hf
  refine lv_iload_n hx hb dJ9_min_7cf53_0 rfl (lv_at hl 0 rfl) ?_
  refine lv_iload_n hx hb dJ9_min_7cf53_1 rfl (lv_at hl 1 rfl) ?_
  refine lv_icmp_gt (tgt := 9) hx hb dJ9_min_7cf53_2 (by decide) (fun c1 => ?_) (fun c1 => ?_)
  · have hf := i_t hf c1
    refine lv_iload_n hx hb dJ9_min_7cf53_9 rfl (lv_at hl 1 rfl) ?_
    exact e_i hB hW hS hr hlk (Option.some.inj hf) rfl dJ9_min_7cf53_10
  · have hf := i_f hf c1
    refine lv_iload_n hx hb dJ9_min_7cf53_5 rfl (lv_at hl 0 rfl) ?_
    refine lv_goto (tgt := 10) hx hb dJ9_min_7cf53_6 (by decide) ?_
    exact e_i hB hW hS hr hlk (Option.some.inj hf) rfl dJ9_min_7cf53_10
theorem cl_RX8_321 {R : Room} {s : State} {args : Array Value} (ht : ∀ w ∈ lw_all, w.before args s = true) (hR : 0 + 1 ≤ R.frames ∧ 8 + (2 + 11) + 0 ≤ R.locals) : CallB R s args RX8 321 yJ9_min_7cf53 cJ9_min_7cf53 2 (some .int) (wsq yJ9_min_7cf53 cJ9_min_7cf53 2 (some .int)) (rmq 0 0) 0 0 2 ∧ (Cond.static yJ9_min_7cf53).before args s = true := va_cwS 2 ht (goodS wd2_191 wd2_192 wd1_11 wd2_193) rfl rfl rfl (by decide +kernel) hR
def f_X8_copyInts (k1 : Nat) (k2 : Nat) (M : Mem) : Option Mem := (bq1 (f_J9_min_7cf53 (Int32.ofNat (alen k1)) (Int32.ofNat (alen k2))) (fun (x1 : Int32) => gq (cpB (0 : Int32) (0 : Int32) x1 (alen k1) (alen k2)) (nmq (sri M k2 (va_cpy (gi M k1) (gi M k2) ((0 : Int32) : Int32).toNatClampNeg ((0 : Int32) : Int32).toNatClampNeg (x1 : Int32).toNatClampNeg)) (fun (M4 : Mem) => some M4))))
set_option maxHeartbeats 4000000 in
set_option maxRecDepth 100000 in
theorem ct_X8_copyInts (l : Launch) (G : GG) {k1 : Nat} {k2 : Nat} {M : Mem} {Mr : Mem} (hk1 : isT 10 k1) (hk2 : isT 10 k2) (hf : f_X8_copyInts k1 k2 M = some Mr) : Met l yX8_copyInts (wsq yX8_copyInts cX8_copyInts 2 none) (rmq 1 21) (va_Pc [.ref (G.2.2.1 k1), .ref (G.2.2.1 k2)] (World G M)) (Qv G Mr) 0 0 (adA G) := by
  refine x_start (plainFor_of_name (by decide)) (Nat.le_of_ble_eq_true rfl) ?_
  intro p e s m args below meth c hB hr hlk hW hS ls hl
  have hx := hB.x
  have hb := hB.b
  have hl : lv_has ls 2 [(0, .ref (G.2.2.1 k1)), (1, .ref (G.2.2.1 k2))] := hl
  unfold f_X8_copyInts at hf
  refine lv_aload_n hx hb dX8_copyInts_0 rfl (lv_at hl 0 rfl) ?_
  refine lv_iconst (v := (0 : Int32)) hx hb dX8_copyInts_1 (by decide) ?_
  refine lv_aload_n hx hb dX8_copyInts_2 rfl (lv_at hl 1 rfl) ?_
  refine lv_iconst (v := (0 : Int32)) hx hb dX8_copyInts_3 (by decide) ?_
  refine lv_aload_n hx hb dX8_copyInts_4 rfl (lv_at hl 0 rfl) ?_
  refine x_alen hB hW hk1 (by decide) rfl (v := (Int32.ofNat (alen k1))) rfl dX8_copyInts_5 ?_
  refine lv_aload_n hx hb dX8_copyInts_6 rfl (lv_at hl 1 rfl) ?_
  refine x_alen hB hW hk2 (by decide) rfl (v := (Int32.ofNat (alen k2))) rfl dX8_copyInts_7 ?_
  obtain ⟨x1, hg2, hf⟩ := b_o1 hf
  refine x_ci hB (x_rs hB hW hS (As := [.int (Int32.ofNat (alen k1)), .int (Int32.ofNat (alen k2))]) (rest := [.int (0 : Int32), .ref (G.2.2.1 k2), .int (0 : Int32), .ref (G.2.2.1 k1)]) (ct_J9_min_7cf53 l G hg2) (cl_RX8_321 hB.2.2.2.2.1 ⟨Nat.le_of_ble_eq_true rfl, Nat.le_of_ble_eq_true rfl⟩) rfl hl.1 rfl (Nat.le_of_ble_eq_true rfl) dX8_copyInts_8 ⟨Nat.le_refl _, Nat.le_refl _⟩) hS (fun H locs hW hS => ?_)
  obtain ⟨h3, hf⟩ := g_o hf
  refine x_copyi hB hW hS hk1 rfl hk2 rfl h3 hl.1 wd2_194 (Nat.le_of_ble_eq_true rfl) (Nat.le_of_ble_eq_true rfl) dX8_copyInts_11 (fun H locs M4 eM4 hW hS => ?_)
  have hf := nm_o hf eM4
  exact e_v hB hW hS hr hlk (Option.some.inj hf) dX8_copyInts_14
def f_X8_copyLongs (k1 : Nat) (k2 : Nat) (M : Mem) : Option Mem := (bq1 (f_J9_min_7cf53 (Int32.ofNat (alen k1)) (Int32.ofNat (alen k2))) (fun (x1 : Int32) => gq (cpB (0 : Int32) (0 : Int32) x1 (alen k1) (alen k2)) (nmq (srl M k2 (va_cpy (gl M k1) (gl M k2) ((0 : Int32) : Int32).toNatClampNeg ((0 : Int32) : Int32).toNatClampNeg (x1 : Int32).toNatClampNeg)) (fun (M4 : Mem) => some M4))))
set_option maxHeartbeats 4000000 in
set_option maxRecDepth 100000 in
theorem ct_X8_copyLongs (l : Launch) (G : GG) {k1 : Nat} {k2 : Nat} {M : Mem} {Mr : Mem} (hk1 : isT 11 k1) (hk2 : isT 11 k2) (hf : f_X8_copyLongs k1 k2 M = some Mr) : Met l yX8_copyLongs (wsq yX8_copyLongs cX8_copyLongs 2 none) (rmq 1 21) (va_Pc [.ref (G.2.2.1 k1), .ref (G.2.2.1 k2)] (World G M)) (Qv G Mr) 0 0 (adA G) := by
  refine x_start (plainFor_of_name (by decide)) (Nat.le_of_ble_eq_true rfl) ?_
  intro p e s m args below meth c hB hr hlk hW hS ls hl
  have hx := hB.x
  have hb := hB.b
  have hl : lv_has ls 2 [(0, .ref (G.2.2.1 k1)), (1, .ref (G.2.2.1 k2))] := hl
  unfold f_X8_copyLongs at hf
  refine lv_aload_n hx hb dX8_copyLongs_0 rfl (lv_at hl 0 rfl) ?_
  refine lv_iconst (v := (0 : Int32)) hx hb dX8_copyLongs_1 (by decide) ?_
  refine lv_aload_n hx hb dX8_copyLongs_2 rfl (lv_at hl 1 rfl) ?_
  refine lv_iconst (v := (0 : Int32)) hx hb dX8_copyLongs_3 (by decide) ?_
  refine lv_aload_n hx hb dX8_copyLongs_4 rfl (lv_at hl 0 rfl) ?_
  refine x_alen hB hW hk1 (by decide) rfl (v := (Int32.ofNat (alen k1))) rfl dX8_copyLongs_5 ?_
  refine lv_aload_n hx hb dX8_copyLongs_6 rfl (lv_at hl 1 rfl) ?_
  refine x_alen hB hW hk2 (by decide) rfl (v := (Int32.ofNat (alen k2))) rfl dX8_copyLongs_7 ?_
  obtain ⟨x1, hg2, hf⟩ := b_o1 hf
  refine x_ci hB (x_rs hB hW hS (As := [.int (Int32.ofNat (alen k1)), .int (Int32.ofNat (alen k2))]) (rest := [.int (0 : Int32), .ref (G.2.2.1 k2), .int (0 : Int32), .ref (G.2.2.1 k1)]) (ct_J9_min_7cf53 l G hg2) (cl_RX8_321 hB.2.2.2.2.1 ⟨Nat.le_of_ble_eq_true rfl, Nat.le_of_ble_eq_true rfl⟩) rfl hl.1 rfl (Nat.le_of_ble_eq_true rfl) dX8_copyLongs_8 ⟨Nat.le_refl _, Nat.le_refl _⟩) hS (fun H locs hW hS => ?_)
  obtain ⟨h3, hf⟩ := g_o hf
  refine x_copyl hB hW hS hk1 rfl hk2 rfl h3 hl.1 wd2_194 (Nat.le_of_ble_eq_true rfl) (Nat.le_of_ble_eq_true rfl) dX8_copyLongs_11 (fun H locs M4 eM4 hW hS => ?_)
  have hf := nm_o hf eM4
  exact e_v hB hW hS hr hlk (Option.some.inj hf) dX8_copyLongs_14
theorem cl_RX7_22 {R : Room} {s : State} {args : Array Value} (hN : Nst s) (ht : ∀ w ∈ lw_all, w.before args s = true) (hR : 1 + 1 ≤ R.frames ∧ 8 + (2 + 11) + 21 ≤ R.locals) : va_CN R s args RX7 22 yX8_copyLongs "LinesOfFragments" cX8_copyLongs 2 none (wsq yX8_copyLongs cX8_copyLongs 2 none) (rmq 1 21) 0 0 2 ∧ (Cond.static yX8_copyLongs).before args s = true ∧ True := ⟨va_cnB 2 ht (goodC wd2_203) rfl rfl rfl (hN _ (List.mem_of_getElem? (l := nestL) (i := 3) rfl)) (ht _ wd1_1) (by decide +kernel) hR, ht _ wd2_202, trivial⟩
theorem cl_RX7_26 {R : Room} {s : State} {args : Array Value} (hN : Nst s) (ht : ∀ w ∈ lw_all, w.before args s = true) (hR : 1 + 1 ≤ R.frames ∧ 8 + (2 + 11) + 21 ≤ R.locals) : va_CN R s args RX7 26 yX8_copyInts "LinesOfFragments" cX8_copyInts 2 none (wsq yX8_copyInts cX8_copyInts 2 none) (rmq 1 21) 0 0 2 ∧ (Cond.static yX8_copyInts).before args s = true ∧ True := ⟨va_cnB 2 ht (goodC wd2_190) rfl rfl rfl (hN _ (List.mem_of_getElem? (l := nestL) (i := 4) rfl)) (ht _ wd1_1) (by decide +kernel) hR, ht _ wd2_189, trivial⟩
def f_X7_become (k0 : Nat) (k1 : Nat) (M : Mem) : Option Mem := (bq1 (f_X8_copyLongs (k1 + 1) (k0 + 1) M) (fun (M1 : Mem) => bq1 (f_X8_copyInts (k1 + 2) (k0 + 2) M1) (fun (M3 : Mem) => bq1 (f_X8_copyInts (k1 + 3) (k0 + 3) M3) (fun (M5 : Mem) => nmq (si M5 k0 3 (gi M5 k1 3)) (fun (M7 : Mem) => some M7)))))
set_option maxHeartbeats 4000000 in
set_option maxRecDepth 100000 in
theorem ct_X7_become (l : Launch) (G : GG) {k0 : Nat} {k1 : Nat} {M : Mem} {Mr : Mem} (hk0 : isT 7 k0) (hk1 : isT 7 k1) (hf : f_X7_become k0 k1 M = some Mr) : Met l yX7_become (wsq yX7_become cX7_become 2 none) (rmq 2 42) (va_Pc [.ref (G.2.2.1 k0), .ref (G.2.2.1 k1)] (World G M)) (Qv G Mr) 0 0 (adA G) := by
  refine x_start (plainFor_of_name (by decide)) (Nat.le_of_ble_eq_true rfl) ?_
  intro p e s m args below meth c hB hr hlk hW hS ls hl
  have hx := hB.x
  have hb := hB.b
  have hl : lv_has ls 2 [(0, .ref (G.2.2.1 k0)), (1, .ref (G.2.2.1 k1))] := hl
  unfold f_X7_become at hf
  refine lv_aload_n hx hb dX7_become_0 rfl (lv_at hl 1 rfl) ?_
  refine fg7_0 hB hW hk1 wd1_46 dX7_become_1 ?_
  refine lv_aload_n hx hb dX7_become_4 rfl (lv_at hl 0 rfl) ?_
  refine fg7_0 hB hW hk0 wd1_46 dX7_become_5 ?_
  obtain ⟨M1, hg2, hf⟩ := b_o1 hf
  refine x_cv hB (x_rn hB hW hS (As := [.ref (G.2.2.1 (k1 + 1)), .ref (G.2.2.1 (k0 + 1))]) (rest := []) (ct_X8_copyLongs l G (rf7_0 hk1) (rf7_0 hk0) hg2) (cl_RX7_22 hB.nst hB.2.2.2.2.1 ⟨Nat.le_of_ble_eq_true rfl, Nat.le_of_ble_eq_true rfl⟩) rfl hl.1 rfl (Nat.le_of_ble_eq_true rfl) dX7_become_8 ⟨Nat.le_refl _, Nat.le_refl _⟩) hS (fun H locs hW hS => ?_)
  refine lv_aload_n hx hb dX7_become_11 rfl (lv_at hl 1 rfl) ?_
  refine fg7_1 hB hW hk1 wd1_47 dX7_become_12 ?_
  refine lv_aload_n hx hb dX7_become_15 rfl (lv_at hl 0 rfl) ?_
  refine fg7_1 hB hW hk0 wd1_47 dX7_become_16 ?_
  obtain ⟨M3, hg4, hf⟩ := b_o1 hf
  refine x_cv hB (x_rn hB hW hS (As := [.ref (G.2.2.1 (k1 + 2)), .ref (G.2.2.1 (k0 + 2))]) (rest := []) (ct_X8_copyInts l G (rf7_1 hk1) (rf7_1 hk0) hg4) (cl_RX7_26 hB.nst hB.2.2.2.2.1 ⟨Nat.le_of_ble_eq_true rfl, Nat.le_of_ble_eq_true rfl⟩) rfl hl.1 rfl (Nat.le_of_ble_eq_true rfl) dX7_become_19 ⟨Nat.le_refl _, Nat.le_refl _⟩) hS (fun H locs hW hS => ?_)
  refine lv_aload_n hx hb dX7_become_22 rfl (lv_at hl 1 rfl) ?_
  refine fg7_2 hB hW hk1 wd1_48 dX7_become_23 ?_
  refine lv_aload_n hx hb dX7_become_26 rfl (lv_at hl 0 rfl) ?_
  refine fg7_2 hB hW hk0 wd1_48 dX7_become_27 ?_
  obtain ⟨M5, hg6, hf⟩ := b_o1 hf
  refine x_cv hB (x_rn hB hW hS (As := [.ref (G.2.2.1 (k1 + 3)), .ref (G.2.2.1 (k0 + 3))]) (rest := []) (ct_X8_copyInts l G (rf7_2 hk1) (rf7_2 hk0) hg6) (cl_RX7_26 hB.nst hB.2.2.2.2.1 ⟨Nat.le_of_ble_eq_true rfl, Nat.le_of_ble_eq_true rfl⟩) rfl hl.1 rfl (Nat.le_of_ble_eq_true rfl) dX7_become_30 ⟨Nat.le_refl _, Nat.le_refl _⟩) hS (fun H locs hW hS => ?_)
  refine lv_aload_n hx hb dX7_become_33 rfl (lv_at hl 0 rfl) ?_
  refine lv_aload_n hx hb dX7_become_34 rfl (lv_at hl 1 rfl) ?_
  refine fg7_3 hB hW hk1 wd1_50 dX7_become_35 ?_
  refine fp7_3 hB hW hS hk0 wd1_50 dX7_become_38 (fun H locs M7 eM7 hW hS => ?_)
  have hf := nm_o hf eM7
  exact e_v hB hW hS hr hlk (Option.some.inj hf) dX7_become_41
theorem cl_RX4_25 {R : Room} {s : State} {args : Array Value} (hN : Nst s) (ht : ∀ w ∈ lw_all, w.before args s = true) (hR : 1 + 1 ≤ R.frames ∧ 8 + (2 + 11) + 21 ≤ R.locals) : va_CN R s args RX4 25 yX8_copyLongs "LinesOfFragments" cX8_copyLongs 2 none (wsq yX8_copyLongs cX8_copyLongs 2 none) (rmq 1 21) 0 0 2 ∧ (Cond.static yX8_copyLongs).before args s = true ∧ True := ⟨va_cnB 2 ht (goodC wd2_203) rfl rfl rfl (hN _ (List.mem_of_getElem? (l := nestL) (i := 5) rfl)) (ht _ wd1_1) (by decide +kernel) hR, ht _ wd2_202, trivial⟩
theorem cl_RX4_29 {R : Room} {s : State} {args : Array Value} (hN : Nst s) (ht : ∀ w ∈ lw_all, w.before args s = true) (hR : 1 + 1 ≤ R.frames ∧ 8 + (2 + 11) + 21 ≤ R.locals) : va_CN R s args RX4 29 yX8_copyInts "LinesOfFragments" cX8_copyInts 2 none (wsq yX8_copyInts cX8_copyInts 2 none) (rmq 1 21) 0 0 2 ∧ (Cond.static yX8_copyInts).before args s = true ∧ True := ⟨va_cnB 2 ht (goodC wd2_190) rfl rfl rfl (hN _ (List.mem_of_getElem? (l := nestL) (i := 6) rfl)) (ht _ wd1_1) (by decide +kernel) hR, ht _ wd2_189, trivial⟩
def f_X4_become (k0 : Nat) (k1 : Nat) (M : Mem) : Option Mem := (bq1 (f_X8_copyLongs (k1 + 1) (k0 + 1) M) (fun (M1 : Mem) => bq1 (f_X8_copyInts (k1 + 2) (k0 + 2) M1) (fun (M3 : Mem) => bq1 (f_X8_copyInts (k1 + 3) (k0 + 3) M3) (fun (M5 : Mem) => bq1 (f_X8_copyInts (k1 + 4) (k0 + 4) M5) (fun (M7 : Mem) => nmq (si M7 k0 4 (gi M7 k1 4)) (fun (M9 : Mem) => some M9))))))
set_option maxHeartbeats 4000000 in
set_option maxRecDepth 100000 in
theorem ct_X4_become (l : Launch) (G : GG) {k0 : Nat} {k1 : Nat} {M : Mem} {Mr : Mem} (hk0 : isT 4 k0) (hk1 : isT 4 k1) (hf : f_X4_become k0 k1 M = some Mr) : Met l yX4_become (wsq yX4_become cX4_become 2 none) (rmq 2 42) (va_Pc [.ref (G.2.2.1 k0), .ref (G.2.2.1 k1)] (World G M)) (Qv G Mr) 0 0 (adA G) := by
  refine x_start (plainFor_of_name (by decide)) (Nat.le_of_ble_eq_true rfl) ?_
  intro p e s m args below meth c hB hr hlk hW hS ls hl
  have hx := hB.x
  have hb := hB.b
  have hl : lv_has ls 2 [(0, .ref (G.2.2.1 k0)), (1, .ref (G.2.2.1 k1))] := hl
  unfold f_X4_become at hf
  refine lv_aload_n hx hb dX4_become_0 rfl (lv_at hl 1 rfl) ?_
  refine fg4_0 hB hW hk1 wd1_70 dX4_become_1 ?_
  refine lv_aload_n hx hb dX4_become_4 rfl (lv_at hl 0 rfl) ?_
  refine fg4_0 hB hW hk0 wd1_70 dX4_become_5 ?_
  obtain ⟨M1, hg2, hf⟩ := b_o1 hf
  refine x_cv hB (x_rn hB hW hS (As := [.ref (G.2.2.1 (k1 + 1)), .ref (G.2.2.1 (k0 + 1))]) (rest := []) (ct_X8_copyLongs l G (rf4_0 hk1) (rf4_0 hk0) hg2) (cl_RX4_25 hB.nst hB.2.2.2.2.1 ⟨Nat.le_of_ble_eq_true rfl, Nat.le_of_ble_eq_true rfl⟩) rfl hl.1 rfl (Nat.le_of_ble_eq_true rfl) dX4_become_8 ⟨Nat.le_refl _, Nat.le_refl _⟩) hS (fun H locs hW hS => ?_)
  refine lv_aload_n hx hb dX4_become_11 rfl (lv_at hl 1 rfl) ?_
  refine fg4_1 hB hW hk1 wd1_71 dX4_become_12 ?_
  refine lv_aload_n hx hb dX4_become_15 rfl (lv_at hl 0 rfl) ?_
  refine fg4_1 hB hW hk0 wd1_71 dX4_become_16 ?_
  obtain ⟨M3, hg4, hf⟩ := b_o1 hf
  refine x_cv hB (x_rn hB hW hS (As := [.ref (G.2.2.1 (k1 + 2)), .ref (G.2.2.1 (k0 + 2))]) (rest := []) (ct_X8_copyInts l G (rf4_1 hk1) (rf4_1 hk0) hg4) (cl_RX4_29 hB.nst hB.2.2.2.2.1 ⟨Nat.le_of_ble_eq_true rfl, Nat.le_of_ble_eq_true rfl⟩) rfl hl.1 rfl (Nat.le_of_ble_eq_true rfl) dX4_become_19 ⟨Nat.le_refl _, Nat.le_refl _⟩) hS (fun H locs hW hS => ?_)
  refine lv_aload_n hx hb dX4_become_22 rfl (lv_at hl 1 rfl) ?_
  refine fg4_2 hB hW hk1 wd1_73 dX4_become_23 ?_
  refine lv_aload_n hx hb dX4_become_26 rfl (lv_at hl 0 rfl) ?_
  refine fg4_2 hB hW hk0 wd1_73 dX4_become_27 ?_
  obtain ⟨M5, hg6, hf⟩ := b_o1 hf
  refine x_cv hB (x_rn hB hW hS (As := [.ref (G.2.2.1 (k1 + 3)), .ref (G.2.2.1 (k0 + 3))]) (rest := []) (ct_X8_copyInts l G (rf4_2 hk1) (rf4_2 hk0) hg6) (cl_RX4_29 hB.nst hB.2.2.2.2.1 ⟨Nat.le_of_ble_eq_true rfl, Nat.le_of_ble_eq_true rfl⟩) rfl hl.1 rfl (Nat.le_of_ble_eq_true rfl) dX4_become_30 ⟨Nat.le_refl _, Nat.le_refl _⟩) hS (fun H locs hW hS => ?_)
  refine lv_aload_n hx hb dX4_become_33 rfl (lv_at hl 1 rfl) ?_
  refine fg4_3 hB hW hk1 wd1_75 dX4_become_34 ?_
  refine lv_aload_n hx hb dX4_become_37 rfl (lv_at hl 0 rfl) ?_
  refine fg4_3 hB hW hk0 wd1_75 dX4_become_38 ?_
  obtain ⟨M7, hg8, hf⟩ := b_o1 hf
  refine x_cv hB (x_rn hB hW hS (As := [.ref (G.2.2.1 (k1 + 4)), .ref (G.2.2.1 (k0 + 4))]) (rest := []) (ct_X8_copyInts l G (rf4_3 hk1) (rf4_3 hk0) hg8) (cl_RX4_29 hB.nst hB.2.2.2.2.1 ⟨Nat.le_of_ble_eq_true rfl, Nat.le_of_ble_eq_true rfl⟩) rfl hl.1 rfl (Nat.le_of_ble_eq_true rfl) dX4_become_41 ⟨Nat.le_refl _, Nat.le_refl _⟩) hS (fun H locs hW hS => ?_)
  refine lv_aload_n hx hb dX4_become_44 rfl (lv_at hl 0 rfl) ?_
  refine lv_aload_n hx hb dX4_become_45 rfl (lv_at hl 1 rfl) ?_
  refine fg4_4 hB hW hk1 wd1_77 dX4_become_46 ?_
  refine fp4_4 hB hW hS hk0 wd1_77 dX4_become_49 (fun H locs M9 eM9 hW hS => ?_)
  have hf := nm_o hf eM9
  exact e_v hB hW hS hr hlk (Option.some.inj hf) dX4_become_52
def f_X3_takeGlue (k0 : Nat) (p1 : Int32) (p2 : Int32) (p3 : Int32) (M : Mem) : Option Mem := (nmq (si M k0 4 p1) (fun (M1 : Mem) => nmq (si M1 k0 5 p2) (fun (M2 : Mem) => nmq (si M2 k0 6 p3) (fun (M3 : Mem) => some M3))))
set_option maxHeartbeats 4000000 in
set_option maxRecDepth 100000 in
theorem ct_X3_takeGlue (l : Launch) (G : GG) {k0 : Nat} {p1 : Int32} {p2 : Int32} {p3 : Int32} {M : Mem} {Mr : Mem} (hk0 : isT 3 k0) (hf : f_X3_takeGlue k0 p1 p2 p3 M = some Mr) : Met l yX3_takeGlue (wsq yX3_takeGlue cX3_takeGlue 4 none) (rmq 0 0) (va_Pc [.ref (G.2.2.1 k0), .int p1, .int p2, .int p3] (World G M)) (Qv G Mr) 0 0 (adA G) := by
  refine x_start (plainFor_of_name (by decide)) (Nat.le_of_ble_eq_true rfl) ?_
  intro p e s m args below meth c hB hr hlk hW hS ls hl
  have hx := hB.x
  have hb := hB.b
  have hl : lv_has ls 4 [(0, .ref (G.2.2.1 k0)), (1, .int p1), (2, .int p2), (3, .int p3)] := hl
  unfold f_X3_takeGlue at hf
  refine lv_aload_n hx hb dX3_takeGlue_0 rfl (lv_at hl 0 rfl) ?_
  refine lv_iload_n hx hb dX3_takeGlue_1 rfl (lv_at hl 1 rfl) ?_
  refine fp3_4 hB hW hS hk0 wd1_104 dX3_takeGlue_2 (fun H locs M1 eM1 hW hS => ?_)
  have hf := nm_o hf eM1
  refine lv_aload_n hx hb dX3_takeGlue_5 rfl (lv_at hl 0 rfl) ?_
  refine lv_iload_n hx hb dX3_takeGlue_6 rfl (lv_at hl 2 rfl) ?_
  refine fp3_5 hB hW hS hk0 wd1_107 dX3_takeGlue_7 (fun H locs M2 eM2 hW hS => ?_)
  have hf := nm_o hf eM2
  refine lv_aload_n hx hb dX3_takeGlue_10 rfl (lv_at hl 0 rfl) ?_
  refine lv_iload_n hx hb dX3_takeGlue_11 rfl (lv_at hl 3 rfl) ?_
  refine fp3_6 hB hW hS hk0 wd1_109 dX3_takeGlue_12 (fun H locs M3 eM3 hW hS => ?_)
  have hf := nm_o hf eM3
  exact e_v hB hW hS hr hlk (Option.some.inj hf) dX3_takeGlue_15
theorem cl_RX3_59 {R : Room} {s : State} {args : Array Value} (hN : Nst s) (ht : ∀ w ∈ lw_all, w.before args s = true) (hR : 1 + 1 ≤ R.frames ∧ 8 + (2 + 11) + 21 ≤ R.locals) : va_CN R s args RX3 59 yX8_copyInts "LinesOfFragments" cX8_copyInts 2 none (wsq yX8_copyInts cX8_copyInts 2 none) (rmq 1 21) 0 0 2 ∧ (Cond.static yX8_copyInts).before args s = true ∧ True := ⟨va_cnB 2 ht (goodC wd2_190) rfl rfl rfl (hN _ (List.mem_of_getElem? (l := nestL) (i := 2) rfl)) (ht _ wd1_1) (by decide +kernel) hR, ht _ wd2_189, trivial⟩
theorem cl_RX3_63 {R : Room} {s : State} {args : Array Value} (ht : ∀ w ∈ lw_all, w.before args s = true) (hR : 2 + 1 ≤ R.frames ∧ 8 + (2 + 11) + 42 ≤ R.locals) : CallW R s args RX3 RX7 63 yX7_become cX7_become 2 none (wsq yX7_become cX7_become 2 none) (rmq 2 42) 0 0 1 := cwV 1 ht (goodV wd2_197 wd2_198 wd2_199 wd1_3 wd2_200) rfl rfl rfl (by decide +kernel) hR
theorem cl_RX3_67 {R : Room} {s : State} {args : Array Value} (ht : ∀ w ∈ lw_all, w.before args s = true) (hR : 2 + 1 ≤ R.frames ∧ 8 + (2 + 11) + 42 ≤ R.locals) : CallW R s args RX3 RX4 67 yX4_become cX4_become 2 none (wsq yX4_become cX4_become 2 none) (rmq 2 42) 0 0 1 := cwV 1 ht (goodV wd2_205 wd2_206 wd2_207 wd1_4 wd2_208) rfl rfl rfl (by decide +kernel) hR
theorem cl_RX3_70 {R : Room} {s : State} {args : Array Value} (ht : ∀ w ∈ lw_all, w.before args s = true) (hR : 0 + 1 ≤ R.frames ∧ 8 + (4 + 11) + 0 ≤ R.locals) : CallW R s args RX3 RX3 70 yX3_takeGlue cX3_takeGlue 4 none (wsq yX3_takeGlue cX3_takeGlue 4 none) (rmq 0 0) 0 0 3 := cwV 3 ht (goodV wd2_211 wd2_212 wd2_213 wd1_2 wd2_214) rfl rfl rfl (by decide +kernel) hR
def f_X3_become (k0 : Nat) (k1 : Nat) (M : Mem) : Option Mem := (bq1 (f_X8_copyInts (k1 + 1) (k0 + 1) M) (fun (M1 : Mem) => bq1 (f_X7_become (k0 + 2) (k1 + 2) M1) (fun (M3 : Mem) => bq1 (f_X4_become (k0 + 6) (k1 + 6) M3) (fun (M5 : Mem) => bq1 (f_X3_takeGlue k0 (gi M5 k1 4) (gi M5 k1 5) (gi M5 k1 6) M5) (fun (M7 : Mem) => nmq (si M7 k0 3 (gi M7 k1 3)) (fun (M9 : Mem) => nmq (si M9 k0 7 (gi M9 k1 7)) (fun (M10 : Mem) => nmq (si M10 k0 8 (gi M10 k1 8)) (fun (M11 : Mem) => nmq (si M11 k0 9 (gi M11 k1 9)) (fun (M12 : Mem) => nmq (si M12 k0 10 (gi M12 k1 10)) (fun (M13 : Mem) => nmq (si M13 k0 11 (gi M13 k1 11)) (fun (M14 : Mem) => nmq (si M14 k0 12 (gi M14 k1 12)) (fun (M15 : Mem) => some M15))))))))))))
set_option maxHeartbeats 4000000 in
set_option maxRecDepth 100000 in
theorem ct_X3_become (l : Launch) (G : GG) {k0 : Nat} {k1 : Nat} {M : Mem} {Mr : Mem} (hk0 : isT 3 k0) (hk1 : isT 3 k1) (hf : f_X3_become k0 k1 M = some Mr) : Met l yX3_become (wsq yX3_become cX3_become 2 none) (rmq 3 63) (va_Pc [.ref (G.2.2.1 k0), .ref (G.2.2.1 k1)] (World G M)) (Qv G Mr) 0 0 (adA G) := by
  refine x_start (plainFor_of_name (by decide)) (Nat.le_of_ble_eq_true rfl) ?_
  intro p e s m args below meth c hB hr hlk hW hS ls hl
  have hx := hB.x
  have hb := hB.b
  have hl : lv_has ls 2 [(0, .ref (G.2.2.1 k0)), (1, .ref (G.2.2.1 k1))] := hl
  unfold f_X3_become at hf
  refine lv_aload_n hx hb dX3_become_0 rfl (lv_at hl 1 rfl) ?_
  refine fg3_0 hB hW hk1 wd1_90 dX3_become_1 ?_
  refine lv_aload_n hx hb dX3_become_4 rfl (lv_at hl 0 rfl) ?_
  refine fg3_0 hB hW hk0 wd1_90 dX3_become_5 ?_
  obtain ⟨M1, hg2, hf⟩ := b_o1 hf
  refine x_cv hB (x_rn hB hW hS (As := [.ref (G.2.2.1 (k1 + 1)), .ref (G.2.2.1 (k0 + 1))]) (rest := []) (ct_X8_copyInts l G (rf3_0 hk1) (rf3_0 hk0) hg2) (cl_RX3_59 hB.nst hB.2.2.2.2.1 ⟨Nat.le_of_ble_eq_true rfl, Nat.le_of_ble_eq_true rfl⟩) rfl hl.1 rfl (Nat.le_of_ble_eq_true rfl) dX3_become_8 ⟨Nat.le_refl _, Nat.le_refl _⟩) hS (fun H locs hW hS => ?_)
  refine lv_aload_n hx hb dX3_become_11 rfl (lv_at hl 0 rfl) ?_
  refine fg3_1 hB hW hk0 wd1_93 dX3_become_12 ?_
  refine lv_aload_n hx hb dX3_become_15 rfl (lv_at hl 1 rfl) ?_
  refine fg3_1 hB hW hk1 wd1_93 dX3_become_16 ?_
  obtain ⟨M3, hg4, hf⟩ := b_o1 hf
  refine x_cv hB (x_rv hB hW hS (As := [.ref (G.2.2.1 (k1 + 2))]) (rest := []) (ct_X7_become l G (rf3_1 hk0) (rf3_1 hk1) hg4) (cl_RX3_63 hB.2.2.2.2.1 ⟨Nat.le_of_ble_eq_true rfl, Nat.le_of_ble_eq_true rfl⟩) (rf3_1 hk0) (by decide) rfl rfl hl.1 rfl (Nat.le_of_ble_eq_true rfl) dX3_become_19 ⟨Nat.le_refl _, Nat.le_refl _⟩) hS (fun H locs hW hS => ?_)
  refine lv_aload_n hx hb dX3_become_22 rfl (lv_at hl 0 rfl) ?_
  refine fg3_2 hB hW hk0 wd1_97 dX3_become_23 ?_
  refine lv_aload_n hx hb dX3_become_26 rfl (lv_at hl 1 rfl) ?_
  refine fg3_2 hB hW hk1 wd1_97 dX3_become_27 ?_
  obtain ⟨M5, hg6, hf⟩ := b_o1 hf
  refine x_cv hB (x_rv hB hW hS (As := [.ref (G.2.2.1 (k1 + 6))]) (rest := []) (ct_X4_become l G (rf3_2 hk0) (rf3_2 hk1) hg6) (cl_RX3_67 hB.2.2.2.2.1 ⟨Nat.le_of_ble_eq_true rfl, Nat.le_of_ble_eq_true rfl⟩) (rf3_2 hk0) (by decide) rfl rfl hl.1 rfl (Nat.le_of_ble_eq_true rfl) dX3_become_30 ⟨Nat.le_refl _, Nat.le_refl _⟩) hS (fun H locs hW hS => ?_)
  refine lv_aload_n hx hb dX3_become_33 rfl (lv_at hl 0 rfl) ?_
  refine lv_aload_n hx hb dX3_become_34 rfl (lv_at hl 1 rfl) ?_
  refine fg3_4 hB hW hk1 wd1_104 dX3_become_35 ?_
  refine lv_aload_n hx hb dX3_become_38 rfl (lv_at hl 1 rfl) ?_
  refine fg3_5 hB hW hk1 wd1_107 dX3_become_39 ?_
  refine lv_aload_n hx hb dX3_become_42 rfl (lv_at hl 1 rfl) ?_
  refine fg3_6 hB hW hk1 wd1_109 dX3_become_43 ?_
  obtain ⟨M7, hg8, hf⟩ := b_o1 hf
  refine x_cv hB (x_rv hB hW hS (As := [.int (gi M5 k1 4), .int (gi M5 k1 5), .int (gi M5 k1 6)]) (rest := []) (ct_X3_takeGlue l G hk0 hg8) (cl_RX3_70 hB.2.2.2.2.1 ⟨Nat.le_of_ble_eq_true rfl, Nat.le_of_ble_eq_true rfl⟩) hk0 (by decide) rfl rfl hl.1 rfl (Nat.le_of_ble_eq_true rfl) dX3_become_46 ⟨Nat.le_refl _, Nat.le_refl _⟩) hS (fun H locs hW hS => ?_)
  refine lv_aload_n hx hb dX3_become_49 rfl (lv_at hl 0 rfl) ?_
  refine lv_aload_n hx hb dX3_become_50 rfl (lv_at hl 1 rfl) ?_
  refine fg3_3 hB hW hk1 wd1_100 dX3_become_51 ?_
  refine fp3_3 hB hW hS hk0 wd1_100 dX3_become_54 (fun H locs M9 eM9 hW hS => ?_)
  have hf := nm_o hf eM9
  refine lv_aload_n hx hb dX3_become_57 rfl (lv_at hl 0 rfl) ?_
  refine lv_aload_n hx hb dX3_become_58 rfl (lv_at hl 1 rfl) ?_
  refine fg3_7 hB hW hk1 wd1_111 dX3_become_59 ?_
  refine fp3_7 hB hW hS hk0 wd1_111 dX3_become_62 (fun H locs M10 eM10 hW hS => ?_)
  have hf := nm_o hf eM10
  refine lv_aload_n hx hb dX3_become_65 rfl (lv_at hl 0 rfl) ?_
  refine lv_aload_n hx hb dX3_become_66 rfl (lv_at hl 1 rfl) ?_
  refine fg3_8 hB hW hk1 wd1_115 dX3_become_67 ?_
  refine fp3_8 hB hW hS hk0 wd1_115 dX3_become_70 (fun H locs M11 eM11 hW hS => ?_)
  have hf := nm_o hf eM11
  refine lv_aload_n hx hb dX3_become_73 rfl (lv_at hl 0 rfl) ?_
  refine lv_aload_n hx hb dX3_become_74 rfl (lv_at hl 1 rfl) ?_
  refine fg3_9 hB hW hk1 wd1_118 dX3_become_75 ?_
  refine fp3_9 hB hW hS hk0 wd1_118 dX3_become_78 (fun H locs M12 eM12 hW hS => ?_)
  have hf := nm_o hf eM12
  refine lv_aload_n hx hb dX3_become_81 rfl (lv_at hl 0 rfl) ?_
  refine lv_aload_n hx hb dX3_become_82 rfl (lv_at hl 1 rfl) ?_
  refine fg3_10 hB hW hk1 wd1_123 dX3_become_83 ?_
  refine fp3_10 hB hW hS hk0 wd1_123 dX3_become_86 (fun H locs M13 eM13 hW hS => ?_)
  have hf := nm_o hf eM13
  refine lv_aload_n hx hb dX3_become_89 rfl (lv_at hl 0 rfl) ?_
  refine lv_aload_n hx hb dX3_become_90 rfl (lv_at hl 1 rfl) ?_
  refine fg3_11 hB hW hk1 wd1_126 dX3_become_91 ?_
  refine fp3_11 hB hW hS hk0 wd1_126 dX3_become_94 (fun H locs M14 eM14 hW hS => ?_)
  have hf := nm_o hf eM14
  refine lv_aload_n hx hb dX3_become_97 rfl (lv_at hl 0 rfl) ?_
  refine lv_aload_n hx hb dX3_become_98 rfl (lv_at hl 1 rfl) ?_
  refine fg3_12 hB hW hk1 wd1_129 dX3_become_99 ?_
  refine fp3_12 hB hW hS hk0 wd1_129 dX3_become_102 (fun H locs M15 eM15 hW hS => ?_)
  have hf := nm_o hf eM15
  exact e_v hB hW hS hr hlk (Option.some.inj hf) dX3_become_105
def f_X8_spelledOn (p1 : Int64) (p2 : Int32) (p3 : Int32) : Option Int64 := some (p1 ||| (lshl ((p3 + (1 : Int32))).toInt64 ((4 : Int32) * p2)))
set_option maxHeartbeats 4000000 in
set_option maxRecDepth 100000 in
theorem ct_X8_spelledOn (l : Launch) (G : GG) {p1 : Int64} {p2 : Int32} {p3 : Int32} {M : Mem} {r : Int64}  (hf : f_X8_spelledOn p1 p2 p3 = some r) : Met l yX8_spelledOn (wsq yX8_spelledOn cX8_spelledOn 4 (some .long)) (rmq 0 0) (va_Pc [.long p1, .int p2, .int p3] (World G M)) (Ql G r M) 0 0 (adA G) := by
  refine x_start (plainFor_of_name (by decide)) (Nat.le_of_ble_eq_true rfl) ?_
  intro p e s m args below meth c hB hr hlk hW hS ls hl
  have hx := hB.x
  have hb := hB.b
  have hl : lv_has ls 4 [(0, .long p1), (2, .int p2), (3, .int p3)] := hl
  unfold f_X8_spelledOn at hf
  refine lv_lload_n hx hb dX8_spelledOn_0 rfl (lv_at hl 0 rfl) ?_
  refine lv_iload_n hx hb dX8_spelledOn_1 rfl (lv_at hl 2 rfl) ?_
  refine lv_iconst (v := (1 : Int32)) hx hb dX8_spelledOn_2 (by decide) ?_
  refine lv_iadd hx hb dX8_spelledOn_3 ?_
  refine lv_i2l hx hb dX8_spelledOn_4 rfl ?_
  refine lv_iconst (v := (4 : Int32)) hx hb dX8_spelledOn_5 (by decide) ?_
  refine lv_iload_n hx hb dX8_spelledOn_6 rfl (lv_at hl 1 rfl) ?_
  refine lv_imul hx hb dX8_spelledOn_7 ?_
  refine lv_lshl hx hb dX8_spelledOn_8 rfl ?_
  refine lv_lor hx hb dX8_spelledOn_9 ?_
  exact e_l hB hW hS hr hlk (Option.some.inj hf) rfl dX8_spelledOn_10
def f_X7_isFull (k0 : Nat) (M : Mem) : Option Int32 := (if (gi M k0 3) < (16 : Int32) then some (0 : Int32) else some (1 : Int32))
set_option maxHeartbeats 4000000 in
set_option maxRecDepth 100000 in
theorem ct_X7_isFull (l : Launch) (G : GG) {k0 : Nat} {M : Mem} {r : Int32} (hk0 : isT 7 k0) (hf : f_X7_isFull k0 M = some r) : Met l yX7_isFull (wsq yX7_isFull cX7_isFull 1 (some .boolean)) (rmq 0 0) (va_Pc [.ref (G.2.2.1 k0)] (World G M)) (Qi G r M) 0 0 (adA G) := by
  refine x_start (plainFor_of_name (by decide)) (Nat.le_of_ble_eq_true rfl) ?_
  intro p e s m args below meth c hB hr hlk hW hS ls hl
  have hx := hB.x
  have hb := hB.b
  have hl : lv_has ls 1 [(0, .ref (G.2.2.1 k0))] := hl
  unfold f_X7_isFull at hf
  refine lv_aload_n hx hb dX7_isFull_0 rfl (lv_at hl 0 rfl) ?_
  refine fg7_3 hB hW hk0 wd1_50 dX7_isFull_1 ?_
  refine lv_bipush (v := (16 : Int32)) hx hb dX7_isFull_4 (by decide) ?_
  refine lv_icmp_lt (tgt := 13) hx hb dX7_isFull_6 (by decide) (fun c1 => ?_) (fun c1 => ?_)
  · have hf := i_t hf c1
    refine lv_iconst (v := (0 : Int32)) hx hb dX7_isFull_13 (by decide) ?_
    exact e_z (by decide) hB hW hS hr hlk (Option.some.inj hf) rfl dX7_isFull_14
  · have hf := i_f hf c1
    refine lv_iconst (v := (1 : Int32)) hx hb dX7_isFull_9 (by decide) ?_
    refine lv_goto (tgt := 14) hx hb dX7_isFull_10 (by decide) ?_
    exact e_z (by decide) hB hW hS hr hlk (Option.some.inj hf) rfl dX7_isFull_14
theorem cl_RX7_42 {R : Room} {s : State} {args : Array Value} (hN : Nst s) (ht : ∀ w ∈ lw_all, w.before args s = true) (hR : 0 + 1 ≤ R.frames ∧ 8 + (3 + 11) + 0 ≤ R.locals) : va_CN R s args RX7 42 yX8_put "LinesOfFragments" cX8_put 3 none (wsq yX8_put cX8_put 3 none) (rmq 0 0) 0 0 3 ∧ (Cond.static yX8_put).before args s = true ∧ True := ⟨va_cnB 3 ht (goodC wd2_138) rfl rfl rfl (hN _ (List.mem_of_getElem? (l := nestL) (i := 8) rfl)) (ht _ wd1_1) (by decide +kernel) hR, ht _ wd2_137, trivial⟩
def f_X7_write (k0 : Nat) (p1 : Int32) (p2 : Int64) (p3 : Int32) (p4 : Int32) (M : Mem) : Option Mem := (bq1 ((if p1 < 0 then (some (M)) else (if (16 : Int32) ≤ p1 then (some (M)) else (gq (inB p1 16) (nmq (sl M (k0 + 1) ((p1 : Int32).toNatClampNeg) p2) (fun (M11 : Mem) => (some (M11))))))) : Option (Mem)) (fun (M1 : Mem) => (bq1 (f_X8_put (k0 + 2) p1 p3 M1) (fun (M3 : Mem) => bq1 (f_X8_put (k0 + 3) p1 p4 M3) (fun (M5 : Mem) => some M5)))))
set_option maxHeartbeats 4000000 in
set_option maxRecDepth 100000 in
theorem ct_X7_write (l : Launch) (G : GG) {k0 : Nat} {p1 : Int32} {p2 : Int64} {p3 : Int32} {p4 : Int32} {M : Mem} {Mr : Mem} (hk0 : isT 7 k0) (hf : f_X7_write k0 p1 p2 p3 p4 M = some Mr) : Met l yX7_write (wsq yX7_write cX7_write 6 none) (rmq 1 22) (va_Pc [.ref (G.2.2.1 k0), .int p1, .long p2, .int p3, .int p4] (World G M)) (Qv G Mr) 0 0 (adA G) := by
  refine x_start (plainFor_of_name (by decide)) (Nat.le_of_ble_eq_true rfl) ?_
  intro p e s m args below meth c hB hr hlk hW hS ls hl
  have hx := hB.x
  have hb := hB.b
  have hl : lv_has ls 6 [(0, .ref (G.2.2.1 k0)), (1, .int p1), (2, .long p2), (4, .int p3), (5, .int p4)] := hl
  unfold f_X7_write at hf
  refine lv_iload_n hx hb dX7_write_0 rfl (lv_at hl 1 rfl) ?_
  obtain ⟨M7, hR, hf⟩ := b_o1 hf
  have main2 : ∀ (M1 : Mem) (H : Heap) (locs : List Loc) (ls : Array Slot), Wd G M1 H → va_S (adA G) s.heap H locs → lv_has ls 6 [(0, .ref (G.2.2.1 k0)), (1, .int p1), (4, .int p3), (5, .int p4)] → some (M1) = some (M7) → W p l e (rmq 1 22) s m args below meth c H locs 0 0 (MQ below (Qv G Mr) args s 0 0 (adA G)) (F0 m 20 ls []) := by
    intro M1 H locs ls hW hS hl hE
    cases hE
    refine lv_aload_n hx hb dX7_write_20 rfl (lv_at hl 0 rfl) ?_
    refine fg7_1 hB hW hk0 wd1_47 dX7_write_21 ?_
    refine lv_iload_n hx hb dX7_write_24 rfl (lv_at hl 1 rfl) ?_
    refine lv_iload hx hb dX7_write_25 (lv_at hl 2 rfl) ?_
    obtain ⟨M3, hg4, hf⟩ := b_o1 hf
    refine x_cv hB (x_rn hB hW hS (As := [.ref (G.2.2.1 (k0 + 2)), .int p1, .int p3]) (rest := []) (ct_X8_put l G (rf7_1 hk0) hg4) (cl_RX7_42 hB.nst hB.2.2.2.2.1 ⟨Nat.le_of_ble_eq_true rfl, Nat.le_of_ble_eq_true rfl⟩) rfl hl.1 rfl (Nat.le_of_ble_eq_true rfl) dX7_write_27 ⟨Nat.le_refl _, Nat.le_refl _⟩) hS (fun H locs hW hS => ?_)
    refine lv_aload_n hx hb dX7_write_30 rfl (lv_at hl 0 rfl) ?_
    refine fg7_2 hB hW hk0 wd1_48 dX7_write_31 ?_
    refine lv_iload_n hx hb dX7_write_34 rfl (lv_at hl 1 rfl) ?_
    refine lv_iload hx hb dX7_write_35 (lv_at hl 3 rfl) ?_
    obtain ⟨M5, hg6, hf⟩ := b_o1 hf
    refine x_cv hB (x_rn hB hW hS (As := [.ref (G.2.2.1 (k0 + 3)), .int p1, .int p4]) (rest := []) (ct_X8_put l G (rf7_2 hk0) hg6) (cl_RX7_42 hB.nst hB.2.2.2.2.1 ⟨Nat.le_of_ble_eq_true rfl, Nat.le_of_ble_eq_true rfl⟩) rfl hl.1 rfl (Nat.le_of_ble_eq_true rfl) dX7_write_37 ⟨Nat.le_refl _, Nat.le_refl _⟩) hS (fun H locs hW hS => ?_)
    exact e_v hB hW hS hr hlk (Option.some.inj hf) dX7_write_40
  have hf := hR
  refine lv_if_lt (tgt := 20) hx hb dX7_write_1 (by decide) (fun c8 => ?_) (fun c8 => ?_)
  · have hf := i_t hf c8
    exact main2 M _ _ ls hW hS (lv_sub hl [0, 1, 3, 4] rfl) hf
  · have hf := i_f hf c8
    refine lv_iload_n hx hb dX7_write_4 rfl (lv_at hl 1 rfl) ?_
    refine lv_aload_n hx hb dX7_write_5 rfl (lv_at hl 0 rfl) ?_
    refine fg7_0 hB hW hk0 wd1_46 dX7_write_6 ?_
    refine x_alen hB hW (rf7_0 hk0) (by decide) (ra7_0 hk0) (v := (16 : Int32)) rfl dX7_write_9 ?_
    refine lv_icmp_ge (tgt := 20) hx hb dX7_write_10 (by decide) (fun c9 => ?_) (fun c9 => ?_)
    · have hf := i_t hf c9
      exact main2 M _ _ ls hW hS (lv_sub hl [0, 1, 3, 4] rfl) hf
    · have hf := i_f hf c9
      refine lv_aload_n hx hb dX7_write_13 rfl (lv_at hl 0 rfl) ?_
      refine fg7_0 hB hW hk0 wd1_46 dX7_write_14 ?_
      refine lv_iload_n hx hb dX7_write_17 rfl (lv_at hl 1 rfl) ?_
      refine lv_lload_n hx hb dX7_write_18 rfl (lv_at hl 2 rfl) ?_
      obtain ⟨h10, hf⟩ := g_o hf
      refine x_l hB hW hS (rf7_0 hk0) (ra7_0 hk0) h10 dX7_write_19 (fun H locs M11 eM11 hW hS => ?_)
      have hf := nm_o hf eM11
      exact main2 M11 _ _ ls hW hS (lv_sub hl [0, 1, 3, 4] rfl) hf
theorem cl_RX7_38 {R : Room} {s : State} {args : Array Value} (ht : ∀ w ∈ lw_all, w.before args s = true) (hR : 1 + 1 ≤ R.frames ∧ 8 + (6 + 11) + 22 ≤ R.locals) : CallW R s args RX7 RX7 38 yX7_write cX7_write 6 none (wsq yX7_write cX7_write 6 none) (rmq 1 22) 0 0 4 := cwV 4 ht (goodV wd2_238 wd3_0 wsel_9 wd1_3 wd3_1) rfl rfl rfl (by decide +kernel) hR
def f_X7_add (k0 : Nat) (p1 : Int64) (p2 : Int32) (M : Mem) : Option (Int32 × Mem) := (bq1 (f_X7_write k0 (gi M k0 3) p1 p2 (0 : Int32) M) (fun (M1 : Mem) => nmq (si M1 k0 3 ((gi M1 k0 3) + (1 : Int32))) (fun (M3 : Mem) => some (((gi M3 k0 3) - (1 : Int32)), M3))))
set_option maxHeartbeats 4000000 in
set_option maxRecDepth 100000 in
theorem ct_X7_add (l : Launch) (G : GG) {k0 : Nat} {p1 : Int64} {p2 : Int32} {M : Mem} {r : Int32} {Mr : Mem} (hk0 : isT 7 k0) (hf : f_X7_add k0 p1 p2 M = some (r, Mr)) : Met l yX7_add (wsq yX7_add cX7_add 4 (some .int)) (rmq 2 47) (va_Pc [.ref (G.2.2.1 k0), .long p1, .int p2] (World G M)) (Qi G r Mr) 0 0 (adA G) := by
  refine x_start (plainFor_of_name (by decide)) (Nat.le_of_ble_eq_true rfl) ?_
  intro p e s m args below meth c hB hr hlk hW hS ls hl
  have hx := hB.x
  have hb := hB.b
  have hl : lv_has ls 4 [(0, .ref (G.2.2.1 k0)), (1, .long p1), (3, .int p2)] := hl
  unfold f_X7_add at hf
  refine lv_aload_n hx hb dX7_add_0 rfl (lv_at hl 0 rfl) ?_
  refine lv_aload_n hx hb dX7_add_1 rfl (lv_at hl 0 rfl) ?_
  refine fg7_3 hB hW hk0 wd1_50 dX7_add_2 ?_
  refine lv_lload_n hx hb dX7_add_5 rfl (lv_at hl 1 rfl) ?_
  refine lv_iload_n hx hb dX7_add_6 rfl (lv_at hl 2 rfl) ?_
  refine lv_iconst (v := (0 : Int32)) hx hb dX7_add_7 (by decide) ?_
  obtain ⟨M1, hg2, hf⟩ := b_o1 hf
  refine x_cv hB (x_rv hB hW hS (As := [.int (gi M k0 3), .long p1, .int p2, .int (0 : Int32)]) (rest := []) (ct_X7_write l G hk0 hg2) (cl_RX7_38 hB.2.2.2.2.1 ⟨Nat.le_of_ble_eq_true rfl, Nat.le_of_ble_eq_true rfl⟩) hk0 (by decide) rfl rfl hl.1 rfl (Nat.le_of_ble_eq_true rfl) dX7_add_8 ⟨Nat.le_refl _, Nat.le_refl _⟩) hS (fun H locs hW hS => ?_)
  refine lv_aload_n hx hb dX7_add_11 rfl (lv_at hl 0 rfl) ?_
  refine lv_dup hx hb dX7_add_12 rfl ?_
  refine fg7_3 hB hW hk0 wd1_50 dX7_add_13 ?_
  refine lv_iconst (v := (1 : Int32)) hx hb dX7_add_16 (by decide) ?_
  refine lv_iadd hx hb dX7_add_17 ?_
  refine fp7_3 hB hW hS hk0 wd1_50 dX7_add_18 (fun H locs M3 eM3 hW hS => ?_)
  have hf := nm_o hf eM3
  refine lv_aload_n hx hb dX7_add_21 rfl (lv_at hl 0 rfl) ?_
  refine fg7_3 hB hW hk0 wd1_50 dX7_add_22 ?_
  refine lv_iconst (v := (1 : Int32)) hx hb dX7_add_25 (by decide) ?_
  refine lv_isub hx hb dX7_add_26 ?_
  exact e_i hB hW hS hr hlk (s_1 hf) (s_2 hf) dX7_add_27
theorem cl_RX5_93 {R : Room} {s : State} {args : Array Value} (hN : Nst s) (ht : ∀ w ∈ lw_all, w.before args s = true) (hR : 0 + 1 ≤ R.frames ∧ 8 + (4 + 11) + 0 ≤ R.locals) : va_CN R s args RX5 93 yX8_spelledOn "LinesOfFragments" cX8_spelledOn 4 (some .long) (wsq yX8_spelledOn cX8_spelledOn 4 (some .long)) (rmq 0 0) 0 0 3 ∧ (Cond.static yX8_spelledOn).before args s = true ∧ True := ⟨va_cnB 3 ht (goodC wd2_229) rfl rfl rfl (hN _ (List.mem_of_getElem? (l := nestL) (i := 7) rfl)) (ht _ wd1_1) (by decide +kernel) hR, ht _ wd2_228, trivial⟩
theorem cl_RX5_97 {R : Room} {s : State} {args : Array Value} (ht : ∀ w ∈ lw_all, w.before args s = true) (hR : 0 + 1 ≤ R.frames ∧ 8 + (1 + 11) + 0 ≤ R.locals) : CallW R s args RX5 RX7 97 yX7_isFull cX7_isFull 1 (some .boolean) (wsq yX7_isFull cX7_isFull 1 (some .boolean)) (rmq 0 0) 0 0 0 := cwV 0 ht (goodV wd2_230 wd2_231 wd2_232 wd1_3 wd2_233) rfl rfl rfl (by decide +kernel) hR
theorem cl_RX5_102 {R : Room} {s : State} {args : Array Value} (ht : ∀ w ∈ lw_all, w.before args s = true) (hR : 2 + 1 ≤ R.frames ∧ 8 + (4 + 11) + 47 ≤ R.locals) : CallW R s args RX5 RX7 102 yX7_add cX7_add 4 (some .int) (wsq yX7_add cX7_add 4 (some .int)) (rmq 2 47) 0 0 2 := cwV 2 ht (goodV wd2_234 wd2_235 wd2_236 wd1_3 wd2_237) rfl rfl rfl (by decide +kernel) hR
def f_X5_tellWord_L5  (K4 : Int64 → Int32 → Mem → Option (Int64 × Int32 × Mem)) (x1 : Int64) (x2 : Int32) (M3 : Mem) : Option (Int64 × Int32 × Mem) := (if (12 : Int32) ≤ x2 then (some (x1, x2, M3)) else (bq1 (f_X5_isLetterHere M3) (fun (x20 : Int32) => (if x20 = 0 then (some (x1, x2, M3)) else (bq1 (f_X5_here M3) (fun (x23 : Int32) => bq1 (f_X8_spelledOn x1 x2 (x23 - (97 : Int32))) (fun (x25 : Int64) => nmq (si M3 124 3 ((gi M3 124 3) + (1 : Int32))) (fun (M27 : Mem) => nmq (x2 + (1 : Int32)) (fun (x28 : Int32) => (K4 x25 x28 M27))))))))))
def f_X5_tellWord (k1 : Nat) (M : Mem) : Option (Int32 × Mem) := (bq3 (lq3 f_X5_tellWord_L5 FU (0 : Int64) (0 : Int32) M) (fun (x6 : Int64) (x7 : Int32) (M8 : Mem) => (bq1 (f_X7_isFull k1 M8) (fun (x9 : Int32) => (if x9 = 0 then (bq2 (f_X7_add k1 x6 x7 M8) (fun (x12 : Int32) (M13 : Mem) => some ((1 : Int32), M13))) else some ((0 : Int32), M8))))))
set_option maxHeartbeats 4000000 in
set_option maxRecDepth 100000 in
theorem ct_X5_tellWord (l : Launch) (G : GG) {k1 : Nat} {M : Mem} {r : Int32} {Mr : Mem} (hk1 : isT 7 k1) (hf : f_X5_tellWord k1 M = some (r, Mr)) : Met l yX5_tellWord (wsq yX5_tellWord cX5_tellWord 5 (some .boolean)) (rmq 3 70) (va_Pc [.ref (G.2.2.1 124), .ref (G.2.2.1 k1)] (World G M)) (Qi G r Mr) 0 0 (adA G) := by
  refine x_start (plainFor_of_name (by decide)) (Nat.le_of_ble_eq_true rfl) ?_
  intro p e s m args below meth c hB hr hlk hW hS ls hl
  have hx := hB.x
  have hb := hB.b
  have hl : lv_has ls 5 [(0, .ref (G.2.2.1 124)), (1, .ref (G.2.2.1 k1))] := hl
  unfold f_X5_tellWord at hf
  refine lv_lconst (v := (0 : Int64)) hx hb dX5_tellWord_0 (by decide) ?_
  refine lv_lstore_n (lv' := [(2, .long (0 : Int64)), (0, .ref (G.2.2.1 124)), (1, .ref (G.2.2.1 k1))]) hx hb dX5_tellWord_1 rfl hl (by decide) rfl (fun ls hl => ?_)
  refine lv_iconst (v := (0 : Int32)) hx hb dX5_tellWord_2 (by decide) ?_
  refine lv_istore (lv' := [(4, .int (0 : Int32)), (2, .long (0 : Int64)), (0, .ref (G.2.2.1 124)), (1, .ref (G.2.2.1 k1))]) hx hb dX5_tellWord_3 hl (by decide) rfl (fun ls hl => ?_)
  obtain ⟨y15, y16, M17, hL, hf⟩ := b_o3 hf
  have main18 : ∀ (x6 : Int64) (x7 : Int32) (M8 : Mem) (H : Heap) (locs : List Loc) (ls : Array Slot), Wd G M8 H → va_S (adA G) s.heap H locs → lv_has ls 5 [(1, .ref (G.2.2.1 k1)), (2, .long x6), (4, .int x7)] → some (x6, x7, M8) = some (y15, y16, M17) → W p l e (rmq 3 70) s m args below meth c H locs 0 0 (MQ below (Qi G r Mr) args s 0 0 (adA G)) (F0 m 49 ls []) := by
    intro x6 x7 M8 H locs ls hW hS hl hE
    cases hE
    refine lv_aload_n hx hb dX5_tellWord_49 rfl (lv_at hl 0 rfl) ?_
    obtain ⟨x9, hg10, hf⟩ := b_o1 hf
    refine x_ci hB (x_rv hB hW hS (As := []) (rest := []) (ct_X7_isFull l G hk1 hg10) (cl_RX5_97 hB.2.2.2.2.1 ⟨Nat.le_of_ble_eq_true rfl, Nat.le_of_ble_eq_true rfl⟩) hk1 (by decide) rfl rfl hl.1 rfl (Nat.le_of_ble_eq_true rfl) dX5_tellWord_50 ⟨Nat.le_refl _, Nat.le_refl _⟩) hS (fun H locs hW hS => ?_)
    refine lv_if_eq (tgt := 58) hx hb dX5_tellWord_53 (by decide) (fun c11 => ?_) (fun c11 => ?_)
    · have hf := i_t hf c11
      refine lv_aload_n hx hb dX5_tellWord_58 rfl (lv_at hl 0 rfl) ?_
      refine lv_lload_n hx hb dX5_tellWord_59 rfl (lv_at hl 1 rfl) ?_
      refine lv_iload hx hb dX5_tellWord_60 (lv_at hl 2 rfl) ?_
      obtain ⟨x12, M13, hg14, hf⟩ := b_o2 hf
      refine x_ci hB (x_rv hB hW hS (As := [.long y15, .int y16]) (rest := []) (ct_X7_add l G hk1 hg14) (cl_RX5_102 hB.2.2.2.2.1 ⟨Nat.le_of_ble_eq_true rfl, Nat.le_of_ble_eq_true rfl⟩) hk1 (by decide) rfl rfl hl.1 rfl (Nat.le_of_ble_eq_true rfl) dX5_tellWord_62 ⟨Nat.le_refl _, Nat.le_refl _⟩) hS (fun H locs hW hS => ?_)
      refine lv_pop hx hb dX5_tellWord_65 rfl ?_
      refine lv_iconst (v := (1 : Int32)) hx hb dX5_tellWord_66 (by decide) ?_
      exact e_z (by decide) hB hW hS hr hlk (s_1 hf) (s_2 hf) dX5_tellWord_67
    · have hf := i_f hf c11
      refine lv_iconst (v := (0 : Int32)) hx hb dX5_tellWord_56 (by decide) ?_
      exact e_z (by decide) hB hW hS hr hlk (s_1 hf) (s_2 hf) dX5_tellWord_57
  have loop5 : ∀ (n : Nat) (x1 : Int64) (x2 : Int32) (M3 : Mem) (H : Heap) (locs : List Loc) (ls : Array Slot), Wd G M3 H → va_S (adA G) s.heap H locs → lv_has ls 5 [(0, .ref (G.2.2.1 124)), (1, .ref (G.2.2.1 k1)), (2, .long x1), (4, .int x2)] → lq3 f_X5_tellWord_L5 n x1 x2 M3 = some (y15, y16, M17) → W p l e (rmq 3 70) s m args below meth c H locs 0 0 (MQ below (Qi G r Mr) args s 0 0 (adA G)) (F0 m 5 ls []) := by
    intro n
    induction n with
    | zero => intro x1 x2 M3 H locs ls hW hS hl hf; exact (l_z3 hf).elim
    | succ n ih =>
      intro x1 x2 M3 H locs ls hW hS hl hf
      have hf := l_s3 hf
      generalize lq3 f_X5_tellWord_L5 n = K4 at ih hf
      unfold f_X5_tellWord_L5 at hf
      refine lv_iload hx hb dX5_tellWord_5 (lv_at hl 3 rfl) ?_
      refine lv_bipush (v := (12 : Int32)) hx hb dX5_tellWord_7 (by decide) ?_
      refine lv_icmp_ge (tgt := 49) hx hb dX5_tellWord_9 (by decide) (fun c19 => ?_) (fun c19 => ?_)
      · have hf := i_t hf c19
        exact main18 x1 x2 M3 _ _ ls hW hS (lv_sub hl [1, 2, 3] rfl) hf
      · have hf := i_f hf c19
        refine lv_aload_n hx hb dX5_tellWord_12 rfl (lv_at hl 0 rfl) ?_
        obtain ⟨x20, hg21, hf⟩ := b_o1 hf
        refine x_ci hB (x_rv hB hW hS (As := []) (rest := []) (ct_X5_isLetterHere l G hg21) (cl_RX5_56 hB.2.2.2.2.1 ⟨Nat.le_of_ble_eq_true rfl, Nat.le_of_ble_eq_true rfl⟩) tl124 (by decide) rfl rfl hl.1 rfl (Nat.le_of_ble_eq_true rfl) dX5_tellWord_13 ⟨Nat.le_refl _, Nat.le_refl _⟩) hS (fun H locs hW hS => ?_)
        refine lv_if_eq (tgt := 49) hx hb dX5_tellWord_16 (by decide) (fun c22 => ?_) (fun c22 => ?_)
        · have hf := i_t hf c22
          exact main18 x1 x2 M3 _ _ ls hW hS (lv_sub hl [1, 2, 3] rfl) hf
        · have hf := i_f hf c22
          refine lv_lload_n hx hb dX5_tellWord_19 rfl (lv_at hl 2 rfl) ?_
          refine lv_iload hx hb dX5_tellWord_20 (lv_at hl 3 rfl) ?_
          refine lv_aload_n hx hb dX5_tellWord_22 rfl (lv_at hl 0 rfl) ?_
          obtain ⟨x23, hg24, hf⟩ := b_o1 hf
          refine x_ci hB (x_rv hB hW hS (As := []) (rest := [.int x2, .long x1]) (ct_X5_here l G hg24) (cl_RX5_41 hB.2.2.2.2.1 ⟨Nat.le_of_ble_eq_true rfl, Nat.le_of_ble_eq_true rfl⟩) tl124 (by decide) rfl rfl hl.1 rfl (Nat.le_of_ble_eq_true rfl) dX5_tellWord_23 ⟨Nat.le_refl _, Nat.le_refl _⟩) hS (fun H locs hW hS => ?_)
          refine lv_bipush (v := (97 : Int32)) hx hb dX5_tellWord_26 (by decide) ?_
          refine lv_isub hx hb dX5_tellWord_28 ?_
          obtain ⟨x25, hg26, hf⟩ := b_o1 hf
          refine x_cl hB (x_rn hB hW hS (As := [.long x1, .int x2, .int (x23 - (97 : Int32))]) (rest := []) (ct_X8_spelledOn l G hg26) (cl_RX5_93 hB.nst hB.2.2.2.2.1 ⟨Nat.le_of_ble_eq_true rfl, Nat.le_of_ble_eq_true rfl⟩) rfl hl.1 rfl (Nat.le_of_ble_eq_true rfl) dX5_tellWord_29 ⟨Nat.le_refl _, Nat.le_refl _⟩) hS (fun H locs hW hS => ?_)
          refine lv_lstore_n (lv' := [(2, .long x25), (0, .ref (G.2.2.1 124)), (1, .ref (G.2.2.1 k1)), (4, .int x2)]) hx hb dX5_tellWord_32 rfl hl (by decide) rfl (fun ls hl => ?_)
          refine lv_aload_n hx hb dX5_tellWord_33 rfl (lv_at hl 1 rfl) ?_
          refine lv_dup hx hb dX5_tellWord_34 rfl ?_
          refine fg5_3 hB hW tl124 wd1_190 dX5_tellWord_35 ?_
          refine lv_iconst (v := (1 : Int32)) hx hb dX5_tellWord_38 (by decide) ?_
          refine lv_iadd hx hb dX5_tellWord_39 ?_
          refine fp5_3 hB hW hS tl124 wd1_190 dX5_tellWord_40 (fun H locs M27 eM27 hW hS => ?_)
          have hf := nm_o hf eM27
          obtain ⟨x28, ex28⟩ : ∃ y : Int32, y = x2 + (1 : Int32) := ⟨_, rfl⟩
          have hf := nm_o hf ex28
          refine lv_iinc (v := x28) (lv' := [(4, .int x28), (2, .long x25), (0, .ref (G.2.2.1 124)), (1, .ref (G.2.2.1 k1))]) hx hb dX5_tellWord_43 hl (k := 3) rfl (by rw [ex28]; rfl) (by decide) rfl (fun ls hl => ?_)
          refine lv_goto (tgt := 5) hx hb dX5_tellWord_46 (by decide) ?_
          exact ih x25 x28 M27 _ _ ls hW hS (lv_sub hl [2, 3, 1, 0] rfl) hf
  exact loop5 FU (0 : Int64) (0 : Int32) M _ _ ls hW hS (lv_sub hl [2, 3, 1, 0] rfl) hL
theorem cl_RX7_34 {R : Room} {s : State} {args : Array Value} (hN : Nst s) (ht : ∀ w ∈ lw_all, w.before args s = true) (hR : 0 + 1 ≤ R.frames ∧ 8 + (2 + 11) + 0 ≤ R.locals) : va_CN R s args RX7 34 yX8_at "LinesOfFragments" cX8_at 2 (some .int) (wsq yX8_at cX8_at 2 (some .int)) (rmq 0 0) 0 0 2 ∧ (Cond.static yX8_at).before args s = true ∧ True := ⟨va_cnB 2 ht (goodC wd2_135) rfl rfl rfl (hN _ (List.mem_of_getElem? (l := nestL) (i := 9) rfl)) (ht _ wd1_1) (by decide +kernel) hR, ht _ wd2_134, trivial⟩
def f_X7_turnForced (k0 : Nat) (p1 : Int32) (M : Mem) : Option (Int32 × Mem) := (bq1 (f_X8_at (k0 + 3) p1 M) (fun (x1 : Int32) => bq1 (f_X8_put (k0 + 3) p1 ((1 : Int32) - x1) M) (fun (M3 : Mem) => bq1 (f_X8_at (k0 + 3) p1 M3) (fun (x5 : Int32) => some (x5, M3)))))
set_option maxHeartbeats 4000000 in
set_option maxRecDepth 100000 in
theorem ct_X7_turnForced (l : Launch) (G : GG) {k0 : Nat} {p1 : Int32} {M : Mem} {r : Int32} {Mr : Mem} (hk0 : isT 7 k0) (hf : f_X7_turnForced k0 p1 M = some (r, Mr)) : Met l yX7_turnForced (wsq yX7_turnForced cX7_turnForced 2 (some .int)) (rmq 1 22) (va_Pc [.ref (G.2.2.1 k0), .int p1] (World G M)) (Qi G r Mr) 0 0 (adA G) := by
  refine x_start (plainFor_of_name (by decide)) (Nat.le_of_ble_eq_true rfl) ?_
  intro p e s m args below meth c hB hr hlk hW hS ls hl
  have hx := hB.x
  have hb := hB.b
  have hl : lv_has ls 2 [(0, .ref (G.2.2.1 k0)), (1, .int p1)] := hl
  unfold f_X7_turnForced at hf
  refine lv_aload_n hx hb dX7_turnForced_0 rfl (lv_at hl 0 rfl) ?_
  refine fg7_2 hB hW hk0 wd1_48 dX7_turnForced_1 ?_
  refine lv_iload_n hx hb dX7_turnForced_4 rfl (lv_at hl 1 rfl) ?_
  refine lv_iconst (v := (1 : Int32)) hx hb dX7_turnForced_5 (by decide) ?_
  refine lv_aload_n hx hb dX7_turnForced_6 rfl (lv_at hl 0 rfl) ?_
  refine fg7_2 hB hW hk0 wd1_48 dX7_turnForced_7 ?_
  refine lv_iload_n hx hb dX7_turnForced_10 rfl (lv_at hl 1 rfl) ?_
  obtain ⟨x1, hg2, hf⟩ := b_o1 hf
  refine x_ci hB (x_rn hB hW hS (As := [.ref (G.2.2.1 (k0 + 3)), .int p1]) (rest := [.int (1 : Int32), .int p1, .ref (G.2.2.1 (k0 + 3))]) (ct_X8_at l G (rf7_2 hk0) hg2) (cl_RX7_34 hB.nst hB.2.2.2.2.1 ⟨Nat.le_of_ble_eq_true rfl, Nat.le_of_ble_eq_true rfl⟩) rfl hl.1 rfl (Nat.le_of_ble_eq_true rfl) dX7_turnForced_11 ⟨Nat.le_refl _, Nat.le_refl _⟩) hS (fun H locs hW hS => ?_)
  refine lv_isub hx hb dX7_turnForced_14 ?_
  obtain ⟨M3, hg4, hf⟩ := b_o1 hf
  refine x_cv hB (x_rn hB hW hS (As := [.ref (G.2.2.1 (k0 + 3)), .int p1, .int ((1 : Int32) - x1)]) (rest := []) (ct_X8_put l G (rf7_2 hk0) hg4) (cl_RX7_42 hB.nst hB.2.2.2.2.1 ⟨Nat.le_of_ble_eq_true rfl, Nat.le_of_ble_eq_true rfl⟩) rfl hl.1 rfl (Nat.le_of_ble_eq_true rfl) dX7_turnForced_15 ⟨Nat.le_refl _, Nat.le_refl _⟩) hS (fun H locs hW hS => ?_)
  refine lv_aload_n hx hb dX7_turnForced_18 rfl (lv_at hl 0 rfl) ?_
  refine fg7_2 hB hW hk0 wd1_48 dX7_turnForced_19 ?_
  refine lv_iload_n hx hb dX7_turnForced_22 rfl (lv_at hl 1 rfl) ?_
  obtain ⟨x5, hg6, hf⟩ := b_o1 hf
  refine x_ci hB (x_rn hB hW hS (As := [.ref (G.2.2.1 (k0 + 3)), .int p1]) (rest := []) (ct_X8_at l G (rf7_2 hk0) hg6) (cl_RX7_34 hB.nst hB.2.2.2.2.1 ⟨Nat.le_of_ble_eq_true rfl, Nat.le_of_ble_eq_true rfl⟩) rfl hl.1 rfl (Nat.le_of_ble_eq_true rfl) dX7_turnForced_23 ⟨Nat.le_refl _, Nat.le_refl _⟩) hS (fun H locs hW hS => ?_)
  exact e_i hB hW hS hr hlk (s_1 hf) (s_2 hf) dX7_turnForced_26
theorem cl_RX5_107 {R : Room} {s : State} {args : Array Value} (ht : ∀ w ∈ lw_all, w.before args s = true) (hR : 1 + 1 ≤ R.frames ∧ 8 + (2 + 11) + 22 ≤ R.locals) : CallW R s args RX5 RX7 107 yX7_turnForced cX7_turnForced 2 (some .int) (wsq yX7_turnForced cX7_turnForced 2 (some .int)) (rmq 1 22) 0 0 1 := cwV 1 ht (goodV wd3_7 wd3_8 wd3_9 wd1_3 wd3_10) rfl rfl rfl (by decide +kernel) hR
def f_X5_tellForced (k1 : Nat) (M : Mem) : Option (Int32 × Mem) := (if (gi M k1 3) = 0 then some ((0 : Int32), M) else (bq2 (f_X7_turnForced k1 ((gi M k1 3) - (1 : Int32)) M) (fun (x2 : Int32) (M3 : Mem) => some ((1 : Int32), M3))))
set_option maxHeartbeats 4000000 in
set_option maxRecDepth 100000 in
theorem ct_X5_tellForced (l : Launch) (G : GG) {k1 : Nat} {M : Mem} {r : Int32} {Mr : Mem} (hk1 : isT 7 k1) (hf : f_X5_tellForced k1 M = some (r, Mr)) : Met l yX5_tellForced (wsq yX5_tellForced cX5_tellForced 2 (some .boolean)) (rmq 2 43) (va_Pc [.ref (G.2.2.1 124), .ref (G.2.2.1 k1)] (World G M)) (Qi G r Mr) 0 0 (adA G) := by
  refine x_start (plainFor_of_name (by decide)) (Nat.le_of_ble_eq_true rfl) ?_
  intro p e s m args below meth c hB hr hlk hW hS ls hl
  have hx := hB.x
  have hb := hB.b
  have hl : lv_has ls 2 [(0, .ref (G.2.2.1 124)), (1, .ref (G.2.2.1 k1))] := hl
  unfold f_X5_tellForced at hf
  refine lv_aload_n hx hb dX5_tellForced_0 rfl (lv_at hl 1 rfl) ?_
  refine fg7_3 hB hW hk1 wd1_51 dX5_tellForced_1 ?_
  refine lv_if_ne (tgt := 9) hx hb dX5_tellForced_4 (by decide) (fun c1 => ?_) (fun c1 => ?_)
  · have hf := i_f hf c1
    refine lv_aload_n hx hb dX5_tellForced_9 rfl (lv_at hl 1 rfl) ?_
    refine lv_aload_n hx hb dX5_tellForced_10 rfl (lv_at hl 1 rfl) ?_
    refine fg7_3 hB hW hk1 wd1_51 dX5_tellForced_11 ?_
    refine lv_iconst (v := (1 : Int32)) hx hb dX5_tellForced_14 (by decide) ?_
    refine lv_isub hx hb dX5_tellForced_15 ?_
    obtain ⟨x2, M3, hg4, hf⟩ := b_o2 hf
    refine x_ci hB (x_rv hB hW hS (As := [.int ((gi M k1 3) - (1 : Int32))]) (rest := []) (ct_X7_turnForced l G hk1 hg4) (cl_RX5_107 hB.2.2.2.2.1 ⟨Nat.le_of_ble_eq_true rfl, Nat.le_of_ble_eq_true rfl⟩) hk1 (by decide) rfl rfl hl.1 rfl (Nat.le_of_ble_eq_true rfl) dX5_tellForced_16 ⟨Nat.le_refl _, Nat.le_refl _⟩) hS (fun H locs hW hS => ?_)
    refine lv_pop hx hb dX5_tellForced_19 rfl ?_
    refine lv_iconst (v := (1 : Int32)) hx hb dX5_tellForced_20 (by decide) ?_
    exact e_z (by decide) hB hW hS hr hlk (s_1 hf) (s_2 hf) dX5_tellForced_21
  · have hf := i_t hf c1
    refine lv_iconst (v := (0 : Int32)) hx hb dX5_tellForced_7 (by decide) ?_
    exact e_z (by decide) hB hW hS hr hlk (s_1 hf) (s_2 hf) dX5_tellForced_8
def f_X5_number_L4 (p1 : Int32) (K4 : Int32 → Int32 → Mem → Option (Int32 × Mem)) (x1 : Int32) (x2 : Int32) (M3 : Mem) : Option (Int32 × Mem) := (if p1 ≤ x2 then (some (x1, M3)) else (bq1 (f_X5_here M3) (fun (x12 : Int32) => nmq (((((10 : Int32) * x1) + x12) - (48 : Int32))) (fun (x14 : Int32) => nmq (si M3 124 3 ((gi M3 124 3) + (1 : Int32))) (fun (M15 : Mem) => nmq (x2 + (1 : Int32)) (fun (x16 : Int32) => (K4 x14 x16 M15)))))))
def f_X5_number (p1 : Int32) (M : Mem) : Option (Int32 × Mem) := (bq2 (lq3 (f_X5_number_L4 p1) FU (0 : Int32) (0 : Int32) M) (fun (x6 : Int32) (M7 : Mem) => some (x6, M7)))
set_option maxHeartbeats 4000000 in
set_option maxRecDepth 100000 in
theorem ct_X5_number (l : Launch) (G : GG) {p1 : Int32} {M : Mem} {r : Int32} {Mr : Mem}  (hf : f_X5_number p1 M = some (r, Mr)) : Met l yX5_number (wsq yX5_number cX5_number 4 (some .int)) (rmq 2 41) (va_Pc [.ref (G.2.2.1 124), .int p1] (World G M)) (Qi G r Mr) 0 0 (adA G) := by
  refine x_start (plainFor_of_name (by decide)) (Nat.le_of_ble_eq_true rfl) ?_
  intro p e s m args below meth c hB hr hlk hW hS ls hl
  have hx := hB.x
  have hb := hB.b
  have hl : lv_has ls 4 [(0, .ref (G.2.2.1 124)), (1, .int p1)] := hl
  unfold f_X5_number at hf
  refine lv_iconst (v := (0 : Int32)) hx hb dX5_number_0 (by decide) ?_
  refine lv_istore_n (lv' := [(2, .int (0 : Int32)), (0, .ref (G.2.2.1 124)), (1, .int p1)]) hx hb dX5_number_1 rfl hl (by decide) rfl (fun ls hl => ?_)
  refine lv_iconst (v := (0 : Int32)) hx hb dX5_number_2 (by decide) ?_
  refine lv_istore_n (lv' := [(3, .int (0 : Int32)), (2, .int (0 : Int32)), (0, .ref (G.2.2.1 124)), (1, .int p1)]) hx hb dX5_number_3 rfl hl (by decide) rfl (fun ls hl => ?_)
  obtain ⟨y8, M9, hL, hf⟩ := b_o2 hf
  have main10 : ∀ (x6 : Int32) (M7 : Mem) (H : Heap) (locs : List Loc) (ls : Array Slot), Wd G M7 H → va_S (adA G) s.heap H locs → lv_has ls 4 [(2, .int x6)] → some (x6, M7) = some (y8, M9) → W p l e (rmq 2 41) s m args below meth c H locs 0 0 (MQ below (Qi G r Mr) args s 0 0 (adA G)) (F0 m 38 ls []) := by
    intro x6 M7 H locs ls hW hS hl hE
    cases hE
    refine lv_iload_n hx hb dX5_number_38 rfl (lv_at hl 0 rfl) ?_
    exact e_i hB hW hS hr hlk (s_1 hf) (s_2 hf) dX5_number_39
  have loop5 : ∀ (n : Nat) (x1 : Int32) (x2 : Int32) (M3 : Mem) (H : Heap) (locs : List Loc) (ls : Array Slot), Wd G M3 H → va_S (adA G) s.heap H locs → lv_has ls 4 [(0, .ref (G.2.2.1 124)), (1, .int p1), (2, .int x1), (3, .int x2)] → lq3 (f_X5_number_L4 p1) n x1 x2 M3 = some (y8, M9) → W p l e (rmq 2 41) s m args below meth c H locs 0 0 (MQ below (Qi G r Mr) args s 0 0 (adA G)) (F0 m 4 ls []) := by
    intro n
    induction n with
    | zero => intro x1 x2 M3 H locs ls hW hS hl hf; exact (l_z3 hf).elim
    | succ n ih =>
      intro x1 x2 M3 H locs ls hW hS hl hf
      have hf := l_s3 hf
      generalize lq3 (f_X5_number_L4 p1) n = K4 at ih hf
      unfold f_X5_number_L4 at hf
      refine lv_iload_n hx hb dX5_number_4 rfl (lv_at hl 3 rfl) ?_
      refine lv_iload_n hx hb dX5_number_5 rfl (lv_at hl 1 rfl) ?_
      refine lv_icmp_ge (tgt := 38) hx hb dX5_number_6 (by decide) (fun c11 => ?_) (fun c11 => ?_)
      · have hf := i_t hf c11
        exact main10 x1 M3 _ _ ls hW hS (lv_sub hl [2] rfl) hf
      · have hf := i_f hf c11
        refine lv_bipush (v := (10 : Int32)) hx hb dX5_number_9 (by decide) ?_
        refine lv_iload_n hx hb dX5_number_11 rfl (lv_at hl 2 rfl) ?_
        refine lv_imul hx hb dX5_number_12 ?_
        refine lv_aload_n hx hb dX5_number_13 rfl (lv_at hl 0 rfl) ?_
        obtain ⟨x12, hg13, hf⟩ := b_o1 hf
        refine x_ci hB (x_rv hB hW hS (As := []) (rest := [.int ((10 : Int32) * x1)]) (ct_X5_here l G hg13) (cl_RX5_41 hB.2.2.2.2.1 ⟨Nat.le_of_ble_eq_true rfl, Nat.le_of_ble_eq_true rfl⟩) tl124 (by decide) rfl rfl hl.1 rfl (Nat.le_of_ble_eq_true rfl) dX5_number_14 ⟨Nat.le_refl _, Nat.le_refl _⟩) hS (fun H locs hW hS => ?_)
        refine lv_iadd hx hb dX5_number_17 ?_
        refine lv_bipush (v := (48 : Int32)) hx hb dX5_number_18 (by decide) ?_
        refine lv_isub hx hb dX5_number_20 ?_
        refine lv_topi (fun x14 ex14 => ?_)
        have hf := nm_o hf ex14
        refine lv_istore_n (lv' := [(2, .int x14), (0, .ref (G.2.2.1 124)), (1, .int p1), (3, .int x2)]) hx hb dX5_number_21 rfl hl (by decide) rfl (fun ls hl => ?_)
        refine lv_aload_n hx hb dX5_number_22 rfl (lv_at hl 1 rfl) ?_
        refine lv_dup hx hb dX5_number_23 rfl ?_
        refine fg5_3 hB hW tl124 wd1_190 dX5_number_24 ?_
        refine lv_iconst (v := (1 : Int32)) hx hb dX5_number_27 (by decide) ?_
        refine lv_iadd hx hb dX5_number_28 ?_
        refine fp5_3 hB hW hS tl124 wd1_190 dX5_number_29 (fun H locs M15 eM15 hW hS => ?_)
        have hf := nm_o hf eM15
        obtain ⟨x16, ex16⟩ : ∃ y : Int32, y = x2 + (1 : Int32) := ⟨_, rfl⟩
        have hf := nm_o hf ex16
        refine lv_iinc (v := x16) (lv' := [(3, .int x16), (2, .int x14), (0, .ref (G.2.2.1 124)), (1, .int p1)]) hx hb dX5_number_32 hl (k := 3) rfl (by rw [ex16]; rfl) (by decide) rfl (fun ls hl => ?_)
        refine lv_goto (tgt := 4) hx hb dX5_number_35 (by decide) ?_
        exact ih x14 x16 M15 _ _ ls hW hS (lv_sub hl [2, 3, 1, 0] rfl) hf
  exact loop5 FU (0 : Int32) (0 : Int32) M _ _ ls hW hS (lv_sub hl [2, 3, 1, 0] rfl) hL
def f_X4_spellingOf (k0 : Nat) (p1 : Int32) (M : Mem) : Option Int64 := (if p1 < 0 then some (0 : Int64) else (if (8 : Int32) ≤ p1 then some (0 : Int64) else (gq (inB p1 8) (some (gl M (k0 + 1) ((p1 : Int32).toNatClampNeg))))))
set_option maxHeartbeats 4000000 in
set_option maxRecDepth 100000 in
theorem ct_X4_spellingOf (l : Launch) (G : GG) {k0 : Nat} {p1 : Int32} {M : Mem} {r : Int64} (hk0 : isT 4 k0) (hf : f_X4_spellingOf k0 p1 M = some r) : Met l yX4_spellingOf (wsq yX4_spellingOf cX4_spellingOf 2 (some .long)) (rmq 0 0) (va_Pc [.ref (G.2.2.1 k0), .int p1] (World G M)) (Ql G r M) 0 0 (adA G) := by
  refine x_start (plainFor_of_name (by decide)) (Nat.le_of_ble_eq_true rfl) ?_
  intro p e s m args below meth c hB hr hlk hW hS ls hl
  have hx := hB.x
  have hb := hB.b
  have hl : lv_has ls 2 [(0, .ref (G.2.2.1 k0)), (1, .int p1)] := hl
  unfold f_X4_spellingOf at hf
  refine lv_iload_n hx hb dX4_spellingOf_0 rfl (lv_at hl 1 rfl) ?_
  refine lv_if_lt (tgt := 22) hx hb dX4_spellingOf_1 (by decide) (fun c1 => ?_) (fun c1 => ?_)
  · have hf := i_t hf c1
    refine lv_lconst (v := (0 : Int64)) hx hb dX4_spellingOf_22 (by decide) ?_
    exact e_l hB hW hS hr hlk (Option.some.inj hf) rfl dX4_spellingOf_23
  · have hf := i_f hf c1
    refine lv_iload_n hx hb dX4_spellingOf_4 rfl (lv_at hl 1 rfl) ?_
    refine lv_aload_n hx hb dX4_spellingOf_5 rfl (lv_at hl 0 rfl) ?_
    refine fg4_0 hB hW hk0 wd1_70 dX4_spellingOf_6 ?_
    refine x_alen hB hW (rf4_0 hk0) (by decide) (ra4_0 hk0) (v := (8 : Int32)) rfl dX4_spellingOf_9 ?_
    refine lv_icmp_ge (tgt := 22) hx hb dX4_spellingOf_10 (by decide) (fun c2 => ?_) (fun c2 => ?_)
    · have hf := i_t hf c2
      refine lv_lconst (v := (0 : Int64)) hx hb dX4_spellingOf_22 (by decide) ?_
      exact e_l hB hW hS hr hlk (Option.some.inj hf) rfl dX4_spellingOf_23
    · have hf := i_f hf c2
      refine lv_aload_n hx hb dX4_spellingOf_13 rfl (lv_at hl 0 rfl) ?_
      refine fg4_0 hB hW hk0 wd1_70 dX4_spellingOf_14 ?_
      refine lv_iload_n hx hb dX4_spellingOf_17 rfl (lv_at hl 1 rfl) ?_
      obtain ⟨h3, hf⟩ := g_o hf
      refine x_lald hB hW (rf4_0 hk0) (ra4_0 hk0) h3 dX4_spellingOf_18 ?_
      refine lv_goto (tgt := 23) hx hb dX4_spellingOf_19 (by decide) ?_
      exact e_l hB hW hS hr hlk (Option.some.inj hf) rfl dX4_spellingOf_23
