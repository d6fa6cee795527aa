def f_X9_badness (p1 : Int32) (M : Mem) : Option (Int32 × Mem) := (bq2 (f_X9_isLine p1 M) (fun (x1 : Int32) (M2 : Mem) => (if x1 = 0 then some ((0 : Int32), M2) else (gq (inB p1 162) (gq (inB (p1 + (1 : Int32)) 162) (bq1 (f_X9_badnessOf (gi M2 155 ((p1 : Int32).toNatClampNeg)) (gi M2 155 (((p1 + (1 : Int32)) : Int32).toNatClampNeg)) M2) (fun (x7 : UInt32) => bq1 (f_Jxf58ca_floatToIntBits_5c35a x7) (fun (x9 : Int32) => some (x9, M2)))))))))
set_option maxHeartbeats 4000000 in
set_option maxRecDepth 100000 in
theorem ct_X9_badness (l : Launch) (G : GG) {p1 : Int32} {M : Mem} {r : Int32} {Mr : Mem}  (hf : f_X9_badness p1 M = some (r, Mr)) : Met l yX9_badness (wsq yX9_badness cX9_badness 2 (some .int)) (rmq 7 162) (va_Pc [.ref (G.2.2.1 139), .int p1] (World G M)) (Qi G r Mr) 0 0 (adA G) := by
  refine x_start (plainFor_of_name (by decide)) (Nat.le_of_ble_eq_true rfl) ?_
  intro p e s m args below meth c hB hr hlk hW hS ls hl
  have hx := hB.x
  have hb := hB.b
  have hl : lv_has ls 2 [(0, .ref (G.2.2.1 139)), (1, .int p1)] := hl
  unfold f_X9_badness at hf
  refine lv_aload_n hx hb dX9_badness_0 rfl (lv_at hl 0 rfl) ?_
  refine lv_iload_n hx hb dX9_badness_1 rfl (lv_at hl 1 rfl) ?_
  obtain ⟨x1, M2, hg3, hf⟩ := b_o2 hf
  refine x_ci hB (x_rv hB hW hS (As := [.int p1]) (rest := []) (ct_X9_isLine l G hg3) (cl_RX9_351 hB.2.2.2.2.1 ⟨Nat.le_of_ble_eq_true rfl, Nat.le_of_ble_eq_true rfl⟩) tl139 (by decide) rfl rfl hl.1 rfl (Nat.le_of_ble_eq_true rfl) dX9_badness_2 ⟨Nat.le_refl _, Nat.le_refl _⟩) hS (fun H locs hW hS => ?_)
  refine lv_if_eq (tgt := 32) hx hb dX9_badness_5 (by decide) (fun c4 => ?_) (fun c4 => ?_)
  · have hf := i_t hf c4
    refine lv_iconst (v := (0 : Int32)) hx hb dX9_badness_32 (by decide) ?_
    exact e_i hB hW hS hr hlk (s_1 hf) (s_2 hf) dX9_badness_33
  · have hf := i_f hf c4
    refine lv_aload_n hx hb dX9_badness_8 rfl (lv_at hl 0 rfl) ?_
    refine lv_aload_n hx hb dX9_badness_9 rfl (lv_at hl 0 rfl) ?_
    refine fg9_28 hB hW tl139 wd5_107 dX9_badness_10 ?_
    refine lv_iload_n hx hb dX9_badness_13 rfl (lv_at hl 1 rfl) ?_
    obtain ⟨h5, hf⟩ := g_o hf
    refine x_iald hB hW tl155 al155 h5 dX9_badness_14 ?_
    refine lv_aload_n hx hb dX9_badness_15 rfl (lv_at hl 0 rfl) ?_
    refine fg9_28 hB hW tl139 wd5_107 dX9_badness_16 ?_
    refine lv_iload_n hx hb dX9_badness_19 rfl (lv_at hl 1 rfl) ?_
    refine lv_iconst (v := (1 : Int32)) hx hb dX9_badness_20 (by decide) ?_
    refine lv_iadd hx hb dX9_badness_21 ?_
    obtain ⟨h6, hf⟩ := g_o hf
    refine x_iald hB hW tl155 al155 h6 dX9_badness_22 ?_
    obtain ⟨x7, hg8, hf⟩ := b_o1 hf
    refine x_cf hB (x_rv hB hW hS (As := [.int (gi M2 155 ((p1 : Int32).toNatClampNeg)), .int (gi M2 155 (((p1 + (1 : Int32)) : Int32).toNatClampNeg))]) (rest := []) (ct_X9_badnessOf l G hg8) (cl_RX9_186 hB.2.2.2.2.1 ⟨Nat.le_of_ble_eq_true rfl, Nat.le_of_ble_eq_true rfl⟩) tl139 (by decide) rfl rfl hl.1 rfl (Nat.le_of_ble_eq_true rfl) dX9_badness_23 ⟨Nat.le_refl _, Nat.le_refl _⟩) hS (fun H locs hW hS => ?_)
    obtain ⟨x9, hg10, hf⟩ := b_o1 hf
    refine x_ci hB (x_rs hB hW hS (As := [.float x7]) (rest := []) (ct_Jxf58ca_floatToIntBits_5c35a l G hg10) (cl_RX9_354 hB.2.2.2.2.1 ⟨Nat.le_of_ble_eq_true rfl, Nat.le_of_ble_eq_true rfl⟩) rfl hl.1 rfl (Nat.le_of_ble_eq_true rfl) dX9_badness_26 ⟨Nat.le_refl _, Nat.le_refl _⟩) hS (fun H locs hW hS => ?_)
    refine lv_goto (tgt := 33) hx hb dX9_badness_29 (by decide) ?_
    exact e_i hB hW hS hr hlk (s_1 hf) (s_2 hf) dX9_badness_33
def f_X9_demerits (p1 : Int32) (M : Mem) : Option (Int32 × Mem) := (bq2 (f_X9_isLine p1 M) (fun (x1 : Int32) (M2 : Mem) => (if x1 = 0 then some ((0 : Int32), M2) else (gq (inB p1 162) (gq (inB (p1 + (1 : Int32)) 162) (bq1 (f_X9_demeritsOf (gi M2 155 ((p1 : Int32).toNatClampNeg)) (gi M2 155 (((p1 + (1 : Int32)) : Int32).toNatClampNeg)) M2) (fun (x7 : UInt32) => bq1 (f_Jxf58ca_floatToIntBits_5c35a x7) (fun (x9 : Int32) => some (x9, M2)))))))))
set_option maxHeartbeats 4000000 in
set_option maxRecDepth 100000 in
theorem ct_X9_demerits (l : Launch) (G : GG) {p1 : Int32} {M : Mem} {r : Int32} {Mr : Mem}  (hf : f_X9_demerits p1 M = some (r, Mr)) : Met l yX9_demerits (wsq yX9_demerits cX9_demerits 2 (some .int)) (rmq 7 162) (va_Pc [.ref (G.2.2.1 139), .int p1] (World G M)) (Qi G r Mr) 0 0 (adA G) := by
  refine x_start (plainFor_of_name (by decide)) (Nat.le_of_ble_eq_true rfl) ?_
  intro p e s m args below meth c hB hr hlk hW hS ls hl
  have hx := hB.x
  have hb := hB.b
  have hl : lv_has ls 2 [(0, .ref (G.2.2.1 139)), (1, .int p1)] := hl
  unfold f_X9_demerits at hf
  refine lv_aload_n hx hb dX9_demerits_0 rfl (lv_at hl 0 rfl) ?_
  refine lv_iload_n hx hb dX9_demerits_1 rfl (lv_at hl 1 rfl) ?_
  obtain ⟨x1, M2, hg3, hf⟩ := b_o2 hf
  refine x_ci hB (x_rv hB hW hS (As := [.int p1]) (rest := []) (ct_X9_isLine l G hg3) (cl_RX9_351 hB.2.2.2.2.1 ⟨Nat.le_of_ble_eq_true rfl, Nat.le_of_ble_eq_true rfl⟩) tl139 (by decide) rfl rfl hl.1 rfl (Nat.le_of_ble_eq_true rfl) dX9_demerits_2 ⟨Nat.le_refl _, Nat.le_refl _⟩) hS (fun H locs hW hS => ?_)
  refine lv_if_eq (tgt := 32) hx hb dX9_demerits_5 (by decide) (fun c4 => ?_) (fun c4 => ?_)
  · have hf := i_t hf c4
    refine lv_iconst (v := (0 : Int32)) hx hb dX9_demerits_32 (by decide) ?_
    exact e_i hB hW hS hr hlk (s_1 hf) (s_2 hf) dX9_demerits_33
  · have hf := i_f hf c4
    refine lv_aload_n hx hb dX9_demerits_8 rfl (lv_at hl 0 rfl) ?_
    refine lv_aload_n hx hb dX9_demerits_9 rfl (lv_at hl 0 rfl) ?_
    refine fg9_28 hB hW tl139 wd5_107 dX9_demerits_10 ?_
    refine lv_iload_n hx hb dX9_demerits_13 rfl (lv_at hl 1 rfl) ?_
    obtain ⟨h5, hf⟩ := g_o hf
    refine x_iald hB hW tl155 al155 h5 dX9_demerits_14 ?_
    refine lv_aload_n hx hb dX9_demerits_15 rfl (lv_at hl 0 rfl) ?_
    refine fg9_28 hB hW tl139 wd5_107 dX9_demerits_16 ?_
    refine lv_iload_n hx hb dX9_demerits_19 rfl (lv_at hl 1 rfl) ?_
    refine lv_iconst (v := (1 : Int32)) hx hb dX9_demerits_20 (by decide) ?_
    refine lv_iadd hx hb dX9_demerits_21 ?_
    obtain ⟨h6, hf⟩ := g_o hf
    refine x_iald hB hW tl155 al155 h6 dX9_demerits_22 ?_
    obtain ⟨x7, hg8, hf⟩ := b_o1 hf
    refine x_cf hB (x_rv hB hW hS (As := [.int (gi M2 155 ((p1 : Int32).toNatClampNeg)), .int (gi M2 155 (((p1 + (1 : Int32)) : Int32).toNatClampNeg))]) (rest := []) (ct_X9_demeritsOf l G hg8) (cl_RX9_199 hB.2.2.2.2.1 ⟨Nat.le_of_ble_eq_true rfl, Nat.le_of_ble_eq_true rfl⟩) tl139 (by decide) rfl rfl hl.1 rfl (Nat.le_of_ble_eq_true rfl) dX9_demerits_23 ⟨Nat.le_refl _, Nat.le_refl _⟩) hS (fun H locs hW hS => ?_)
    obtain ⟨x9, hg10, hf⟩ := b_o1 hf
    refine x_ci hB (x_rs hB hW hS (As := [.float x7]) (rest := []) (ct_Jxf58ca_floatToIntBits_5c35a l G hg10) (cl_RX9_354 hB.2.2.2.2.1 ⟨Nat.le_of_ble_eq_true rfl, Nat.le_of_ble_eq_true rfl⟩) rfl hl.1 rfl (Nat.le_of_ble_eq_true rfl) dX9_demerits_26 ⟨Nat.le_refl _, Nat.le_refl _⟩) hS (fun H locs hW hS => ?_)
    refine lv_goto (tgt := 33) hx hb dX9_demerits_29 (by decide) ?_
    exact e_i hB hW hS hr hlk (s_1 hf) (s_2 hf) dX9_demerits_33
def f_X9_findByOf_L11 (p1 : Int32) (K6 : Int32 → Mem → Option (Mem)) (x4 : Int32) (M5 : Mem) : Option (Mem) := (if x4 < 0 then (some (M5)) else (gq (inB x4 161) ((bq1 ((if (gi M5 167 ((x4 : Int32).toNatClampNeg)) = (1 : Int32) then (bq1 (f_X9_fits x4 p1 M5) (fun (x24 : Int32) => (if x24 = 0 then (some (M5)) else (gq (inB x4 161) (bq1 (f_X9_demeritsOf x4 p1 M5) (fun (x28 : UInt32) => nmq (FP.fadd (gf M5 165 ((x4 : Int32).toNatClampNeg)) x28) (fun (x30 : UInt32) => gq (nN x30) (gq (inB p1 161) ((bq1 ((jq (fun (_ : Unit) => (gq (inB p1 161) (nmq (sf M5 164 ((p1 : Int32).toNatClampNeg) x30) (fun (M41 : Mem) => (some (M41)))))) (fun (K39 : Unit → Option (Mem)) => (if (gi M5 166 ((p1 : Int32).toNatClampNeg)) = 0 then (K39 ()) else (gq (inB p1 161) ((if 0 ≤ (fcg x30 (gf M5 164 ((p1 : Int32).toNatClampNeg))) then (some (M5)) else (K39 ()))))))) : Option (Mem)) (fun (M33 : Mem) => (gq (inB p1 161) (nmq (si M33 166 ((p1 : Int32).toNatClampNeg) (1 : Int32)) (fun (M36 : Mem) => (some (M36)))))))))))))))) else (some (M5))) : Option (Mem)) (fun (M13 : Mem) => (jq (fun (x15 : Int32) => (nmq ((x15 - (1 : Int32))) (fun (x18 : Int32) => (K6 x18 M13)))) (fun (K17 : Int32 → Option (Mem)) => (if x4 ≤ 0 then (K17 x4) else (gq (inB (x4 - (1 : Int32)) 161) ((if (gi M13 151 (((x4 - (1 : Int32)) : Int32).toNatClampNeg)) = (2 : Int32) then (K6 (-1 : Int32) M13) else (K17 x4))))))))))))
def f_X9_findByOf (p1 : Int32) (M : Mem) : Option Mem := (gq (inB p1 161) (nmq (si M 166 ((p1 : Int32).toNatClampNeg) (0 : Int32)) (fun (M2 : Mem) => nmq ((p1 - (1 : Int32))) (fun (x3 : Int32) => (bq1 (lq2 (f_X9_findByOf_L11 p1) FU x3 M2) (fun (M8 : Mem) => some M8))))))
set_option maxHeartbeats 4000000 in
set_option maxRecDepth 100000 in
theorem ct_X9_findByOf (l : Launch) (G : GG) {p1 : Int32} {M : Mem} {Mr : Mem}  (hf : f_X9_findByOf p1 M = some Mr) : Met l yX9_findByOf (wsq yX9_findByOf cX9_findByOf 4 none) (rmq 4 96) (va_Pc [.ref (G.2.2.1 139), .int p1] (World G M)) (Qv G Mr) 0 0 (adA G) := by
  refine x_start (plainFor_of_name (by decide)) (Nat.le_of_ble_eq_true rfl) ?_
  intro p e s m args below meth c hB hr hlk hW hS ls hl
  have hx := hB.x
  have hb := hB.b
  have hl : lv_has ls 4 [(0, .ref (G.2.2.1 139)), (1, .int p1)] := hl
  unfold f_X9_findByOf at hf
  refine lv_aload_n hx hb dX9_findByOf_0 rfl (lv_at hl 0 rfl) ?_
  refine fg9_49 hB hW tl139 wd5_128 dX9_findByOf_1 ?_
  refine lv_iload_n hx hb dX9_findByOf_4 rfl (lv_at hl 1 rfl) ?_
  refine lv_iconst (v := (0 : Int32)) hx hb dX9_findByOf_5 (by decide) ?_
  obtain ⟨h1, hf⟩ := g_o hf
  refine x_i hB hW hS tl166 al166 h1 dX9_findByOf_6 (fun H locs M2 eM2 hW hS => ?_)
  have hf := nm_o hf eM2
  refine lv_iload_n hx hb dX9_findByOf_7 rfl (lv_at hl 1 rfl) ?_
  refine lv_iconst (v := (1 : Int32)) hx hb dX9_findByOf_8 (by decide) ?_
  refine lv_isub hx hb dX9_findByOf_9 ?_
  refine lv_topi (fun x3 ex3 => ?_)
  have hf := nm_o hf ex3
  refine lv_istore_n (lv' := [(2, .int x3), (0, .ref (G.2.2.1 139)), (1, .int p1)]) hx hb dX9_findByOf_10 rfl hl (by decide) rfl (fun ls hl => ?_)
  obtain ⟨M9, hL, hf⟩ := b_o1 hf
  have main10 : ∀ (M8 : Mem) (H : Heap) (locs : List Loc) (ls : Array Slot), Wd G M8 H → va_S (adA G) s.heap H locs → lv_has ls 4 [] → some (M8) = some (M9) → W p l e (rmq 4 96) s m args below meth c H locs 0 0 (MQ below (Qv G Mr) args s 0 0 (adA G)) (F0 m 109 ls []) := by
    intro M8 H locs ls hW hS hl hE
    cases hE
    exact e_v hB hW hS hr hlk (Option.some.inj hf) dX9_findByOf_109
  have loop7 : ∀ (n : Nat) (x4 : Int32) (M5 : Mem) (H : Heap) (locs : List Loc) (ls : Array Slot), Wd G M5 H → va_S (adA G) s.heap H locs → lv_has ls 4 [(0, .ref (G.2.2.1 139)), (1, .int p1), (2, .int x4)] → lq2 (f_X9_findByOf_L11 p1) n x4 M5 = some (M9) → W p l e (rmq 4 96) s m args below meth c H locs 0 0 (MQ below (Qv G Mr) args s 0 0 (adA G)) (F0 m 11 ls []) := by
    intro n
    induction n with
    | zero => intro x4 M5 H locs ls hW hS hl hf; exact (l_z2 hf).elim
    | succ n ih =>
      intro x4 M5 H locs ls hW hS hl hf
      have hf := l_s2 hf
      generalize lq2 (f_X9_findByOf_L11 p1) n = K6 at ih hf
      unfold f_X9_findByOf_L11 at hf
      refine lv_iload_n hx hb dX9_findByOf_11 rfl (lv_at hl 2 rfl) ?_
      refine lv_if_lt (tgt := 109) hx hb dX9_findByOf_12 (by decide) (fun c11 => ?_) (fun c11 => ?_)
      · have hf := i_t hf c11
        exact main10 M5 _ _ ls hW hS (lv_sub hl [] rfl) hf
      · have hf := i_f hf c11
        refine lv_aload_n hx hb dX9_findByOf_15 rfl (lv_at hl 0 rfl) ?_
        refine fg9_50 hB hW tl139 wd5_129 dX9_findByOf_16 ?_
        refine lv_iload_n hx hb dX9_findByOf_19 rfl (lv_at hl 2 rfl) ?_
        obtain ⟨h12, hf⟩ := g_o hf
        refine x_iald hB hW tl167 al167 h12 dX9_findByOf_20 ?_
        refine lv_iconst (v := (1 : Int32)) hx hb dX9_findByOf_21 (by decide) ?_
        obtain ⟨M22, hR, hf⟩ := b_o1 hf
        have main14 : ∀ (M13 : Mem) (H : Heap) (locs : List Loc) (ls : Array Slot), Wd G M13 H → va_S (adA G) s.heap H locs → lv_has ls 4 [(0, .ref (G.2.2.1 139)), (1, .int p1), (2, .int x4)] → some (M13) = some (M22) → W p l e (rmq 4 96) s m args below meth c H locs 0 0 (MQ below (Qv G Mr) args s 0 0 (adA G)) (F0 m 82 ls []) := by
          intro M13 H locs ls hW hS hl hE
          cases hE
          refine lv_iload_n hx hb dX9_findByOf_82 rfl (lv_at hl 2 rfl) ?_
          obtain ⟨K17, eK17, hf⟩ := j_o hf
          have main16 : ∀ (x15 : Int32) (H : Heap) (locs : List Loc) (ls : Array Slot), Wd G M22 H → va_S (adA G) s.heap H locs → lv_has ls 4 [(0, .ref (G.2.2.1 139)), (1, .int p1), (2, .int x15)] → K17 x15 = some (M9) → W p l e (rmq 4 96) s m args below meth c H locs 0 0 (MQ below (Qv G Mr) args s 0 0 (adA G)) (F0 m 102 ls []) := by
            intro x15 H locs ls hW hS hl hf
            subst eK17
            refine lv_iload_n hx hb dX9_findByOf_102 rfl (lv_at hl 2 rfl) ?_
            refine lv_iconst (v := (1 : Int32)) hx hb dX9_findByOf_103 (by decide) ?_
            refine lv_isub hx hb dX9_findByOf_104 ?_
            refine lv_topi (fun x18 ex18 => ?_)
            have hf := nm_o hf ex18
            refine lv_istore_n (lv' := [(2, .int x18), (0, .ref (G.2.2.1 139)), (1, .int p1)]) hx hb dX9_findByOf_105 rfl hl (by decide) rfl (fun ls hl => ?_)
            refine lv_goto (tgt := 11) hx hb dX9_findByOf_106 (by decide) ?_
            exact ih x18 M22 _ _ ls hW hS (lv_sub hl [1, 2, 0] rfl) hf
          refine lv_if_le (tgt := 102) hx hb dX9_findByOf_83 (by decide) (fun c19 => ?_) (fun c19 => ?_)
          · have hf := i_t hf c19
            exact main16 x4 _ _ ls hW hS (lv_sub hl [0, 1, 2] rfl) hf
          · have hf := i_f hf c19
            refine lv_aload_n hx hb dX9_findByOf_86 rfl (lv_at hl 0 rfl) ?_
            refine fg9_23 hB hW tl139 wd5_102 dX9_findByOf_87 ?_
            refine lv_iload_n hx hb dX9_findByOf_90 rfl (lv_at hl 2 rfl) ?_
            refine lv_iconst (v := (1 : Int32)) hx hb dX9_findByOf_91 (by decide) ?_
            refine lv_isub hx hb dX9_findByOf_92 ?_
            obtain ⟨h20, hf⟩ := g_o hf
            refine x_iald hB hW tl151 al151 h20 dX9_findByOf_93 ?_
            refine lv_iconst (v := (2 : Int32)) hx hb dX9_findByOf_94 (by decide) ?_
            refine lv_icmp_ne (tgt := 102) hx hb dX9_findByOf_95 (by decide) (fun c21 => ?_) (fun c21 => ?_)
            · have hf := i_f hf c21
              exact main16 x4 _ _ ls hW hS (lv_sub hl [0, 1, 2] rfl) hf
            · have hf := i_t hf c21
              refine lv_iconst (v := (-1 : Int32)) hx hb dX9_findByOf_98 (by decide) ?_
              refine lv_goto (tgt := 105) hx hb dX9_findByOf_99 (by decide) ?_
              refine lv_istore_n (lv' := [(2, .int (-1 : Int32)), (0, .ref (G.2.2.1 139)), (1, .int p1)]) hx hb dX9_findByOf_105 rfl hl (by decide) rfl (fun ls hl => ?_)
              refine lv_goto (tgt := 11) hx hb dX9_findByOf_106 (by decide) ?_
              exact ih (-1 : Int32) M22 _ _ ls hW hS (lv_sub hl [1, 2, 0] rfl) hf
        have hf := hR
        refine lv_icmp_ne (tgt := 82) hx hb dX9_findByOf_22 (by decide) (fun c23 => ?_) (fun c23 => ?_)
        · have hf := i_f hf c23
          exact main14 M5 _ _ ls hW hS (lv_sub hl [0, 1, 2] rfl) hf
        · have hf := i_t hf c23
          refine lv_aload_n hx hb dX9_findByOf_25 rfl (lv_at hl 0 rfl) ?_
          refine lv_iload_n hx hb dX9_findByOf_26 rfl (lv_at hl 2 rfl) ?_
          refine lv_iload_n hx hb dX9_findByOf_27 rfl (lv_at hl 1 rfl) ?_
          obtain ⟨x24, hg25, hf⟩ := b_o1 hf
          refine x_ci hB (x_rv hB hW hS (As := [.int x4, .int p1]) (rest := []) (ct_X9_fits l G hg25) (cl_RX9_196 hB.2.2.2.2.1 ⟨Nat.le_of_ble_eq_true rfl, Nat.le_of_ble_eq_true rfl⟩) tl139 (by decide) rfl rfl hl.1 rfl (Nat.le_of_ble_eq_true rfl) dX9_findByOf_28 ⟨Nat.le_refl _, Nat.le_refl _⟩) hS (fun H locs hW hS => ?_)
          refine lv_if_eq (tgt := 82) hx hb dX9_findByOf_31 (by decide) (fun c26 => ?_) (fun c26 => ?_)
          · have hf := i_t hf c26
            exact main14 M5 _ _ ls hW hS (lv_sub hl [0, 1, 2] rfl) hf
          · have hf := i_f hf c26
            refine lv_aload_n hx hb dX9_findByOf_34 rfl (lv_at hl 0 rfl) ?_
            refine fg9_48 hB hW tl139 wd5_127 dX9_findByOf_35 ?_
            refine lv_iload_n hx hb dX9_findByOf_38 rfl (lv_at hl 2 rfl) ?_
            obtain ⟨h27, hf⟩ := g_o hf
            refine x_fald hB hW tl165 al165 h27 dX9_findByOf_39 ?_
            refine lv_aload_n hx hb dX9_findByOf_40 rfl (lv_at hl 0 rfl) ?_
            refine lv_iload_n hx hb dX9_findByOf_41 rfl (lv_at hl 2 rfl) ?_
            refine lv_iload_n hx hb dX9_findByOf_42 rfl (lv_at hl 1 rfl) ?_
            obtain ⟨x28, hg29, hf⟩ := b_o1 hf
            refine x_cf hB (x_rv hB hW hS (As := [.int x4, .int p1]) (rest := [.float (gf M5 165 ((x4 : Int32).toNatClampNeg))]) (ct_X9_demeritsOf l G hg29) (cl_RX9_199 hB.2.2.2.2.1 ⟨Nat.le_of_ble_eq_true rfl, Nat.le_of_ble_eq_true rfl⟩) tl139 (by decide) rfl rfl hl.1 rfl (Nat.le_of_ble_eq_true rfl) dX9_findByOf_43 ⟨Nat.le_refl _, Nat.le_refl _⟩) hS (fun H locs hW hS => ?_)
            obtain ⟨x30, ex30⟩ : ∃ y : UInt32, y = FP.fadd (gf M5 165 ((x4 : Int32).toNatClampNeg)) x28 := ⟨_, rfl⟩
            have hf := nm_o hf ex30
            obtain ⟨h31, hf⟩ := g_o hf
            refine y_fadd hB ex30 h31 dX9_findByOf_46 ?_
            refine lv_fstore_n (lv' := [(3, .float x30), (0, .ref (G.2.2.1 139)), (1, .int p1), (2, .int x4)]) hx hb dX9_findByOf_47 rfl hl (by decide) rfl (fun ls hl => ?_)
            refine lv_aload_n hx hb dX9_findByOf_48 rfl (lv_at hl 1 rfl) ?_
            refine fg9_49 hB hW tl139 wd5_128 dX9_findByOf_49 ?_
            refine lv_iload_n hx hb dX9_findByOf_52 rfl (lv_at hl 2 rfl) ?_
            obtain ⟨h32, hf⟩ := g_o hf
            refine x_iald hB hW tl166 al166 h32 dX9_findByOf_53 ?_
            obtain ⟨M37, hR, hf⟩ := b_o1 hf
            have main34 : ∀ (M33 : Mem) (H : Heap) (locs : List Loc) (ls : Array Slot), Wd G M33 H → va_S (adA G) s.heap H locs → lv_has ls 4 [(0, .ref (G.2.2.1 139)), (1, .int p1), (2, .int x4)] → some (M33) = some (M37) → W p l e (rmq 4 96) s m args below meth c H locs 0 0 (MQ below (Qv G Mr) args s 0 0 (adA G)) (F0 m 75 ls []) := by
              intro M33 H locs ls hW hS hl hE
              cases hE
              refine lv_aload_n hx hb dX9_findByOf_75 rfl (lv_at hl 0 rfl) ?_
              refine fg9_49 hB hW tl139 wd5_128 dX9_findByOf_76 ?_
              refine lv_iload_n hx hb dX9_findByOf_79 rfl (lv_at hl 1 rfl) ?_
              refine lv_iconst (v := (1 : Int32)) hx hb dX9_findByOf_80 (by decide) ?_
              obtain ⟨h35, hf⟩ := g_o hf
              refine x_i hB hW hS tl166 al166 h35 dX9_findByOf_81 (fun H locs M36 eM36 hW hS => ?_)
              have hf := nm_o hf eM36
              exact main14 M36 _ _ ls hW hS (lv_sub hl [0, 1, 2] rfl) hf
            have hf := hR
            obtain ⟨K39, eK39, hf⟩ := j_o hf
            have main38 : ∀ (_ : Unit) (H : Heap) (locs : List Loc) (ls : Array Slot), Wd G M5 H → va_S (adA G) s.heap H locs → lv_has ls 4 [(0, .ref (G.2.2.1 139)), (1, .int p1), (2, .int x4), (3, .float x30)] → K39 () = some (M37) → W p l e (rmq 4 96) s m args below meth c H locs 0 0 (MQ below (Qv G Mr) args s 0 0 (adA G)) (F0 m 68 ls []) := by
              intro _ H locs ls hW hS hl hf
              subst eK39
              refine lv_aload_n hx hb dX9_findByOf_68 rfl (lv_at hl 0 rfl) ?_
              refine fg9_47 hB hW tl139 wd5_126 dX9_findByOf_69 ?_
              refine lv_iload_n hx hb dX9_findByOf_72 rfl (lv_at hl 1 rfl) ?_
              refine lv_fload_n hx hb dX9_findByOf_73 rfl (lv_at hl 3 rfl) ?_
              obtain ⟨h40, hf⟩ := g_o hf
              refine x_f hB hW hS tl164 al164 h40 dX9_findByOf_74 (fun H locs M41 eM41 hW hS => ?_)
              have hf := nm_o hf eM41
              exact main34 M41 _ _ ls hW hS (lv_sub hl [0, 1, 2] rfl) hf
            refine lv_if_eq (tgt := 68) hx hb dX9_findByOf_54 (by decide) (fun c42 => ?_) (fun c42 => ?_)
            · have hf := i_t hf c42
              exact main38 () _ _ ls hW hS (lv_sub hl [1, 2, 3, 0] rfl) hf
            · have hf := i_f hf c42
              refine lv_fload_n hx hb dX9_findByOf_57 rfl (lv_at hl 0 rfl) ?_
              refine lv_aload_n hx hb dX9_findByOf_58 rfl (lv_at hl 1 rfl) ?_
              refine fg9_47 hB hW tl139 wd5_126 dX9_findByOf_59 ?_
              refine lv_iload_n hx hb dX9_findByOf_62 rfl (lv_at hl 2 rfl) ?_
              obtain ⟨h43, hf⟩ := g_o hf
              refine x_fald hB hW tl164 al164 h43 dX9_findByOf_63 ?_
              refine lv_fcmp hx hb dX9_findByOf_64 ?_
              refine lv_if_ge (tgt := 75) hx hb dX9_findByOf_65 (by decide) (fun c44 => ?_) (fun c44 => ?_)
              · have hf := i_t hf c44
                exact main34 M5 _ _ ls hW hS (lv_sub hl [1, 2, 3] rfl) hf
              · have hf := i_f hf c44
                exact main38 () _ _ ls hW hS (lv_sub hl [1, 2, 3, 0] rfl) hf
  exact loop7 FU x3 M2 _ _ ls hW hS (lv_sub hl [1, 2, 0] rfl) hL
theorem cl_RX9_360 {R : Room} {s : State} {args : Array Value} (ht : ∀ w ∈ lw_all, w.before args s = true) (hR : 4 + 1 ≤ R.frames ∧ 8 + (4 + 11) + 96 ≤ R.locals) : CallW R s args RX9 RX9 360 yX9_findByOf cX9_findByOf 4 none (wsq yX9_findByOf cX9_findByOf 4 none) (rmq 4 96) 0 0 1 := cwV 1 ht (goodV wd7_101 wd7_103 wsel_86 wd1_10 wd7_104) rfl rfl rfl (by decide +kernel) hR
def f_X9_byLines_L78  (K31 : Int32 → Mem → Option (Mem)) (x29 : Int32) (M30 : Mem) : Option (Mem) := (if (gi M30 139 25) < x29 then (some (M30)) else (gq (inB x29 161) (gq (inB x29 161) (nmq (si M30 167 ((x29 : Int32).toNatClampNeg) (gi M30 166 ((x29 : Int32).toNatClampNeg))) (fun (M40 : Mem) => gq (inB x29 161) (gq (inB x29 161) (nmq (sf M40 165 ((x29 : Int32).toNatClampNeg) (gf M40 164 ((x29 : Int32).toNatClampNeg))) (fun (M43 : Mem) => nmq (x29 + (1 : Int32)) (fun (x44 : Int32) => (K31 x44 M43))))))))))
def f_X9_byLines_L57  (K26 : Int32 → Mem → Option (Mem)) (x24 : Int32) (M25 : Mem) : Option (Mem) := (if (gi M25 139 25) < x24 then (some (M25)) else (bq1 (f_X9_findByOf x24 M25) (fun (M48 : Mem) => nmq (x24 + (1 : Int32)) (fun (x50 : Int32) => (K26 x50 M48)))))
def f_X9_byLines_L43 (p1 : Int32) (K12 : Int32 → Mem → Option (Mem)) (x10 : Int32) (M11 : Mem) : Option (Mem) := (if p1 ≤ x10 then (some (M11)) else (nmq (si M11 166 0 (0 : Int32)) (fun (M23 : Mem) => (bq1 (lq2 f_X9_byLines_L57 FU (1 : Int32) M23) (fun (M28 : Mem) => (bq1 (lq2 f_X9_byLines_L78 FU (0 : Int32) M28) (fun (M33 : Mem) => (nmq (x10 + (1 : Int32)) (fun (x34 : Int32) => (K12 x34 M33))))))))))
def f_X9_byLines_L6  (K5 : Int32 → Mem → Option (Mem)) (x3 : Int32) (M4 : Mem) : Option (Mem) := (if (gi M4 139 25) < x3 then (some (M4)) else (gq (inB x3 161) (nmq (si M4 167 ((x3 : Int32).toNatClampNeg) (0 : Int32)) (fun (M55 : Mem) => nmq (x3 + (1 : Int32)) (fun (x56 : Int32) => (K5 x56 M55))))))
def f_X9_byLines (p1 : Int32) (M : Mem) : Option (Int32 × Mem) := (bq1 (f_X9_findFragments M) (fun (M1 : Mem) => (bq1 (lq2 f_X9_byLines_L6 FU (0 : Int32) M1) (fun (M7 : Mem) => (nmq (si M7 167 0 (1 : Int32)) (fun (M8 : Mem) => nmq (sf M8 165 0 FP.fconst0) (fun (M9 : Mem) => (bq1 (lq2 (f_X9_byLines_L43 p1) FU (0 : Int32) M9) (fun (M14 : Mem) => (gq (inB (gi M14 139 25) 161) ((if (gi M14 167 (((gi M14 139 25) : Int32).toNatClampNeg)) = (1 : Int32) then (gq (inB (gi M14 139 25) 161) (bq1 (f_Jxf58ca_floatToIntBits_5c35a (gf M14 165 (((gi M14 139 25) : Int32).toNatClampNeg))) (fun (x18 : Int32) => some (x18, M14)))) else some ((0 : Int32), M14)))))))))))))
set_option maxHeartbeats 4000000 in
set_option maxRecDepth 100000 in
theorem ct_X9_byLines (l : Launch) (G : GG) {p1 : Int32} {M : Mem} {r : Int32} {Mr : Mem}  (hf : f_X9_byLines p1 M = some (r, Mr)) : Met l yX9_byLines (wsq yX9_byLines cX9_byLines 4 (some .int)) (rmq 5 119) (va_Pc [.ref (G.2.2.1 139), .int p1] (World G M)) (Qi G r Mr) 0 0 (adA G) := by
  refine x_start (plainFor_of_name (by decide)) (Nat.le_of_ble_eq_true rfl) ?_
  intro p e s m args below meth c hB hr hlk hW hS ls hl
  have hx := hB.x
  have hb := hB.b
  have hl : lv_has ls 4 [(0, .ref (G.2.2.1 139)), (1, .int p1)] := hl
  unfold f_X9_byLines at hf
  refine lv_aload_n hx hb dX9_byLines_0 rfl (lv_at hl 0 rfl) ?_
  obtain ⟨M1, hg2, hf⟩ := b_o1 hf
  refine x_cv hB (x_rv hB hW hS (As := []) (rest := []) (ct_X9_findFragments l G hg2) (cl_RX9_202 hB.2.2.2.2.1 ⟨Nat.le_of_ble_eq_true rfl, Nat.le_of_ble_eq_true rfl⟩) tl139 (by decide) rfl rfl hl.1 rfl (Nat.le_of_ble_eq_true rfl) dX9_byLines_1 ⟨Nat.le_refl _, Nat.le_refl _⟩) hS (fun H locs hW hS => ?_)
  refine lv_iconst (v := (0 : Int32)) hx hb dX9_byLines_4 (by decide) ?_
  refine lv_istore_n (lv' := [(2, .int (0 : Int32)), (0, .ref (G.2.2.1 139)), (1, .int p1)]) hx hb dX9_byLines_5 rfl hl (by decide) rfl (fun ls hl => ?_)
  obtain ⟨M51, hL, hf⟩ := b_o1 hf
  have main52 : ∀ (M7 : Mem) (H : Heap) (locs : List Loc) (ls : Array Slot), Wd G M7 H → va_S (adA G) s.heap H locs → lv_has ls 4 [(0, .ref (G.2.2.1 139)), (1, .int p1)] → some (M7) = some (M51) → W p l e (rmq 5 119) s m args below meth c H locs 0 0 (MQ below (Qi G r Mr) args s 0 0 (adA G)) (F0 m 27 ls []) := by
    intro M7 H locs ls hW hS hl hE
    cases hE
    refine lv_aload_n hx hb dX9_byLines_27 rfl (lv_at hl 0 rfl) ?_
    refine fg9_50 hB hW tl139 wd5_129 dX9_byLines_28 ?_
    refine lv_iconst (v := (0 : Int32)) hx hb dX9_byLines_31 (by decide) ?_
    refine lv_iconst (v := (1 : Int32)) hx hb dX9_byLines_32 (by decide) ?_
    refine x_i hB hW hS tl167 al167 (by decide) dX9_byLines_33 (fun H locs M8 eM8 hW hS => ?_)
    have hf := nm_o hf eM8
    refine lv_aload_n hx hb dX9_byLines_34 rfl (lv_at hl 0 rfl) ?_
    refine fg9_48 hB hW tl139 wd5_127 dX9_byLines_35 ?_
    refine lv_iconst (v := (0 : Int32)) hx hb dX9_byLines_38 (by decide) ?_
    refine lv_fconst0 hx hb dX9_byLines_39 ?_
    refine x_f hB hW hS tl165 al165 (by decide) dX9_byLines_40 (fun H locs M9 eM9 hW hS => ?_)
    have hf := nm_o hf eM9
    refine lv_iconst (v := (0 : Int32)) hx hb dX9_byLines_41 (by decide) ?_
    refine lv_istore_n (lv' := [(2, .int (0 : Int32)), (0, .ref (G.2.2.1 139)), (1, .int p1)]) hx hb dX9_byLines_42 rfl hl (by decide) rfl (fun ls hl => ?_)
    obtain ⟨M20, hL, hf⟩ := b_o1 hf
    have main21 : ∀ (M14 : Mem) (H : Heap) (locs : List Loc) (ls : Array Slot), Wd G M14 H → va_S (adA G) s.heap H locs → lv_has ls 4 [(0, .ref (G.2.2.1 139))] → some (M14) = some (M20) → W p l e (rmq 5 119) s m args below meth c H locs 0 0 (MQ below (Qi G r Mr) args s 0 0 (adA G)) (F0 m 122 ls []) := by
      intro M14 H locs ls hW hS hl hE
      cases hE
      refine lv_aload_n hx hb dX9_byLines_122 rfl (lv_at hl 0 rfl) ?_
      refine fg9_50 hB hW tl139 wd5_129 dX9_byLines_123 ?_
      refine lv_aload_n hx hb dX9_byLines_126 rfl (lv_at hl 0 rfl) ?_
      refine fg9_25 hB hW tl139 wd5_104 dX9_byLines_127 ?_
      obtain ⟨h15, hf⟩ := g_o hf
      refine x_iald hB hW tl167 al167 h15 dX9_byLines_130 ?_
      refine lv_iconst (v := (1 : Int32)) hx hb dX9_byLines_131 (by decide) ?_
      refine lv_icmp_ne (tgt := 150) hx hb dX9_byLines_132 (by decide) (fun c16 => ?_) (fun c16 => ?_)
      · have hf := i_f hf c16
        refine lv_iconst (v := (0 : Int32)) hx hb dX9_byLines_150 (by decide) ?_
        exact e_i hB hW hS hr hlk (s_1 hf) (s_2 hf) dX9_byLines_151
      · have hf := i_t hf c16
        refine lv_aload_n hx hb dX9_byLines_135 rfl (lv_at hl 0 rfl) ?_
        refine fg9_48 hB hW tl139 wd5_127 dX9_byLines_136 ?_
        refine lv_aload_n hx hb dX9_byLines_139 rfl (lv_at hl 0 rfl) ?_
        refine fg9_25 hB hW tl139 wd5_104 dX9_byLines_140 ?_
        obtain ⟨h17, hf⟩ := g_o hf
        refine x_fald hB hW tl165 al165 h17 dX9_byLines_143 ?_
        obtain ⟨x18, hg19, hf⟩ := b_o1 hf
        refine x_ci hB (x_rs hB hW hS (As := [.float (gf M20 165 (((gi M20 139 25) : Int32).toNatClampNeg))]) (rest := []) (ct_Jxf58ca_floatToIntBits_5c35a l G hg19) (cl_RX9_354 hB.2.2.2.2.1 ⟨Nat.le_of_ble_eq_true rfl, Nat.le_of_ble_eq_true rfl⟩) rfl hl.1 rfl (Nat.le_of_ble_eq_true rfl) dX9_byLines_144 ⟨Nat.le_refl _, Nat.le_refl _⟩) hS (fun H locs hW hS => ?_)
        refine lv_goto (tgt := 151) hx hb dX9_byLines_147 (by decide) ?_
        exact e_i hB hW hS hr hlk (s_1 hf) (s_2 hf) dX9_byLines_151
    have loop13 : ∀ (n : Nat) (x10 : Int32) (M11 : Mem) (H : Heap) (locs : List Loc) (ls : Array Slot), Wd G M11 H → va_S (adA G) s.heap H locs → lv_has ls 4 [(0, .ref (G.2.2.1 139)), (1, .int p1), (2, .int x10)] → lq2 (f_X9_byLines_L43 p1) n x10 M11 = some (M20) → W p l e (rmq 5 119) s m args below meth c H locs 0 0 (MQ below (Qi G r Mr) args s 0 0 (adA G)) (F0 m 43 ls []) := by
      intro n
      induction n with
      | zero => intro x10 M11 H locs ls hW hS hl hf; exact (l_z2 hf).elim
      | succ n ih =>
        intro x10 M11 H locs ls hW hS hl hf
        have hf := l_s2 hf
        generalize lq2 (f_X9_byLines_L43 p1) n = K12 at ih hf
        unfold f_X9_byLines_L43 at hf
        refine lv_iload_n hx hb dX9_byLines_43 rfl (lv_at hl 2 rfl) ?_
        refine lv_iload_n hx hb dX9_byLines_44 rfl (lv_at hl 1 rfl) ?_
        refine lv_icmp_ge (tgt := 122) hx hb dX9_byLines_45 (by decide) (fun c22 => ?_) (fun c22 => ?_)
        · have hf := i_t hf c22
          exact main21 M11 _ _ ls hW hS (lv_sub hl [0] rfl) hf
        · have hf := i_f hf c22
          refine lv_aload_n hx hb dX9_byLines_48 rfl (lv_at hl 0 rfl) ?_
          refine fg9_49 hB hW tl139 wd5_128 dX9_byLines_49 ?_
          refine lv_iconst (v := (0 : Int32)) hx hb dX9_byLines_52 (by decide) ?_
          refine lv_iconst (v := (0 : Int32)) hx hb dX9_byLines_53 (by decide) ?_
          refine x_i hB hW hS tl166 al166 (by decide) dX9_byLines_54 (fun H locs M23 eM23 hW hS => ?_)
          have hf := nm_o hf eM23
          refine lv_iconst (v := (1 : Int32)) hx hb dX9_byLines_55 (by decide) ?_
          refine lv_istore_n (lv' := [(3, .int (1 : Int32)), (0, .ref (G.2.2.1 139)), (1, .int p1), (2, .int x10)]) hx hb dX9_byLines_56 rfl hl (by decide) rfl (fun ls hl => ?_)
          obtain ⟨M45, hL, hf⟩ := b_o1 hf
          have main46 : ∀ (M28 : Mem) (H : Heap) (locs : List Loc) (ls : Array Slot), Wd G M28 H → va_S (adA G) s.heap H locs → lv_has ls 4 [(0, .ref (G.2.2.1 139)), (1, .int p1), (2, .int x10)] → some (M28) = some (M45) → W p l e (rmq 5 119) s m args below meth c H locs 0 0 (MQ below (Qi G r Mr) args s 0 0 (adA G)) (F0 m 76 ls []) := by
            intro M28 H locs ls hW hS hl hE
            cases hE
            refine lv_iconst (v := (0 : Int32)) hx hb dX9_byLines_76 (by decide) ?_
            refine lv_istore_n (lv' := [(3, .int (0 : Int32)), (0, .ref (G.2.2.1 139)), (1, .int p1), (2, .int x10)]) hx hb dX9_byLines_77 rfl hl (by decide) rfl (fun ls hl => ?_)
            obtain ⟨M35, hL, hf⟩ := b_o1 hf
            have main36 : ∀ (M33 : Mem) (H : Heap) (locs : List Loc) (ls : Array Slot), Wd G M33 H → va_S (adA G) s.heap H locs → lv_has ls 4 [(0, .ref (G.2.2.1 139)), (1, .int p1), (2, .int x10)] → some (M33) = some (M35) → W p l e (rmq 5 119) s m args below meth c H locs 0 0 (MQ below (Qi G r Mr) args s 0 0 (adA G)) (F0 m 116 ls []) := by
              intro M33 H locs ls hW hS hl hE
              cases hE
              obtain ⟨x34, ex34⟩ : ∃ y : Int32, y = x10 + (1 : Int32) := ⟨_, rfl⟩
              have hf := nm_o hf ex34
              refine lv_iinc (v := x34) (lv' := [(2, .int x34), (0, .ref (G.2.2.1 139)), (1, .int p1)]) hx hb dX9_byLines_116 hl (k := 2) rfl (by rw [ex34]; rfl) (by decide) rfl (fun ls hl => ?_)
              refine lv_goto (tgt := 43) hx hb dX9_byLines_119 (by decide) ?_
              exact ih x34 M35 _ _ ls hW hS (lv_sub hl [1, 2, 0] rfl) hf
            have loop32 : ∀ (n : Nat) (x29 : Int32) (M30 : Mem) (H : Heap) (locs : List Loc) (ls : Array Slot), Wd G M30 H → va_S (adA G) s.heap H locs → lv_has ls 4 [(0, .ref (G.2.2.1 139)), (1, .int p1), (2, .int x10), (3, .int x29)] → lq2 f_X9_byLines_L78 n x29 M30 = some (M35) → W p l e (rmq 5 119) s m args below meth c H locs 0 0 (MQ below (Qi G r Mr) args s 0 0 (adA G)) (F0 m 78 ls []) := by
              intro n
              induction n with
              | zero => intro x29 M30 H locs ls hW hS hl hf; exact (l_z2 hf).elim
              | succ n ih =>
                intro x29 M30 H locs ls hW hS hl hf
                have hf := l_s2 hf
                generalize lq2 f_X9_byLines_L78 n = K31 at ih hf
                unfold f_X9_byLines_L78 at hf
                refine lv_iload_n hx hb dX9_byLines_78 rfl (lv_at hl 3 rfl) ?_
                refine lv_aload_n hx hb dX9_byLines_79 rfl (lv_at hl 0 rfl) ?_
                refine fg9_25 hB hW tl139 wd5_104 dX9_byLines_80 ?_
                refine lv_icmp_gt (tgt := 116) hx hb dX9_byLines_83 (by decide) (fun c37 => ?_) (fun c37 => ?_)
                · have hf := i_t hf c37
                  exact main36 M30 _ _ ls hW hS (lv_sub hl [0, 1, 2] rfl) hf
                · have hf := i_f hf c37
                  refine lv_aload_n hx hb dX9_byLines_86 rfl (lv_at hl 0 rfl) ?_
                  refine fg9_50 hB hW tl139 wd5_129 dX9_byLines_87 ?_
                  refine lv_iload_n hx hb dX9_byLines_90 rfl (lv_at hl 3 rfl) ?_
                  refine lv_aload_n hx hb dX9_byLines_91 rfl (lv_at hl 0 rfl) ?_
                  refine fg9_49 hB hW tl139 wd5_128 dX9_byLines_92 ?_
                  refine lv_iload_n hx hb dX9_byLines_95 rfl (lv_at hl 3 rfl) ?_
                  obtain ⟨h38, hf⟩ := g_o hf
                  refine x_iald hB hW tl166 al166 h38 dX9_byLines_96 ?_
                  obtain ⟨h39, hf⟩ := g_o hf
                  refine x_i hB hW hS tl167 al167 h39 dX9_byLines_97 (fun H locs M40 eM40 hW hS => ?_)
                  have hf := nm_o hf eM40
                  refine lv_aload_n hx hb dX9_byLines_98 rfl (lv_at hl 0 rfl) ?_
                  refine fg9_48 hB hW tl139 wd5_127 dX9_byLines_99 ?_
                  refine lv_iload_n hx hb dX9_byLines_102 rfl (lv_at hl 3 rfl) ?_
                  refine lv_aload_n hx hb dX9_byLines_103 rfl (lv_at hl 0 rfl) ?_
                  refine fg9_47 hB hW tl139 wd5_126 dX9_byLines_104 ?_
                  refine lv_iload_n hx hb dX9_byLines_107 rfl (lv_at hl 3 rfl) ?_
                  obtain ⟨h41, hf⟩ := g_o hf
                  refine x_fald hB hW tl164 al164 h41 dX9_byLines_108 ?_
                  obtain ⟨h42, hf⟩ := g_o hf
                  refine x_f hB hW hS tl165 al165 h42 dX9_byLines_109 (fun H locs M43 eM43 hW hS => ?_)
                  have hf := nm_o hf eM43
                  obtain ⟨x44, ex44⟩ : ∃ y : Int32, y = x29 + (1 : Int32) := ⟨_, rfl⟩
                  have hf := nm_o hf ex44
                  refine lv_iinc (v := x44) (lv' := [(3, .int x44), (0, .ref (G.2.2.1 139)), (1, .int p1), (2, .int x10)]) hx hb dX9_byLines_110 hl (k := 3) rfl (by rw [ex44]; rfl) (by decide) rfl (fun ls hl => ?_)
                  refine lv_goto (tgt := 78) hx hb dX9_byLines_113 (by decide) ?_
                  exact ih x44 M43 _ _ ls hW hS (lv_sub hl [1, 2, 3, 0] rfl) hf
            exact loop32 FU (0 : Int32) M45 _ _ ls hW hS (lv_sub hl [1, 2, 3, 0] rfl) hL
          have loop27 : ∀ (n : Nat) (x24 : Int32) (M25 : Mem) (H : Heap) (locs : List Loc) (ls : Array Slot), Wd G M25 H → va_S (adA G) s.heap H locs → lv_has ls 4 [(0, .ref (G.2.2.1 139)), (1, .int p1), (2, .int x10), (3, .int x24)] → lq2 f_X9_byLines_L57 n x24 M25 = some (M45) → W p l e (rmq 5 119) s m args below meth c H locs 0 0 (MQ below (Qi G r Mr) args s 0 0 (adA G)) (F0 m 57 ls []) := by
            intro n
            induction n with
            | zero => intro x24 M25 H locs ls hW hS hl hf; exact (l_z2 hf).elim
            | succ n ih =>
              intro x24 M25 H locs ls hW hS hl hf
              have hf := l_s2 hf
              generalize lq2 f_X9_byLines_L57 n = K26 at ih hf
              unfold f_X9_byLines_L57 at hf
              refine lv_iload_n hx hb dX9_byLines_57 rfl (lv_at hl 3 rfl) ?_
              refine lv_aload_n hx hb dX9_byLines_58 rfl (lv_at hl 0 rfl) ?_
              refine fg9_25 hB hW tl139 wd5_104 dX9_byLines_59 ?_
              refine lv_icmp_gt (tgt := 76) hx hb dX9_byLines_62 (by decide) (fun c47 => ?_) (fun c47 => ?_)
              · have hf := i_t hf c47
                exact main46 M25 _ _ ls hW hS (lv_sub hl [0, 1, 2] rfl) hf
              · have hf := i_f hf c47
                refine lv_aload_n hx hb dX9_byLines_65 rfl (lv_at hl 0 rfl) ?_
                refine lv_iload_n hx hb dX9_byLines_66 rfl (lv_at hl 3 rfl) ?_
                obtain ⟨M48, hg49, hf⟩ := b_o1 hf
                refine x_cv hB (x_rv hB hW hS (As := [.int x24]) (rest := []) (ct_X9_findByOf l G hg49) (cl_RX9_360 hB.2.2.2.2.1 ⟨Nat.le_of_ble_eq_true rfl, Nat.le_of_ble_eq_true rfl⟩) tl139 (by decide) rfl rfl hl.1 rfl (Nat.le_of_ble_eq_true rfl) dX9_byLines_67 ⟨Nat.le_refl _, Nat.le_refl _⟩) hS (fun H locs hW hS => ?_)
                obtain ⟨x50, ex50⟩ : ∃ y : Int32, y = x24 + (1 : Int32) := ⟨_, rfl⟩
                have hf := nm_o hf ex50
                refine lv_iinc (v := x50) (lv' := [(3, .int x50), (0, .ref (G.2.2.1 139)), (1, .int p1), (2, .int x10)]) hx hb dX9_byLines_70 hl (k := 3) rfl (by rw [ex50]; rfl) (by decide) rfl (fun ls hl => ?_)
                refine lv_goto (tgt := 57) hx hb dX9_byLines_73 (by decide) ?_
                exact ih x50 M48 _ _ ls hW hS (lv_sub hl [1, 2, 3, 0] rfl) hf
          exact loop27 FU (1 : Int32) M23 _ _ ls hW hS (lv_sub hl [1, 2, 3, 0] rfl) hL
    exact loop13 FU (0 : Int32) M9 _ _ ls hW hS (lv_sub hl [1, 2, 0] rfl) hL
  have loop6 : ∀ (n : Nat) (x3 : Int32) (M4 : Mem) (H : Heap) (locs : List Loc) (ls : Array Slot), Wd G M4 H → va_S (adA G) s.heap H locs → lv_has ls 4 [(0, .ref (G.2.2.1 139)), (1, .int p1), (2, .int x3)] → lq2 f_X9_byLines_L6 n x3 M4 = some (M51) → W p l e (rmq 5 119) s m args below meth c H locs 0 0 (MQ below (Qi G r Mr) args s 0 0 (adA G)) (F0 m 6 ls []) := by
    intro n
    induction n with
    | zero => intro x3 M4 H locs ls hW hS hl hf; exact (l_z2 hf).elim
    | succ n ih =>
      intro x3 M4 H locs ls hW hS hl hf
      have hf := l_s2 hf
      generalize lq2 f_X9_byLines_L6 n = K5 at ih hf
      unfold f_X9_byLines_L6 at hf
      refine lv_iload_n hx hb dX9_byLines_6 rfl (lv_at hl 2 rfl) ?_
      refine lv_aload_n hx hb dX9_byLines_7 rfl (lv_at hl 0 rfl) ?_
      refine fg9_25 hB hW tl139 wd5_104 dX9_byLines_8 ?_
      refine lv_icmp_gt (tgt := 27) hx hb dX9_byLines_11 (by decide) (fun c53 => ?_) (fun c53 => ?_)
      · have hf := i_t hf c53
        exact main52 M4 _ _ ls hW hS (lv_sub hl [0, 1] rfl) hf
      · have hf := i_f hf c53
        refine lv_aload_n hx hb dX9_byLines_14 rfl (lv_at hl 0 rfl) ?_
        refine fg9_50 hB hW tl139 wd5_129 dX9_byLines_15 ?_
        refine lv_iload_n hx hb dX9_byLines_18 rfl (lv_at hl 2 rfl) ?_
        refine lv_iconst (v := (0 : Int32)) hx hb dX9_byLines_19 (by decide) ?_
        obtain ⟨h54, hf⟩ := g_o hf
        refine x_i hB hW hS tl167 al167 h54 dX9_byLines_20 (fun H locs M55 eM55 hW hS => ?_)
        have hf := nm_o hf eM55
        obtain ⟨x56, ex56⟩ : ∃ y : Int32, y = x3 + (1 : Int32) := ⟨_, rfl⟩
        have hf := nm_o hf ex56
        refine lv_iinc (v := x56) (lv' := [(2, .int x56), (0, .ref (G.2.2.1 139)), (1, .int p1)]) hx hb dX9_byLines_21 hl (k := 2) rfl (by rw [ex56]; rfl) (by decide) rfl (fun ls hl => ?_)
        refine lv_goto (tgt := 6) hx hb dX9_byLines_24 (by decide) ?_
        exact ih x56 M55 _ _ ls hW hS (lv_sub hl [1, 2, 0] rfl) hf
  exact loop6 FU (0 : Int32) M1 _ _ ls hW hS (lv_sub hl [1, 2, 0] rfl) hL
theorem cl_RX9_363 {R : Room} {s : State} {args : Array Value} (ht : ∀ w ∈ lw_all, w.before args s = true) (hR : 5 + 1 ≤ R.frames ∧ 8 + (4 + 11) + 119 ≤ R.locals) : CallW R s args RX9 RX9 363 yX9_byLines cX9_byLines 4 (some .int) (wsq yX9_byLines cX9_byLines 4 (some .int)) (rmq 5 119) 0 0 1 := cwV 1 ht (goodV wd7_97 wd7_99 wsel_85 wd1_10 wd7_100) rfl rfl rfl (by decide +kernel) hR
theorem cl_RX9_366 {R : Room} {s : State} {args : Array Value} (ht : ∀ w ∈ lw_all, w.before args s = true) (hR : 0 + 1 ≤ R.frames ∧ 8 + (1 + 11) + 0 ≤ R.locals) : CallW R s args RX9 RX9 366 yX9_totalNow cX9_totalNow 1 (some .float) (wsq yX9_totalNow cX9_totalNow 1 (some .float)) (rmq 0 0) 0 0 0 := cwV 0 ht (goodV wd7_105 wd7_107 wsel_87 wd1_10 wd7_108) rfl rfl rfl (by decide +kernel) hR
def f_X9_total (p1 : Int32) (M : Mem) : Option (Int32 × Mem) := (bq1 (f_X9_isIn p1 (1 : Int32) (20 : Int32)) (fun (x1 : Int32) => (if x1 = 0 then (if p1 = 0 then (bq2 (f_X9_findLines M) (fun (x5 : Int32) (M6 : Mem) => (if x5 < 0 then some ((0 : Int32), M6) else (bq1 (f_X9_totalNow M6) (fun (x9 : UInt32) => bq1 (f_Jxf58ca_floatToIntBits_5c35a x9) (fun (x11 : Int32) => some (x11, M6))))))) else some ((0 : Int32), M)) else (bq2 (f_X9_byLines p1 M) (fun (x13 : Int32) (M14 : Mem) => some (x13, M14))))))
set_option maxHeartbeats 4000000 in
set_option maxRecDepth 100000 in
theorem ct_X9_total (l : Launch) (G : GG) {p1 : Int32} {M : Mem} {r : Int32} {Mr : Mem}  (hf : f_X9_total p1 M = some (r, Mr)) : Met l yX9_total (wsq yX9_total cX9_total 2 (some .int)) (rmq 6 142) (va_Pc [.ref (G.2.2.1 139), .int p1] (World G M)) (Qi G r Mr) 0 0 (adA G) := by
  refine x_start (plainFor_of_name (by decide)) (Nat.le_of_ble_eq_true rfl) ?_
  intro p e s m args below meth c hB hr hlk hW hS ls hl
  have hx := hB.x
  have hb := hB.b
  have hl : lv_has ls 2 [(0, .ref (G.2.2.1 139)), (1, .int p1)] := hl
  unfold f_X9_total at hf
  refine lv_iload_n hx hb dX9_total_0 rfl (lv_at hl 1 rfl) ?_
  refine lv_iconst (v := (1 : Int32)) hx hb dX9_total_1 (by decide) ?_
  refine lv_bipush (v := (20 : Int32)) hx hb dX9_total_2 (by decide) ?_
  obtain ⟨x1, hg2, hf⟩ := b_o1 hf
  refine x_ci hB (x_rs hB hW hS (As := [.int p1, .int (1 : Int32), .int (20 : Int32)]) (rest := []) (ct_X9_isIn l G hg2) (cl_RX9_125 hB.2.2.2.2.1 ⟨Nat.le_of_ble_eq_true rfl, Nat.le_of_ble_eq_true rfl⟩) rfl hl.1 rfl (Nat.le_of_ble_eq_true rfl) dX9_total_4 ⟨Nat.le_refl _, Nat.le_refl _⟩) hS (fun H locs hW hS => ?_)
  refine lv_if_eq (tgt := 16) hx hb dX9_total_7 (by decide) (fun c3 => ?_) (fun c3 => ?_)
  · have hf := i_t hf c3
    refine lv_iload_n hx hb dX9_total_16 rfl (lv_at hl 1 rfl) ?_
    refine lv_if_ne (tgt := 37) hx hb dX9_total_17 (by decide) (fun c4 => ?_) (fun c4 => ?_)
    · have hf := i_f hf c4
      refine lv_iconst (v := (0 : Int32)) hx hb dX9_total_37 (by decide) ?_
      exact e_i hB hW hS hr hlk (s_1 hf) (s_2 hf) dX9_total_38
    · have hf := i_t hf c4
      refine lv_aload_n hx hb dX9_total_20 rfl (lv_at hl 0 rfl) ?_
      obtain ⟨x5, M6, hg7, hf⟩ := b_o2 hf
      refine x_ci hB (x_rv hB hW hS (As := []) (rest := []) (ct_X9_findLines l G hg7) (cl_RX9_214 hB.2.2.2.2.1 ⟨Nat.le_of_ble_eq_true rfl, Nat.le_of_ble_eq_true rfl⟩) tl139 (by decide) rfl rfl hl.1 rfl (Nat.le_of_ble_eq_true rfl) dX9_total_21 ⟨Nat.le_refl _, Nat.le_refl _⟩) hS (fun H locs hW hS => ?_)
      refine lv_if_lt (tgt := 37) hx hb dX9_total_24 (by decide) (fun c8 => ?_) (fun c8 => ?_)
      · have hf := i_t hf c8
        refine lv_iconst (v := (0 : Int32)) hx hb dX9_total_37 (by decide) ?_
        exact e_i hB hW hS hr hlk (s_1 hf) (s_2 hf) dX9_total_38
      · have hf := i_f hf c8
        refine lv_aload_n hx hb dX9_total_27 rfl (lv_at hl 0 rfl) ?_
        obtain ⟨x9, hg10, hf⟩ := b_o1 hf
        refine x_cf hB (x_rv hB hW hS (As := []) (rest := []) (ct_X9_totalNow l G hg10) (cl_RX9_366 hB.2.2.2.2.1 ⟨Nat.le_of_ble_eq_true rfl, Nat.le_of_ble_eq_true rfl⟩) tl139 (by decide) rfl rfl hl.1 rfl (Nat.le_of_ble_eq_true rfl) dX9_total_28 ⟨Nat.le_refl _, Nat.le_refl _⟩) hS (fun H locs hW hS => ?_)
        obtain ⟨x11, hg12, hf⟩ := b_o1 hf
        refine x_ci hB (x_rs hB hW hS (As := [.float x9]) (rest := []) (ct_Jxf58ca_floatToIntBits_5c35a l G hg12) (cl_RX9_354 hB.2.2.2.2.1 ⟨Nat.le_of_ble_eq_true rfl, Nat.le_of_ble_eq_true rfl⟩) rfl hl.1 rfl (Nat.le_of_ble_eq_true rfl) dX9_total_31 ⟨Nat.le_refl _, Nat.le_refl _⟩) hS (fun H locs hW hS => ?_)
        refine lv_goto (tgt := 38) hx hb dX9_total_34 (by decide) ?_
        exact e_i hB hW hS hr hlk (s_1 hf) (s_2 hf) dX9_total_38
  · have hf := i_f hf c3
    refine lv_aload_n hx hb dX9_total_10 rfl (lv_at hl 0 rfl) ?_
    refine lv_iload_n hx hb dX9_total_11 rfl (lv_at hl 1 rfl) ?_
    obtain ⟨x13, M14, hg15, hf⟩ := b_o2 hf
    refine x_ci hB (x_rv hB hW hS (As := [.int p1]) (rest := []) (ct_X9_byLines l G hg15) (cl_RX9_363 hB.2.2.2.2.1 ⟨Nat.le_of_ble_eq_true rfl, Nat.le_of_ble_eq_true rfl⟩) tl139 (by decide) rfl rfl hl.1 rfl (Nat.le_of_ble_eq_true rfl) dX9_total_12 ⟨Nat.le_refl _, Nat.le_refl _⟩) hS (fun H locs hW hS => ?_)
    exact e_i hB hW hS hr hlk (s_1 hf) (s_2 hf) dX9_total_15
def f_X9_farthestFrom_L10 (p1 : Int32) (M : Mem) (K5 : Int32 → Int32 → Int32 → Option (Int32)) (x2 : Int32) (x3 : Int32) (x4 : Int32) : Option (Int32) := (if (gi M 139 25) < x4 then (some (x2)) else (if x3 = 0 then (some (x2)) else (bq1 (f_X9_fits p1 x4 M) (fun (x12 : Int32) => (nmq ((if x12 = 0 then (x2) else (x4))) (fun (x14 : Int32) => (gq (inB (x4 - (1 : Int32)) 161) ((if (gi M 151 (((x4 - (1 : Int32)) : Int32).toNatClampNeg)) = (2 : Int32) then (nmq (x4 + (1 : Int32)) (fun (x18 : Int32) => (K5 x14 (0 : Int32) x18))) else (nmq (x4 + (1 : Int32)) (fun (x19 : Int32) => (K5 x14 (1 : Int32) x19))))))))))))
def f_X9_farthestFrom (p1 : Int32) (M : Mem) : Option Int32 := (nmq ((p1 + (1 : Int32))) (fun (x1 : Int32) => (bq1 (lq3 (f_X9_farthestFrom_L10 p1 M) FU (-9 : Int32) (1 : Int32) x1) (fun (x7 : Int32) => some x7))))
set_option maxHeartbeats 4000000 in
set_option maxRecDepth 100000 in
theorem ct_X9_farthestFrom (l : Launch) (G : GG) {p1 : Int32} {M : Mem} {r : Int32}  (hf : f_X9_farthestFrom p1 M = some r) : Met l yX9_farthestFrom (wsq yX9_farthestFrom cX9_farthestFrom 5 (some .int)) (rmq 3 70) (va_Pc [.ref (G.2.2.1 139), .int p1] (World G M)) (Qi G r M) 0 0 (adA G) := by
  refine x_start (plainFor_of_name (by decide)) (Nat.le_of_ble_eq_true rfl) ?_
  intro p e s m args below meth c hB hr hlk hW hS ls hl
  have hx := hB.x
  have hb := hB.b
  have hl : lv_has ls 5 [(0, .ref (G.2.2.1 139)), (1, .int p1)] := hl
  unfold f_X9_farthestFrom at hf
  refine lv_bipush (v := (-9 : Int32)) hx hb dX9_farthestFrom_0 (by decide) ?_
  refine lv_istore_n (lv' := [(2, .int (-9 : Int32)), (0, .ref (G.2.2.1 139)), (1, .int p1)]) hx hb dX9_farthestFrom_2 rfl hl (by decide) rfl (fun ls hl => ?_)
  refine lv_iconst (v := (1 : Int32)) hx hb dX9_farthestFrom_3 (by decide) ?_
  refine lv_istore_n (lv' := [(3, .int (1 : Int32)), (2, .int (-9 : Int32)), (0, .ref (G.2.2.1 139)), (1, .int p1)]) hx hb dX9_farthestFrom_4 rfl hl (by decide) rfl (fun ls hl => ?_)
  refine lv_iload_n hx hb dX9_farthestFrom_5 rfl (lv_at hl 3 rfl) ?_
  refine lv_iconst (v := (1 : Int32)) hx hb dX9_farthestFrom_6 (by decide) ?_
  refine lv_iadd hx hb dX9_farthestFrom_7 ?_
  refine lv_topi (fun x1 ex1 => ?_)
  have hf := nm_o hf ex1
  refine lv_istore (lv' := [(4, .int x1), (3, .int (1 : Int32)), (2, .int (-9 : Int32)), (0, .ref (G.2.2.1 139)), (1, .int p1)]) hx hb dX9_farthestFrom_8 hl (by decide) rfl (fun ls hl => ?_)
  obtain ⟨y8, hL, hf⟩ := b_o1 hf
  have main9 : ∀ (x7 : Int32) (H : Heap) (locs : List Loc) (ls : Array Slot), Wd G M H → va_S (adA G) s.heap H locs → lv_has ls 5 [(2, .int x7)] → some (x7) = some (y8) → W p l e (rmq 3 70) s m args below meth c H locs 0 0 (MQ below (Qi G r M) args s 0 0 (adA G)) (F0 m 65 ls []) := by
    intro x7 H locs ls hW hS hl hE
    cases hE
    refine lv_iload_n hx hb dX9_farthestFrom_65 rfl (lv_at hl 0 rfl) ?_
    exact e_i hB hW hS hr hlk (Option.some.inj hf) rfl dX9_farthestFrom_66
  have loop6 : ∀ (n : Nat) (x2 : Int32) (x3 : Int32) (x4 : Int32) (H : Heap) (locs : List Loc) (ls : Array Slot), Wd G M H → va_S (adA G) s.heap H locs → lv_has ls 5 [(0, .ref (G.2.2.1 139)), (1, .int p1), (2, .int x2), (3, .int x3), (4, .int x4)] → lq3 (f_X9_farthestFrom_L10 p1 M) n x2 x3 x4 = some (y8) → W p l e (rmq 3 70) s m args below meth c H locs 0 0 (MQ below (Qi G r M) args s 0 0 (adA G)) (F0 m 10 ls []) := by
    intro n
    induction n with
    | zero => intro x2 x3 x4 H locs ls hW hS hl hf; exact (l_z3 hf).elim
    | succ n ih =>
      intro x2 x3 x4 H locs ls hW hS hl hf
      have hf := l_s3 hf
      generalize lq3 (f_X9_farthestFrom_L10 p1 M) n = K5 at ih hf
      unfold f_X9_farthestFrom_L10 at hf
      refine lv_iload hx hb dX9_farthestFrom_10 (lv_at hl 4 rfl) ?_
      refine lv_aload_n hx hb dX9_farthestFrom_12 rfl (lv_at hl 0 rfl) ?_
      refine fg9_25 hB hW tl139 wd5_104 dX9_farthestFrom_13 ?_
      refine lv_icmp_gt (tgt := 65) hx hb dX9_farthestFrom_16 (by decide) (fun c10 => ?_) (fun c10 => ?_)
      · have hf := i_t hf c10
        exact main9 x2 _ _ ls hW hS (lv_sub hl [2] rfl) hf
      · have hf := i_f hf c10
        refine lv_iload_n hx hb dX9_farthestFrom_19 rfl (lv_at hl 3 rfl) ?_
        refine lv_if_eq (tgt := 65) hx hb dX9_farthestFrom_20 (by decide) (fun c11 => ?_) (fun c11 => ?_)
        · have hf := i_t hf c11
          exact main9 x2 _ _ ls hW hS (lv_sub hl [2] rfl) hf
        · have hf := i_f hf c11
          refine lv_aload_n hx hb dX9_farthestFrom_23 rfl (lv_at hl 0 rfl) ?_
          refine lv_iload_n hx hb dX9_farthestFrom_24 rfl (lv_at hl 1 rfl) ?_
          refine lv_iload hx hb dX9_farthestFrom_25 (lv_at hl 4 rfl) ?_
          obtain ⟨x12, hg13, hf⟩ := b_o1 hf
          refine x_ci hB (x_rv hB hW hS (As := [.int p1, .int x4]) (rest := []) (ct_X9_fits l G hg13) (cl_RX9_196 hB.2.2.2.2.1 ⟨Nat.le_of_ble_eq_true rfl, Nat.le_of_ble_eq_true rfl⟩) tl139 (by decide) rfl rfl hl.1 rfl (Nat.le_of_ble_eq_true rfl) dX9_farthestFrom_27 ⟨Nat.le_refl _, Nat.le_refl _⟩) hS (fun H locs hW hS => ?_)
          obtain ⟨y20, evy20⟩ : ∃ z : Int32, (if x12 = 0 then (x2) else (x4)) = z := ⟨_, rfl⟩
          have hf := nm_o hf evy20.symm
          have main15 : ∀ (x14 : Int32) (H : Heap) (locs : List Loc) (ls : Array Slot), Wd G M H → va_S (adA G) s.heap H locs → lv_has ls 5 [(0, .ref (G.2.2.1 139)), (1, .int p1), (4, .int x4)] → x14 = y20 → W p l e (rmq 3 70) s m args below meth c H locs 0 0 (MQ below (Qi G r M) args s 0 0 (adA G)) (F0 m 39 ls [.int x14]) := by
            intro x14 H locs ls hW hS hl hE
            have hE := hE.symm
            subst hE
            refine lv_istore_n (lv' := [(2, .int y20), (0, .ref (G.2.2.1 139)), (1, .int p1), (4, .int x4)]) hx hb dX9_farthestFrom_39 rfl hl (by decide) rfl (fun ls hl => ?_)
            refine lv_aload_n hx hb dX9_farthestFrom_40 rfl (lv_at hl 1 rfl) ?_
            refine fg9_23 hB hW tl139 wd5_102 dX9_farthestFrom_41 ?_
            refine lv_iload hx hb dX9_farthestFrom_44 (lv_at hl 3 rfl) ?_
            refine lv_iconst (v := (1 : Int32)) hx hb dX9_farthestFrom_46 (by decide) ?_
            refine lv_isub hx hb dX9_farthestFrom_47 ?_
            obtain ⟨h16, hf⟩ := g_o hf
            refine x_iald hB hW tl151 al151 h16 dX9_farthestFrom_48 ?_
            refine lv_iconst (v := (2 : Int32)) hx hb dX9_farthestFrom_49 (by decide) ?_
            refine lv_icmp_eq (tgt := 57) hx hb dX9_farthestFrom_50 (by decide) (fun c17 => ?_) (fun c17 => ?_)
            · have hf := i_t hf c17
              refine lv_iconst (v := (0 : Int32)) hx hb dX9_farthestFrom_57 (by decide) ?_
              refine lv_istore_n (lv' := [(3, .int (0 : Int32)), (2, .int y20), (0, .ref (G.2.2.1 139)), (1, .int p1), (4, .int x4)]) hx hb dX9_farthestFrom_58 rfl hl (by decide) rfl (fun ls hl => ?_)
              obtain ⟨x18, ex18⟩ : ∃ y : Int32, y = x4 + (1 : Int32) := ⟨_, rfl⟩
              have hf := nm_o hf ex18
              refine lv_iinc (v := x18) (lv' := [(4, .int x18), (3, .int (0 : Int32)), (2, .int y20), (0, .ref (G.2.2.1 139)), (1, .int p1)]) hx hb dX9_farthestFrom_59 hl (k := 4) rfl (by rw [ex18]; rfl) (by decide) rfl (fun ls hl => ?_)
              refine lv_goto (tgt := 10) hx hb dX9_farthestFrom_62 (by decide) ?_
              exact ih y20 (0 : Int32) x18 _ _ ls hW hS (lv_sub hl [3, 4, 2, 1, 0] rfl) hf
            · have hf := i_f hf c17
              refine lv_iconst (v := (1 : Int32)) hx hb dX9_farthestFrom_53 (by decide) ?_
              refine lv_goto (tgt := 58) hx hb dX9_farthestFrom_54 (by decide) ?_
              refine lv_istore_n (lv' := [(3, .int (1 : Int32)), (2, .int y20), (0, .ref (G.2.2.1 139)), (1, .int p1), (4, .int x4)]) hx hb dX9_farthestFrom_58 rfl hl (by decide) rfl (fun ls hl => ?_)
              obtain ⟨x19, ex19⟩ : ∃ y : Int32, y = x4 + (1 : Int32) := ⟨_, rfl⟩
              have hf := nm_o hf ex19
              refine lv_iinc (v := x19) (lv' := [(4, .int x19), (3, .int (1 : Int32)), (2, .int y20), (0, .ref (G.2.2.1 139)), (1, .int p1)]) hx hb dX9_farthestFrom_59 hl (k := 4) rfl (by rw [ex19]; rfl) (by decide) rfl (fun ls hl => ?_)
              refine lv_goto (tgt := 10) hx hb dX9_farthestFrom_62 (by decide) ?_
              exact ih y20 (1 : Int32) x19 _ _ ls hW hS (lv_sub hl [3, 4, 2, 1, 0] rfl) hf
          have hf := evy20
          refine lv_if_eq (tgt := 38) hx hb dX9_farthestFrom_30 (by decide) (fun c21 => ?_) (fun c21 => ?_)
          · have hf := i_t hf c21
            refine lv_iload_n hx hb dX9_farthestFrom_38 rfl (lv_at hl 2 rfl) ?_
            exact main15 x2 _ _ ls hW hS (lv_sub hl [0, 1, 4] rfl) hf
          · have hf := i_f hf c21
            refine lv_iload hx hb dX9_farthestFrom_33 (lv_at hl 4 rfl) ?_
            refine lv_goto (tgt := 39) hx hb dX9_farthestFrom_35 (by decide) ?_
            exact main15 x4 _ _ ls hW hS (lv_sub hl [0, 1, 4] rfl) hf
  exact loop6 FU (-9 : Int32) (1 : Int32) x1 _ _ ls hW hS (lv_sub hl [3, 4, 2, 1, 0] rfl) hL
theorem cl_RX9_370 {R : Room} {s : State} {args : Array Value} (ht : ∀ w ∈ lw_all, w.before args s = true) (hR : 3 + 1 ≤ R.frames ∧ 8 + (5 + 11) + 70 ≤ R.locals) : CallW R s args RX9 RX9 370 yX9_farthestFrom cX9_farthestFrom 5 (some .int) (wsq yX9_farthestFrom cX9_farthestFrom 5 (some .int)) (rmq 3 70) 0 0 1 := cwV 1 ht (goodV wd7_113 wd7_115 wsel_88 wd1_10 wd7_116) rfl rfl rfl (by decide +kernel) hR
def f_X9_firstFit_L8 (M1 : Mem) (K5 : Int32 → Int32 → Option (Int32 × Int32)) (x3 : Int32) (x4 : Int32) : Option (Int32 × Int32) := (if x4 < 0 then (some (x3, x4)) else (if (gi M1 139 25) ≤ x4 then (some (x3, x4)) else (bq1 (f_X9_farthestFrom x4 M1) (fun (x15 : Int32) => nmq (x3 + (1 : Int32)) (fun (x17 : Int32) => (K5 x17 x15))))))
def f_X9_firstFit (M : Mem) : Option (Int32 × Mem) := (bq1 (f_X9_findFragments M) (fun (M1 : Mem) => (bq2 (lq2 (f_X9_firstFit_L8 M1) FU (0 : Int32) (0 : Int32)) (fun (x7 : Int32) (x8 : Int32) => (if 0 ≤ x8 then some (x7, M1) else some ((-9 : Int32), M1))))))
set_option maxHeartbeats 4000000 in
set_option maxRecDepth 100000 in
theorem ct_X9_firstFit (l : Launch) (G : GG)  {M : Mem} {r : Int32} {Mr : Mem}  (hf : f_X9_firstFit M = some (r, Mr)) : Met l yX9_firstFit (wsq yX9_firstFit cX9_firstFit 3 (some .int)) (rmq 5 116) (va_Pc [.ref (G.2.2.1 139)] (World G M)) (Qi G r Mr) 0 0 (adA G) := by
  refine x_start (plainFor_of_name (by decide)) (Nat.le_of_ble_eq_true rfl) ?_
  intro p e s m args below meth c hB hr hlk hW hS ls hl
  have hx := hB.x
  have hb := hB.b
  have hl : lv_has ls 3 [(0, .ref (G.2.2.1 139))] := hl
  unfold f_X9_firstFit at hf
  refine lv_aload_n hx hb dX9_firstFit_0 rfl (lv_at hl 0 rfl) ?_
  obtain ⟨M1, hg2, hf⟩ := b_o1 hf
  refine x_cv hB (x_rv hB hW hS (As := []) (rest := []) (ct_X9_findFragments l G hg2) (cl_RX9_202 hB.2.2.2.2.1 ⟨Nat.le_of_ble_eq_true rfl, Nat.le_of_ble_eq_true rfl⟩) tl139 (by decide) rfl rfl hl.1 rfl (Nat.le_of_ble_eq_true rfl) dX9_firstFit_1 ⟨Nat.le_refl _, Nat.le_refl _⟩) hS (fun H locs hW hS => ?_)
  refine lv_iconst (v := (0 : Int32)) hx hb dX9_firstFit_4 (by decide) ?_
  refine lv_istore_n (lv' := [(1, .int (0 : Int32)), (0, .ref (G.2.2.1 139))]) hx hb dX9_firstFit_5 rfl hl (by decide) rfl (fun ls hl => ?_)
  refine lv_iconst (v := (0 : Int32)) hx hb dX9_firstFit_6 (by decide) ?_
  refine lv_istore_n (lv' := [(2, .int (0 : Int32)), (1, .int (0 : Int32)), (0, .ref (G.2.2.1 139))]) hx hb dX9_firstFit_7 rfl hl (by decide) rfl (fun ls hl => ?_)
  obtain ⟨y10, y11, hL, hf⟩ := b_o2 hf
  have main12 : ∀ (x7 : Int32) (x8 : Int32) (H : Heap) (locs : List Loc) (ls : Array Slot), Wd G M1 H → va_S (adA G) s.heap H locs → lv_has ls 3 [(1, .int x7), (2, .int x8)] → some (x7, x8) = some (y10, y11) → W p l e (rmq 5 116) s m args below meth c H locs 0 0 (MQ below (Qi G r Mr) args s 0 0 (adA G)) (F0 m 32 ls []) := by
    intro x7 x8 H locs ls hW hS hl hE
    cases hE
    refine lv_iload_n hx hb dX9_firstFit_32 rfl (lv_at hl 1 rfl) ?_
    refine lv_if_ge (tgt := 41) hx hb dX9_firstFit_33 (by decide) (fun c9 => ?_) (fun c9 => ?_)
    · have hf := i_t hf c9
      refine lv_iload_n hx hb dX9_firstFit_41 rfl (lv_at hl 0 rfl) ?_
      exact e_i hB hW hS hr hlk (s_1 hf) (s_2 hf) dX9_firstFit_42
    · have hf := i_f hf c9
      refine lv_bipush (v := (-9 : Int32)) hx hb dX9_firstFit_36 (by decide) ?_
      refine lv_goto (tgt := 42) hx hb dX9_firstFit_38 (by decide) ?_
      exact e_i hB hW hS hr hlk (s_1 hf) (s_2 hf) dX9_firstFit_42
  have loop6 : ∀ (n : Nat) (x3 : Int32) (x4 : Int32) (H : Heap) (locs : List Loc) (ls : Array Slot), Wd G M1 H → va_S (adA G) s.heap H locs → lv_has ls 3 [(0, .ref (G.2.2.1 139)), (1, .int x3), (2, .int x4)] → lq2 (f_X9_firstFit_L8 M1) n x3 x4 = some (y10, y11) → W p l e (rmq 5 116) s m args below meth c H locs 0 0 (MQ below (Qi G r Mr) args s 0 0 (adA G)) (F0 m 8 ls []) := by
    intro n
    induction n with
    | zero => intro x3 x4 H locs ls hW hS hl hf; exact (l_z2 hf).elim
    | succ n ih =>
      intro x3 x4 H locs ls hW hS hl hf
      have hf := l_s2 hf
      generalize lq2 (f_X9_firstFit_L8 M1) n = K5 at ih hf
      unfold f_X9_firstFit_L8 at hf
      refine lv_iload_n hx hb dX9_firstFit_8 rfl (lv_at hl 2 rfl) ?_
      refine lv_if_lt (tgt := 32) hx hb dX9_firstFit_9 (by decide) (fun c13 => ?_) (fun c13 => ?_)
      · have hf := i_t hf c13
        exact main12 x3 x4 _ _ ls hW hS (lv_sub hl [1, 2] rfl) hf
      · have hf := i_f hf c13
        refine lv_iload_n hx hb dX9_firstFit_12 rfl (lv_at hl 2 rfl) ?_
        refine lv_aload_n hx hb dX9_firstFit_13 rfl (lv_at hl 0 rfl) ?_
        refine fg9_25 hB hW tl139 wd5_104 dX9_firstFit_14 ?_
        refine lv_icmp_ge (tgt := 32) hx hb dX9_firstFit_17 (by decide) (fun c14 => ?_) (fun c14 => ?_)
        · have hf := i_t hf c14
          exact main12 x3 x4 _ _ ls hW hS (lv_sub hl [1, 2] rfl) hf
        · have hf := i_f hf c14
          refine lv_aload_n hx hb dX9_firstFit_20 rfl (lv_at hl 0 rfl) ?_
          refine lv_iload_n hx hb dX9_firstFit_21 rfl (lv_at hl 2 rfl) ?_
          obtain ⟨x15, hg16, hf⟩ := b_o1 hf
          refine x_ci hB (x_rv hB hW hS (As := [.int x4]) (rest := []) (ct_X9_farthestFrom l G hg16) (cl_RX9_370 hB.2.2.2.2.1 ⟨Nat.le_of_ble_eq_true rfl, Nat.le_of_ble_eq_true rfl⟩) tl139 (by decide) rfl rfl hl.1 rfl (Nat.le_of_ble_eq_true rfl) dX9_firstFit_22 ⟨Nat.le_refl _, Nat.le_refl _⟩) hS (fun H locs hW hS => ?_)
          refine lv_istore_n (lv' := [(2, .int x15), (0, .ref (G.2.2.1 139)), (1, .int x3)]) hx hb dX9_firstFit_25 rfl hl (by decide) rfl (fun ls hl => ?_)
          obtain ⟨x17, ex17⟩ : ∃ y : Int32, y = x3 + (1 : Int32) := ⟨_, rfl⟩
          have hf := nm_o hf ex17
          refine lv_iinc (v := x17) (lv' := [(1, .int x17), (2, .int x15), (0, .ref (G.2.2.1 139))]) hx hb dX9_firstFit_26 hl (k := 2) rfl (by rw [ex17]; rfl) (by decide) rfl (fun ls hl => ?_)
          refine lv_goto (tgt := 8) hx hb dX9_firstFit_29 (by decide) ?_
          exact ih x17 x15 _ _ ls hW hS (lv_sub hl [2, 0, 1] rfl) hf
  exact loop6 FU (0 : Int32) (0 : Int32) _ _ ls hW hS (lv_sub hl [2, 1, 0] rfl) hL
def f_X9_linesWith (p1 : Int32) (M : Mem) : Option (Int32 × Mem) := (nmq ((gi M 139 11)) (fun (x1 : Int32) => nmq (si M 139 11 p1) (fun (M2 : Mem) => bq2 (f_X9_findLines M2) (fun (x3 : Int32) (M4 : Mem) => nmq (si M4 139 11 x1) (fun (M6 : Mem) => some (x3, M6))))))
set_option maxHeartbeats 4000000 in
set_option maxRecDepth 100000 in
theorem ct_X9_linesWith (l : Launch) (G : GG) {p1 : Int32} {M : Mem} {r : Int32} {Mr : Mem}  (hf : f_X9_linesWith p1 M = some (r, Mr)) : Met l yX9_linesWith (wsq yX9_linesWith cX9_linesWith 4 (some .int)) (rmq 6 141) (va_Pc [.ref (G.2.2.1 139), .int p1] (World G M)) (Qi G r Mr) 0 0 (adA G) := by
  refine x_start (plainFor_of_name (by decide)) (Nat.le_of_ble_eq_true rfl) ?_
  intro p e s m args below meth c hB hr hlk hW hS ls hl
  have hx := hB.x
  have hb := hB.b
  have hl : lv_has ls 4 [(0, .ref (G.2.2.1 139)), (1, .int p1)] := hl
  unfold f_X9_linesWith at hf
  refine lv_aload_n hx hb dX9_linesWith_0 rfl (lv_at hl 0 rfl) ?_
  refine fg9_11 hB hW tl139 wd5_90 dX9_linesWith_1 ?_
  refine lv_topi (fun x1 ex1 => ?_)
  have hf := nm_o hf ex1
  refine lv_istore_n (lv' := [(2, .int x1), (0, .ref (G.2.2.1 139)), (1, .int p1)]) hx hb dX9_linesWith_4 rfl hl (by decide) rfl (fun ls hl => ?_)
  refine lv_aload_n hx hb dX9_linesWith_5 rfl (lv_at hl 1 rfl) ?_
  refine lv_iload_n hx hb dX9_linesWith_6 rfl (lv_at hl 2 rfl) ?_
  refine fp9_11 hB hW hS tl139 wd5_90 dX9_linesWith_7 (fun H locs M2 eM2 hW hS => ?_)
  have hf := nm_o hf eM2
  refine lv_aload_n hx hb dX9_linesWith_10 rfl (lv_at hl 1 rfl) ?_
  obtain ⟨x3, M4, hg5, hf⟩ := b_o2 hf
  refine x_ci hB (x_rv hB hW hS (As := []) (rest := []) (ct_X9_findLines l G hg5) (cl_RX9_214 hB.2.2.2.2.1 ⟨Nat.le_of_ble_eq_true rfl, Nat.le_of_ble_eq_true rfl⟩) tl139 (by decide) rfl rfl hl.1 rfl (Nat.le_of_ble_eq_true rfl) dX9_linesWith_11 ⟨Nat.le_refl _, Nat.le_refl _⟩) hS (fun H locs hW hS => ?_)
  refine lv_istore_n (lv' := [(3, .int x3), (2, .int x1), (0, .ref (G.2.2.1 139)), (1, .int p1)]) hx hb dX9_linesWith_14 rfl hl (by decide) rfl (fun ls hl => ?_)
  refine lv_aload_n hx hb dX9_linesWith_15 rfl (lv_at hl 2 rfl) ?_
  refine lv_iload_n hx hb dX9_linesWith_16 rfl (lv_at hl 1 rfl) ?_
  refine fp9_11 hB hW hS tl139 wd5_90 dX9_linesWith_17 (fun H locs M6 eM6 hW hS => ?_)
  have hf := nm_o hf eM6
  refine lv_iload_n hx hb dX9_linesWith_20 rfl (lv_at hl 0 rfl) ?_
  exact e_i hB hW hS hr hlk (s_1 hf) (s_2 hf) dX9_linesWith_21
theorem cl_RX9_373 {R : Room} {s : State} {args : Array Value} (ht : ∀ w ∈ lw_all, w.before args s = true) (hR : 6 + 1 ≤ R.frames ∧ 8 + (4 + 11) + 141 ≤ R.locals) : CallW R s args RX9 RX9 373 yX9_linesWith cX9_linesWith 4 (some .int) (wsq yX9_linesWith cX9_linesWith 4 (some .int)) (rmq 6 141) 0 0 1 := cwV 1 ht (goodV wd7_121 wd7_123 wsel_89 wd1_10 wd7_124) rfl rfl rfl (by decide +kernel) hR
def f_X9_with (p1 : Int32) (M : Mem) : Option (Int32 × Mem) := (bq1 (f_X9_bound p1 (10 : Int32) (60 : Int32)) (fun (x1 : Int32) => (if x1 = 0 then (bq2 (f_X9_linesWith p1 M) (fun (x4 : Int32) (M5 : Mem) => some (x4, M5))) else (bq2 (f_X9_no x1 M) (fun (x7 : Int32) (M8 : Mem) => some (x7, M8))))))
set_option maxHeartbeats 4000000 in
set_option maxRecDepth 100000 in
theorem ct_X9_with (l : Launch) (G : GG) {p1 : Int32} {M : Mem} {r : Int32} {Mr : Mem}  (hf : f_X9_with p1 M = some (r, Mr)) : Met l yX9_with (wsq yX9_with cX9_with 3 (some .int)) (rmq 7 164) (va_Pc [.ref (G.2.2.1 139), .int p1] (World G M)) (Qi G r Mr) 0 0 (adA G) := by
  refine x_start (plainFor_of_name (by decide)) (Nat.le_of_ble_eq_true rfl) ?_
  intro p e s m args below meth c hB hr hlk hW hS ls hl
  have hx := hB.x
  have hb := hB.b
  have hl : lv_has ls 3 [(0, .ref (G.2.2.1 139)), (1, .int p1)] := hl
  unfold f_X9_with at hf
  refine lv_iload_n hx hb dX9_with_0 rfl (lv_at hl 1 rfl) ?_
  refine lv_bipush (v := (10 : Int32)) hx hb dX9_with_1 (by decide) ?_
  refine lv_bipush (v := (60 : Int32)) hx hb dX9_with_3 (by decide) ?_
  obtain ⟨x1, hg2, hf⟩ := b_o1 hf
  refine x_ci hB (x_rs hB hW hS (As := [.int p1, .int (10 : Int32), .int (60 : Int32)]) (rest := []) (ct_X9_bound l G hg2) (cl_RX9_217 hB.2.2.2.2.1 ⟨Nat.le_of_ble_eq_true rfl, Nat.le_of_ble_eq_true rfl⟩) rfl hl.1 rfl (Nat.le_of_ble_eq_true rfl) dX9_with_5 ⟨Nat.le_refl _, Nat.le_refl _⟩) hS (fun H locs hW hS => ?_)
  refine lv_istore_n (lv' := [(2, .int x1), (0, .ref (G.2.2.1 139)), (1, .int p1)]) hx hb dX9_with_8 rfl hl (by decide) rfl (fun ls hl => ?_)
  refine lv_iload_n hx hb dX9_with_9 rfl (lv_at hl 0 rfl) ?_
  refine lv_if_eq (tgt := 21) hx hb dX9_with_10 (by decide) (fun c3 => ?_) (fun c3 => ?_)
  · have hf := i_t hf c3
    refine lv_aload_n hx hb dX9_with_21 rfl (lv_at hl 1 rfl) ?_
    refine lv_iload_n hx hb dX9_with_22 rfl (lv_at hl 2 rfl) ?_
    obtain ⟨x4, M5, hg6, hf⟩ := b_o2 hf
    refine x_ci hB (x_rv hB hW hS (As := [.int p1]) (rest := []) (ct_X9_linesWith l G hg6) (cl_RX9_373 hB.2.2.2.2.1 ⟨Nat.le_of_ble_eq_true rfl, Nat.le_of_ble_eq_true rfl⟩) tl139 (by decide) rfl rfl hl.1 rfl (Nat.le_of_ble_eq_true rfl) dX9_with_23 ⟨Nat.le_refl _, Nat.le_refl _⟩) hS (fun H locs hW hS => ?_)
    exact e_i hB hW hS hr hlk (s_1 hf) (s_2 hf) dX9_with_26
  · have hf := i_f hf c3
    refine lv_aload_n hx hb dX9_with_13 rfl (lv_at hl 1 rfl) ?_
    refine lv_iload_n hx hb dX9_with_14 rfl (lv_at hl 0 rfl) ?_
    obtain ⟨x7, M8, hg9, hf⟩ := b_o2 hf
    refine x_ci hB (x_rv hB hW hS (As := [.int x1]) (rest := []) (ct_X9_no l G hg9) (cl_RX9_224 hB.2.2.2.2.1 ⟨Nat.le_of_ble_eq_true rfl, Nat.le_of_ble_eq_true rfl⟩) tl139 (by decide) rfl rfl hl.1 rfl (Nat.le_of_ble_eq_true rfl) dX9_with_15 ⟨Nat.le_refl _, Nat.le_refl _⟩) hS (fun H locs hW hS => ?_)
    refine lv_goto (tgt := 26) hx hb dX9_with_18 (by decide) ?_
    exact e_i hB hW hS hr hlk (s_1 hf) (s_2 hf) dX9_with_26
def f_X9_narrowest_L21 (p1 : Int32) (K6 : Int32 → Mem → Option (Int32 × Mem)) (x4 : Int32) (M5 : Mem) : Option (Int32 × Mem) := (if (60 : Int32) < x4 then some ((-9 : Int32), M5) else (bq2 (f_X9_linesWith x4 M5) (fun (x9 : Int32) (M10 : Mem) => bq1 (f_X9_isIn x9 (0 : Int32) p1) (fun (x12 : Int32) => (if x12 = 0 then (nmq (x4 + (1 : Int32)) (fun (x15 : Int32) => (K6 x15 M10))) else some (x4, M10))))))
def f_X9_narrowest (p1 : Int32) (M : Mem) : Option (Int32 × Mem) := (bq1 (f_X9_bound p1 (1 : Int32) (20 : Int32)) (fun (x1 : Int32) => (if x1 = 0 then (lq2 (f_X9_narrowest_L21 p1) FU (10 : Int32) M) else (bq2 (f_X9_no x1 M) (fun (x16 : Int32) (M17 : Mem) => some (x16, M17))))))
set_option maxHeartbeats 4000000 in
set_option maxRecDepth 100000 in
theorem ct_X9_narrowest (l : Launch) (G : GG) {p1 : Int32} {M : Mem} {r : Int32} {Mr : Mem}  (hf : f_X9_narrowest p1 M = some (r, Mr)) : Met l yX9_narrowest (wsq yX9_narrowest cX9_narrowest 4 (some .int)) (rmq 7 164) (va_Pc [.ref (G.2.2.1 139), .int p1] (World G M)) (Qi G r Mr) 0 0 (adA G) := by
  refine x_start (plainFor_of_name (by decide)) (Nat.le_of_ble_eq_true rfl) ?_
  intro p e s m args below meth c hB hr hlk hW hS ls hl
  have hx := hB.x
  have hb := hB.b
  have hl : lv_has ls 4 [(0, .ref (G.2.2.1 139)), (1, .int p1)] := hl
  unfold f_X9_narrowest at hf
  refine lv_iload_n hx hb dX9_narrowest_0 rfl (lv_at hl 1 rfl) ?_
  refine lv_iconst (v := (1 : Int32)) hx hb dX9_narrowest_1 (by decide) ?_
  refine lv_bipush (v := (20 : Int32)) hx hb dX9_narrowest_2 (by decide) ?_
  obtain ⟨x1, hg2, hf⟩ := b_o1 hf
  refine x_ci hB (x_rs hB hW hS (As := [.int p1, .int (1 : Int32), .int (20 : Int32)]) (rest := []) (ct_X9_bound l G hg2) (cl_RX9_217 hB.2.2.2.2.1 ⟨Nat.le_of_ble_eq_true rfl, Nat.le_of_ble_eq_true rfl⟩) rfl hl.1 rfl (Nat.le_of_ble_eq_true rfl) dX9_narrowest_4 ⟨Nat.le_refl _, Nat.le_refl _⟩) hS (fun H locs hW hS => ?_)
  refine lv_istore_n (lv' := [(2, .int x1), (0, .ref (G.2.2.1 139)), (1, .int p1)]) hx hb dX9_narrowest_7 rfl hl (by decide) rfl (fun ls hl => ?_)
  refine lv_iload_n hx hb dX9_narrowest_8 rfl (lv_at hl 0 rfl) ?_
  refine lv_if_eq (tgt := 18) hx hb dX9_narrowest_9 (by decide) (fun c3 => ?_) (fun c3 => ?_)
  · have hf := i_t hf c3
    refine lv_bipush (v := (10 : Int32)) hx hb dX9_narrowest_18 (by decide) ?_
    refine lv_istore_n (lv' := [(3, .int (10 : Int32)), (2, .int x1), (0, .ref (G.2.2.1 139)), (1, .int p1)]) hx hb dX9_narrowest_20 rfl hl (by decide) rfl (fun ls hl => ?_)
    have loop7 : ∀ (n : Nat) (x4 : Int32) (M5 : Mem) (H : Heap) (locs : List Loc) (ls : Array Slot), Wd G M5 H → va_S (adA G) s.heap H locs → lv_has ls 4 [(0, .ref (G.2.2.1 139)), (1, .int p1), (3, .int x4)] → lq2 (f_X9_narrowest_L21 p1) n x4 M5 = some (r, Mr) → W p l e (rmq 7 164) s m args below meth c H locs 0 0 (MQ below (Qi G r Mr) args s 0 0 (adA G)) (F0 m 21 ls []) := by
      intro n
      induction n with
      | zero => intro x4 M5 H locs ls hW hS hl hf; exact (l_z2 hf).elim
      | succ n ih =>
        intro x4 M5 H locs ls hW hS hl hf
        have hf := l_s2 hf
        generalize lq2 (f_X9_narrowest_L21 p1) n = K6 at ih hf
        unfold f_X9_narrowest_L21 at hf
        refine lv_iload_n hx hb dX9_narrowest_21 rfl (lv_at hl 2 rfl) ?_
        refine lv_bipush (v := (60 : Int32)) hx hb dX9_narrowest_22 (by decide) ?_
        refine lv_icmp_gt (tgt := 48) hx hb dX9_narrowest_24 (by decide) (fun c8 => ?_) (fun c8 => ?_)
        · have hf := i_t hf c8
          refine lv_bipush (v := (-9 : Int32)) hx hb dX9_narrowest_48 (by decide) ?_
          exact e_i hB hW hS hr hlk (s_1 hf) (s_2 hf) dX9_narrowest_50
        · have hf := i_f hf c8
          refine lv_aload_n hx hb dX9_narrowest_27 rfl (lv_at hl 0 rfl) ?_
          refine lv_iload_n hx hb dX9_narrowest_28 rfl (lv_at hl 2 rfl) ?_
          obtain ⟨x9, M10, hg11, hf⟩ := b_o2 hf
          refine x_ci hB (x_rv hB hW hS (As := [.int x4]) (rest := []) (ct_X9_linesWith l G hg11) (cl_RX9_373 hB.2.2.2.2.1 ⟨Nat.le_of_ble_eq_true rfl, Nat.le_of_ble_eq_true rfl⟩) tl139 (by decide) rfl rfl hl.1 rfl (Nat.le_of_ble_eq_true rfl) dX9_narrowest_29 ⟨Nat.le_refl _, Nat.le_refl _⟩) hS (fun H locs hW hS => ?_)
          refine lv_iconst (v := (0 : Int32)) hx hb dX9_narrowest_32 (by decide) ?_
          refine lv_iload_n hx hb dX9_narrowest_33 rfl (lv_at hl 1 rfl) ?_
          obtain ⟨x12, hg13, hf⟩ := b_o1 hf
          refine x_ci hB (x_rs hB hW hS (As := [.int x9, .int (0 : Int32), .int p1]) (rest := []) (ct_X9_isIn l G hg13) (cl_RX9_125 hB.2.2.2.2.1 ⟨Nat.le_of_ble_eq_true rfl, Nat.le_of_ble_eq_true rfl⟩) rfl hl.1 rfl (Nat.le_of_ble_eq_true rfl) dX9_narrowest_34 ⟨Nat.le_refl _, Nat.le_refl _⟩) hS (fun H locs hW hS => ?_)
          refine lv_if_eq (tgt := 42) hx hb dX9_narrowest_37 (by decide) (fun c14 => ?_) (fun c14 => ?_)
          · have hf := i_t hf c14
            obtain ⟨x15, ex15⟩ : ∃ y : Int32, y = x4 + (1 : Int32) := ⟨_, rfl⟩
            have hf := nm_o hf ex15
            refine lv_iinc (v := x15) (lv' := [(3, .int x15), (0, .ref (G.2.2.1 139)), (1, .int p1)]) hx hb dX9_narrowest_42 hl (k := 2) rfl (by rw [ex15]; rfl) (by decide) rfl (fun ls hl => ?_)
            refine lv_goto (tgt := 21) hx hb dX9_narrowest_45 (by decide) ?_
            exact ih x15 M10 _ _ ls hW hS (lv_sub hl [1, 2, 0] rfl) hf
          · have hf := i_f hf c14
            refine lv_iload_n hx hb dX9_narrowest_40 rfl (lv_at hl 2 rfl) ?_
            exact e_i hB hW hS hr hlk (s_1 hf) (s_2 hf) dX9_narrowest_41
    exact loop7 FU (10 : Int32) M _ _ ls hW hS (lv_sub hl [2, 3, 0] rfl) hf
  · have hf := i_f hf c3
    refine lv_aload_n hx hb dX9_narrowest_12 rfl (lv_at hl 1 rfl) ?_
    refine lv_iload_n hx hb dX9_narrowest_13 rfl (lv_at hl 0 rfl) ?_
    obtain ⟨x16, M17, hg18, hf⟩ := b_o2 hf
    refine x_ci hB (x_rv hB hW hS (As := [.int x1]) (rest := []) (ct_X9_no l G hg18) (cl_RX9_224 hB.2.2.2.2.1 ⟨Nat.le_of_ble_eq_true rfl, Nat.le_of_ble_eq_true rfl⟩) tl139 (by decide) rfl rfl hl.1 rfl (Nat.le_of_ble_eq_true rfl) dX9_narrowest_14 ⟨Nat.le_refl _, Nat.le_refl _⟩) hS (fun H locs hW hS => ?_)
    exact e_i hB hW hS hr hlk (s_1 hf) (s_2 hf) dX9_narrowest_17
theorem cl_RX9_376 {R : Room} {s : State} {args : Array Value} (ht : ∀ w ∈ lw_all, w.before args s = true) (hR : 2 + 1 ≤ R.frames ∧ 8 + (1 + 11) + 44 ≤ R.locals) : CallW R s args RX9 RX9 376 yX9_minds cX9_minds 1 none (wsq yX9_minds cX9_minds 1 none) (rmq 2 44) 0 0 0 := cwV 0 ht (goodV wd7_137 wd7_139 wsel_91 wd1_10 wd7_140) rfl rfl rfl (by decide +kernel) hR
theorem cl_RX9_379 {R : Room} {s : State} {args : Array Value} (ht : ∀ w ∈ lw_all, w.before args s = true) (hR : 2 + 1 ≤ R.frames ∧ 8 + (1 + 11) + 44 ≤ R.locals) : CallW R s args RX9 RX9 379 yX9_forgets cX9_forgets 1 none (wsq yX9_forgets cX9_forgets 1 none) (rmq 2 44) 0 0 0 := cwV 0 ht (goodV wd7_141 wd7_143 wsel_92 wd1_10 wd7_144) rfl rfl rfl (by decide +kernel) hR
def f_X9_linesWithout (p1 : Int32) (M : Mem) : Option (Int32 × Mem) := (bq1 (f_X9_minds M) (fun (M1 : Mem) => bq1 (f_X9_drop p1 M1) (fun (M3 : Mem) => bq2 (f_X9_findLines M3) (fun (x5 : Int32) (M6 : Mem) => bq1 (f_X9_forgets M6) (fun (M8 : Mem) => some (x5, M8))))))
set_option maxHeartbeats 4000000 in
set_option maxRecDepth 100000 in
theorem ct_X9_linesWithout (l : Launch) (G : GG) {p1 : Int32} {M : Mem} {r : Int32} {Mr : Mem}  (hf : f_X9_linesWithout p1 M = some (r, Mr)) : Met l yX9_linesWithout (wsq yX9_linesWithout cX9_linesWithout 3 (some .int)) (rmq 6 141) (va_Pc [.ref (G.2.2.1 139), .int p1] (World G M)) (Qi G r Mr) 0 0 (adA G) := by
  refine x_start (plainFor_of_name (by decide)) (Nat.le_of_ble_eq_true rfl) ?_
  intro p e s m args below meth c hB hr hlk hW hS ls hl
  have hx := hB.x
  have hb := hB.b
  have hl : lv_has ls 3 [(0, .ref (G.2.2.1 139)), (1, .int p1)] := hl
  unfold f_X9_linesWithout at hf
  refine lv_aload_n hx hb dX9_linesWithout_0 rfl (lv_at hl 0 rfl) ?_
  obtain ⟨M1, hg2, hf⟩ := b_o1 hf
  refine x_cv hB (x_rv hB hW hS (As := []) (rest := []) (ct_X9_minds l G hg2) (cl_RX9_376 hB.2.2.2.2.1 ⟨Nat.le_of_ble_eq_true rfl, Nat.le_of_ble_eq_true rfl⟩) tl139 (by decide) rfl rfl hl.1 rfl (Nat.le_of_ble_eq_true rfl) dX9_linesWithout_1 ⟨Nat.le_refl _, Nat.le_refl _⟩) hS (fun H locs hW hS => ?_)
  refine lv_aload_n hx hb dX9_linesWithout_4 rfl (lv_at hl 0 rfl) ?_
  refine lv_iload_n hx hb dX9_linesWithout_5 rfl (lv_at hl 1 rfl) ?_
  obtain ⟨M3, hg4, hf⟩ := b_o1 hf
  refine x_cv hB (x_rv hB hW hS (As := [.int p1]) (rest := []) (ct_X9_drop l G hg4) (cl_RX9_323 hB.2.2.2.2.1 ⟨Nat.le_of_ble_eq_true rfl, Nat.le_of_ble_eq_true rfl⟩) tl139 (by decide) rfl rfl hl.1 rfl (Nat.le_of_ble_eq_true rfl) dX9_linesWithout_6 ⟨Nat.le_refl _, Nat.le_refl _⟩) hS (fun H locs hW hS => ?_)
  refine lv_aload_n hx hb dX9_linesWithout_9 rfl (lv_at hl 0 rfl) ?_
  obtain ⟨x5, M6, hg7, hf⟩ := b_o2 hf
  refine x_ci hB (x_rv hB hW hS (As := []) (rest := []) (ct_X9_findLines l G hg7) (cl_RX9_214 hB.2.2.2.2.1 ⟨Nat.le_of_ble_eq_true rfl, Nat.le_of_ble_eq_true rfl⟩) tl139 (by decide) rfl rfl hl.1 rfl (Nat.le_of_ble_eq_true rfl) dX9_linesWithout_10 ⟨Nat.le_refl _, Nat.le_refl _⟩) hS (fun H locs hW hS => ?_)
  refine lv_istore_n (lv' := [(2, .int x5), (0, .ref (G.2.2.1 139)), (1, .int p1)]) hx hb dX9_linesWithout_13 rfl hl (by decide) rfl (fun ls hl => ?_)
  refine lv_aload_n hx hb dX9_linesWithout_14 rfl (lv_at hl 1 rfl) ?_
  obtain ⟨M8, hg9, hf⟩ := b_o1 hf
  refine x_cv hB (x_rv hB hW hS (As := []) (rest := []) (ct_X9_forgets l G hg9) (cl_RX9_379 hB.2.2.2.2.1 ⟨Nat.le_of_ble_eq_true rfl, Nat.le_of_ble_eq_true rfl⟩) tl139 (by decide) rfl rfl hl.1 rfl (Nat.le_of_ble_eq_true rfl) dX9_linesWithout_15 ⟨Nat.le_refl _, Nat.le_refl _⟩) hS (fun H locs hW hS => ?_)
  refine lv_iload_n hx hb dX9_linesWithout_18 rfl (lv_at hl 0 rfl) ?_
  exact e_i hB hW hS hr hlk (s_1 hf) (s_2 hf) dX9_linesWithout_19
theorem cl_RX9_382 {R : Room} {s : State} {args : Array Value} (ht : ∀ w ∈ lw_all, w.before args s = true) (hR : 6 + 1 ≤ R.frames ∧ 8 + (3 + 11) + 141 ≤ R.locals) : CallW R s args RX9 RX9 382 yX9_linesWithout cX9_linesWithout 3 (some .int) (wsq yX9_linesWithout cX9_linesWithout 3 (some .int)) (rmq 6 141) 0 0 1 := cwV 1 ht (goodV wd7_133 wd7_135 wsel_90 wd1_10 wd7_136) rfl rfl rfl (by decide +kernel) hR
def f_X9_without (p1 : Int32) (p2 : Int32) (M : Mem) : Option (Int32 × Mem) := (bq1 (f_X9_isWord p1 M) (fun (x1 : Int32) => (bq1 ((if x1 = 0 then (some ((-1 : Int32))) else (bq1 (f_X9_isIn p2 (0 : Int32) (1 : Int32)) (fun (x20 : Int32) => (if x20 = 0 then (some ((-2 : Int32))) else (some ((0 : Int32))))))) : Option (Int32)) (fun (x3 : Int32) => (if x3 = 0 then (bq2 (f_X9_linesWithout p1 M) (fun (x6 : Int32) (M7 : Mem) => (if p2 = 0 then some (x6, M7) else (if 0 ≤ x6 then (bq1 (f_X9_totalNow M7) (fun (x11 : UInt32) => bq1 (f_Jxf58ca_floatToIntBits_5c35a x11) (fun (x13 : Int32) => some (x13, M7)))) else some ((0 : Int32), M7))))) else (bq2 (f_X9_no x3 M) (fun (x15 : Int32) (M16 : Mem) => some (x15, M16))))))))
set_option maxHeartbeats 4000000 in
set_option maxRecDepth 100000 in
theorem ct_X9_without (l : Launch) (G : GG) {p1 : Int32} {p2 : Int32} {M : Mem} {r : Int32} {Mr : Mem}  (hf : f_X9_without p1 p2 M = some (r, Mr)) : Met l yX9_without (wsq yX9_without cX9_without 5 (some .int)) (rmq 7 163) (va_Pc [.ref (G.2.2.1 139), .int p1, .int p2] (World G M)) (Qi G r Mr) 0 0 (adA G) := by
  refine x_start (plainFor_of_name (by decide)) (Nat.le_of_ble_eq_true rfl) ?_
  intro p e s m args below meth c hB hr hlk hW hS ls hl
  have hx := hB.x
  have hb := hB.b
  have hl : lv_has ls 5 [(0, .ref (G.2.2.1 139)), (1, .int p1), (2, .int p2)] := hl
  unfold f_X9_without at hf
  refine lv_aload_n hx hb dX9_without_0 rfl (lv_at hl 0 rfl) ?_
  refine lv_iload_n hx hb dX9_without_1 rfl (lv_at hl 1 rfl) ?_
  obtain ⟨x1, hg2, hf⟩ := b_o1 hf
  refine x_ci hB (x_rv hB hW hS (As := [.int p1]) (rest := []) (ct_X9_isWord l G hg2) (cl_RX9_320 hB.2.2.2.2.1 ⟨Nat.le_of_ble_eq_true rfl, Nat.le_of_ble_eq_true rfl⟩) tl139 (by decide) rfl rfl hl.1 rfl (Nat.le_of_ble_eq_true rfl) dX9_without_2 ⟨Nat.le_refl _, Nat.le_refl _⟩) hS (fun H locs hW hS => ?_)
  obtain ⟨y18, hR, hf⟩ := b_o1 hf
  have main4 : ∀ (x3 : Int32) (H : Heap) (locs : List Loc) (ls : Array Slot), Wd G M H → va_S (adA G) s.heap H locs → lv_has ls 5 [(0, .ref (G.2.2.1 139)), (1, .int p1), (2, .int p2)] → some (x3) = some (y18) → W p l e (rmq 7 163) s m args below meth c H locs 0 0 (MQ below (Qi G r Mr) args s 0 0 (adA G)) (F0 m 27 ls [.int x3]) := by
    intro x3 H locs ls hW hS hl hE
    cases hE
    refine lv_istore_n (lv' := [(3, .int y18), (0, .ref (G.2.2.1 139)), (1, .int p1), (2, .int p2)]) hx hb dX9_without_27 rfl hl (by decide) rfl (fun ls hl => ?_)
    refine lv_iload_n hx hb dX9_without_28 rfl (lv_at hl 0 rfl) ?_
    refine lv_if_eq (tgt := 38) hx hb dX9_without_29 (by decide) (fun c5 => ?_) (fun c5 => ?_)
    · have hf := i_t hf c5
      refine lv_aload_n hx hb dX9_without_38 rfl (lv_at hl 1 rfl) ?_
      refine lv_iload_n hx hb dX9_without_39 rfl (lv_at hl 2 rfl) ?_
      obtain ⟨x6, M7, hg8, hf⟩ := b_o2 hf
      refine x_ci hB (x_rv hB hW hS (As := [.int p1]) (rest := []) (ct_X9_linesWithout l G hg8) (cl_RX9_382 hB.2.2.2.2.1 ⟨Nat.le_of_ble_eq_true rfl, Nat.le_of_ble_eq_true rfl⟩) tl139 (by decide) rfl rfl hl.1 rfl (Nat.le_of_ble_eq_true rfl) dX9_without_40 ⟨Nat.le_refl _, Nat.le_refl _⟩) hS (fun H locs hW hS => ?_)
      refine lv_istore (lv' := [(4, .int x6), (3, .int y18), (0, .ref (G.2.2.1 139)), (1, .int p1), (2, .int p2)]) hx hb dX9_without_43 hl (by decide) rfl (fun ls hl => ?_)
      refine lv_iload_n hx hb dX9_without_45 rfl (lv_at hl 4 rfl) ?_
      refine lv_if_ne (tgt := 54) hx hb dX9_without_46 (by decide) (fun c9 => ?_) (fun c9 => ?_)
      · have hf := i_f hf c9
        refine lv_iload hx hb dX9_without_54 (lv_at hl 0 rfl) ?_
        refine lv_if_ge (tgt := 63) hx hb dX9_without_56 (by decide) (fun c10 => ?_) (fun c10 => ?_)
        · have hf := i_t hf c10
          refine lv_aload_n hx hb dX9_without_63 rfl (lv_at hl 2 rfl) ?_
          obtain ⟨x11, hg12, hf⟩ := b_o1 hf
          refine x_cf hB (x_rv hB hW hS (As := []) (rest := []) (ct_X9_totalNow l G hg12) (cl_RX9_366 hB.2.2.2.2.1 ⟨Nat.le_of_ble_eq_true rfl, Nat.le_of_ble_eq_true rfl⟩) tl139 (by decide) rfl rfl hl.1 rfl (Nat.le_of_ble_eq_true rfl) dX9_without_64 ⟨Nat.le_refl _, Nat.le_refl _⟩) hS (fun H locs hW hS => ?_)
          obtain ⟨x13, hg14, hf⟩ := b_o1 hf
          refine x_ci hB (x_rs hB hW hS (As := [.float x11]) (rest := []) (ct_Jxf58ca_floatToIntBits_5c35a l G hg14) (cl_RX9_354 hB.2.2.2.2.1 ⟨Nat.le_of_ble_eq_true rfl, Nat.le_of_ble_eq_true rfl⟩) rfl hl.1 rfl (Nat.le_of_ble_eq_true rfl) dX9_without_67 ⟨Nat.le_refl _, Nat.le_refl _⟩) hS (fun H locs hW hS => ?_)
          exact e_i hB hW hS hr hlk (s_1 hf) (s_2 hf) dX9_without_70
        · have hf := i_f hf c10
          refine lv_iconst (v := (0 : Int32)) hx hb dX9_without_59 (by decide) ?_
          refine lv_goto (tgt := 70) hx hb dX9_without_60 (by decide) ?_
          exact e_i hB hW hS hr hlk (s_1 hf) (s_2 hf) dX9_without_70
      · have hf := i_t hf c9
        refine lv_iload hx hb dX9_without_49 (lv_at hl 0 rfl) ?_
        refine lv_goto (tgt := 70) hx hb dX9_without_51 (by decide) ?_
        exact e_i hB hW hS hr hlk (s_1 hf) (s_2 hf) dX9_without_70
    · have hf := i_f hf c5
      refine lv_aload_n hx hb dX9_without_32 rfl (lv_at hl 1 rfl) ?_
      refine lv_iload_n hx hb dX9_without_33 rfl (lv_at hl 0 rfl) ?_
      obtain ⟨x15, M16, hg17, hf⟩ := b_o2 hf
      refine x_ci hB (x_rv hB hW hS (As := [.int y18]) (rest := []) (ct_X9_no l G hg17) (cl_RX9_224 hB.2.2.2.2.1 ⟨Nat.le_of_ble_eq_true rfl, Nat.le_of_ble_eq_true rfl⟩) tl139 (by decide) rfl rfl hl.1 rfl (Nat.le_of_ble_eq_true rfl) dX9_without_34 ⟨Nat.le_refl _, Nat.le_refl _⟩) hS (fun H locs hW hS => ?_)
      exact e_i hB hW hS hr hlk (s_1 hf) (s_2 hf) dX9_without_37
  have hf := hR
  refine lv_if_ne (tgt := 12) hx hb dX9_without_5 (by decide) (fun c19 => ?_) (fun c19 => ?_)
  · have hf := i_f hf c19
    refine lv_iload_n hx hb dX9_without_12 rfl (lv_at hl 2 rfl) ?_
    refine lv_iconst (v := (0 : Int32)) hx hb dX9_without_13 (by decide) ?_
    refine lv_iconst (v := (1 : Int32)) hx hb dX9_without_14 (by decide) ?_
    obtain ⟨x20, hg21, hf⟩ := b_o1 hf
    refine x_ci hB (x_rs hB hW hS (As := [.int p2, .int (0 : Int32), .int (1 : Int32)]) (rest := []) (ct_X9_isIn l G hg21) (cl_RX9_125 hB.2.2.2.2.1 ⟨Nat.le_of_ble_eq_true rfl, Nat.le_of_ble_eq_true rfl⟩) rfl hl.1 rfl (Nat.le_of_ble_eq_true rfl) dX9_without_15 ⟨Nat.le_refl _, Nat.le_refl _⟩) hS (fun H locs hW hS => ?_)
    refine lv_if_ne (tgt := 26) hx hb dX9_without_18 (by decide) (fun c22 => ?_) (fun c22 => ?_)
    · have hf := i_f hf c22
      refine lv_iconst (v := (0 : Int32)) hx hb dX9_without_26 (by decide) ?_
      exact main4 (0 : Int32) _ _ ls hW hS (lv_sub hl [0, 1, 2] rfl) hf
    · have hf := i_t hf c22
      refine lv_bipush (v := (-2 : Int32)) hx hb dX9_without_21 (by decide) ?_
      refine lv_goto (tgt := 27) hx hb dX9_without_23 (by decide) ?_
      exact main4 (-2 : Int32) _ _ ls hW hS (lv_sub hl [0, 1, 2] rfl) hf
  · have hf := i_t hf c19
    refine lv_iconst (v := (-1 : Int32)) hx hb dX9_without_8 (by decide) ?_
    refine lv_goto (tgt := 27) hx hb dX9_without_9 (by decide) ?_
    exact main4 (-1 : Int32) _ _ ls hW hS (lv_sub hl [0, 1, 2] rfl) hf
def f_X9_worst_L24  (K13 : Int32 → UInt32 → Int32 → Int32 → Mem → Option (Int32 × Mem)) (x8 : Int32) (x9 : UInt32) (x10 : Int32) (x11 : Int32) (M12 : Mem) : Option (Int32 × Mem) := (if (gi M12 139 9) ≤ x11 then (some (x10, M12)) else (bq2 (f_X9_linesWithout x11 M12) (fun (x21 : Int32) (M22 : Mem) => (if x21 < 0 then (nmq (x11 + (1 : Int32)) (fun (x25 : Int32) => (K13 x8 x9 x10 x25 M22))) else (jq (fun (x26 : Int32) => (bq1 (f_X9_totalNow M22) (fun (x29 : UInt32) => (nmq (x26 + (1 : Int32)) (fun (x31 : Int32) => (K13 (1 : Int32) x29 x26 x31 M22)))))) (fun (K28 : Int32 → Option (Int32 × Mem)) => (if x8 = 0 then (K28 x11) else (bq1 (f_X9_totalNow M22) (fun (x33 : UInt32) => (if (fcl x33 x9) < 0 then (K28 x11) else (nmq (x11 + (1 : Int32)) (fun (x36 : Int32) => (K13 x8 x9 x10 x36 M22)))))))))))))
def f_X9_worst (M : Mem) : Option (Int32 × Mem) := (bq2 (f_X9_findLines M) (fun (x1 : Int32) (M2 : Mem) => (nmq ((if x1 < 0 then ((0 : Int32)) else ((1 : Int32)))) (fun (x4 : Int32) => (bq1 (f_X9_totalNow M2) (fun (x6 : UInt32) => (bq2 (lq5 f_X9_worst_L24 FU x4 x6 (-9 : Int32) (0 : Int32) M2) (fun (x15 : Int32) (M16 : Mem) => some (x15, M16)))))))))
set_option maxHeartbeats 4000000 in
set_option maxRecDepth 100000 in
theorem ct_X9_worst (l : Launch) (G : GG)  {M : Mem} {r : Int32} {Mr : Mem}  (hf : f_X9_worst M = some (r, Mr)) : Met l yX9_worst (wsq yX9_worst cX9_worst 5 (some .int)) (rmq 7 163) (va_Pc [.ref (G.2.2.1 139)] (World G M)) (Qi G r Mr) 0 0 (adA G) := by
  refine x_start (plainFor_of_name (by decide)) (Nat.le_of_ble_eq_true rfl) ?_
  intro p e s m args below meth c hB hr hlk hW hS ls hl
  have hx := hB.x
  have hb := hB.b
  have hl : lv_has ls 5 [(0, .ref (G.2.2.1 139))] := hl
  unfold f_X9_worst at hf
  refine lv_aload_n hx hb dX9_worst_0 rfl (lv_at hl 0 rfl) ?_
  obtain ⟨x1, M2, hg3, hf⟩ := b_o2 hf
  refine x_ci hB (x_rv hB hW hS (As := []) (rest := []) (ct_X9_findLines l G hg3) (cl_RX9_214 hB.2.2.2.2.1 ⟨Nat.le_of_ble_eq_true rfl, Nat.le_of_ble_eq_true rfl⟩) tl139 (by decide) rfl rfl hl.1 rfl (Nat.le_of_ble_eq_true rfl) dX9_worst_1 ⟨Nat.le_refl _, Nat.le_refl _⟩) hS (fun H locs hW hS => ?_)
  obtain ⟨y37, evy37⟩ : ∃ z : Int32, (if x1 < 0 then ((0 : Int32)) else ((1 : Int32))) = z := ⟨_, rfl⟩
  have hf := nm_o hf evy37.symm
  have main5 : ∀ (x4 : Int32) (H : Heap) (locs : List Loc) (ls : Array Slot), Wd G M2 H → va_S (adA G) s.heap H locs → lv_has ls 5 [(0, .ref (G.2.2.1 139))] → x4 = y37 → W p l e (rmq 7 163) s m args below meth c H locs 0 0 (MQ below (Qi G r Mr) args s 0 0 (adA G)) (F0 m 12 ls [.int x4]) := by
    intro x4 H locs ls hW hS hl hE
    have hE := hE.symm
    subst hE
    refine lv_istore_n (lv' := [(1, .int y37), (0, .ref (G.2.2.1 139))]) hx hb dX9_worst_12 rfl hl (by decide) rfl (fun ls hl => ?_)
    refine lv_aload_n hx hb dX9_worst_13 rfl (lv_at hl 1 rfl) ?_
    obtain ⟨x6, hg7, hf⟩ := b_o1 hf
    refine x_cf hB (x_rv hB hW hS (As := []) (rest := []) (ct_X9_totalNow l G hg7) (cl_RX9_366 hB.2.2.2.2.1 ⟨Nat.le_of_ble_eq_true rfl, Nat.le_of_ble_eq_true rfl⟩) tl139 (by decide) rfl rfl hl.1 rfl (Nat.le_of_ble_eq_true rfl) dX9_worst_14 ⟨Nat.le_refl _, Nat.le_refl _⟩) hS (fun H locs hW hS => ?_)
    refine lv_fstore_n (lv' := [(2, .float x6), (1, .int y37), (0, .ref (G.2.2.1 139))]) hx hb dX9_worst_17 rfl hl (by decide) rfl (fun ls hl => ?_)
    refine lv_bipush (v := (-9 : Int32)) hx hb dX9_worst_18 (by decide) ?_
    refine lv_istore_n (lv' := [(3, .int (-9 : Int32)), (2, .float x6), (1, .int y37), (0, .ref (G.2.2.1 139))]) hx hb dX9_worst_20 rfl hl (by decide) rfl (fun ls hl => ?_)
    refine lv_iconst (v := (0 : Int32)) hx hb dX9_worst_21 (by decide) ?_
    refine lv_istore (lv' := [(4, .int (0 : Int32)), (3, .int (-9 : Int32)), (2, .float x6), (1, .int y37), (0, .ref (G.2.2.1 139))]) hx hb dX9_worst_22 hl (by decide) rfl (fun ls hl => ?_)
    obtain ⟨y17, M18, hL, hf⟩ := b_o2 hf
    have main19 : ∀ (x15 : Int32) (M16 : Mem) (H : Heap) (locs : List Loc) (ls : Array Slot), Wd G M16 H → va_S (adA G) s.heap H locs → lv_has ls 5 [(3, .int x15)] → some (x15, M16) = some (y17, M18) → W p l e (rmq 7 163) s m args below meth c H locs 0 0 (MQ below (Qi G r Mr) args s 0 0 (adA G)) (F0 m 74 ls []) := by
      intro x15 M16 H locs ls hW hS hl hE
      cases hE
      refine lv_iload_n hx hb dX9_worst_74 rfl (lv_at hl 0 rfl) ?_
      exact e_i hB hW hS hr hlk (s_1 hf) (s_2 hf) dX9_worst_75
    have loop14 : ∀ (n : Nat) (x8 : Int32) (x9 : UInt32) (x10 : Int32) (x11 : Int32) (M12 : Mem) (H : Heap) (locs : List Loc) (ls : Array Slot), Wd G M12 H → va_S (adA G) s.heap H locs → lv_has ls 5 [(0, .ref (G.2.2.1 139)), (1, .int x8), (2, .float x9), (3, .int x10), (4, .int x11)] → lq5 f_X9_worst_L24 n x8 x9 x10 x11 M12 = some (y17, M18) → W p l e (rmq 7 163) s m args below meth c H locs 0 0 (MQ below (Qi G r Mr) args s 0 0 (adA G)) (F0 m 24 ls []) := by
      intro n
      induction n with
      | zero => intro x8 x9 x10 x11 M12 H locs ls hW hS hl hf; exact (l_z5 hf).elim
      | succ n ih =>
        intro x8 x9 x10 x11 M12 H locs ls hW hS hl hf
        have hf := l_s5 hf
        generalize lq5 f_X9_worst_L24 n = K13 at ih hf
        unfold f_X9_worst_L24 at hf
        refine lv_iload hx hb dX9_worst_24 (lv_at hl 4 rfl) ?_
        refine lv_aload_n hx hb dX9_worst_26 rfl (lv_at hl 0 rfl) ?_
        refine fg9_9 hB hW tl139 wd5_88 dX9_worst_27 ?_
        refine lv_icmp_ge (tgt := 74) hx hb dX9_worst_30 (by decide) (fun c20 => ?_) (fun c20 => ?_)
        · have hf := i_t hf c20
          exact main19 x10 M12 _ _ ls hW hS (lv_sub hl [3] rfl) hf
        · have hf := i_f hf c20
          refine lv_aload_n hx hb dX9_worst_33 rfl (lv_at hl 0 rfl) ?_
          refine lv_iload hx hb dX9_worst_34 (lv_at hl 4 rfl) ?_
          obtain ⟨x21, M22, hg23, hf⟩ := b_o2 hf
          refine x_ci hB (x_rv hB hW hS (As := [.int x11]) (rest := []) (ct_X9_linesWithout l G hg23) (cl_RX9_382 hB.2.2.2.2.1 ⟨Nat.le_of_ble_eq_true rfl, Nat.le_of_ble_eq_true rfl⟩) tl139 (by decide) rfl rfl hl.1 rfl (Nat.le_of_ble_eq_true rfl) dX9_worst_36 ⟨Nat.le_refl _, Nat.le_refl _⟩) hS (fun H locs hW hS => ?_)
          refine lv_if_lt (tgt := 68) hx hb dX9_worst_39 (by decide) (fun c24 => ?_) (fun c24 => ?_)
          · have hf := i_t hf c24
            obtain ⟨x25, ex25⟩ : ∃ y : Int32, y = x11 + (1 : Int32) := ⟨_, rfl⟩
            have hf := nm_o hf ex25
            refine lv_iinc (v := x25) (lv' := [(4, .int x25), (0, .ref (G.2.2.1 139)), (1, .int x8), (2, .float x9), (3, .int x10)]) hx hb dX9_worst_68 hl (k := 4) rfl (by rw [ex25]; rfl) (by decide) rfl (fun ls hl => ?_)
            refine lv_goto (tgt := 24) hx hb dX9_worst_71 (by decide) ?_
            exact ih x8 x9 x10 x25 M22 _ _ ls hW hS (lv_sub hl [1, 2, 3, 4, 0] rfl) hf
          · have hf := i_f hf c24
            refine lv_iload_n hx hb dX9_worst_42 rfl (lv_at hl 1 rfl) ?_
            obtain ⟨K28, eK28, hf⟩ := j_o hf
            have main27 : ∀ (x26 : Int32) (H : Heap) (locs : List Loc) (ls : Array Slot), Wd G M22 H → va_S (adA G) s.heap H locs → lv_has ls 5 [(0, .ref (G.2.2.1 139)), (4, .int x26)] → K28 x26 = some (y17, M18) → W p l e (rmq 7 163) s m args below meth c H locs 0 0 (MQ below (Qi G r Mr) args s 0 0 (adA G)) (F0 m 58 ls []) := by
              intro x26 H locs ls hW hS hl hf
              subst eK28
              refine lv_iload hx hb dX9_worst_58 (lv_at hl 1 rfl) ?_
              refine lv_istore_n (lv' := [(3, .int x26), (0, .ref (G.2.2.1 139)), (4, .int x26)]) hx hb dX9_worst_60 rfl hl (by decide) rfl (fun ls hl => ?_)
              refine lv_iconst (v := (1 : Int32)) hx hb dX9_worst_61 (by decide) ?_
              refine lv_istore_n (lv' := [(1, .int (1 : Int32)), (3, .int x26), (0, .ref (G.2.2.1 139)), (4, .int x26)]) hx hb dX9_worst_62 rfl hl (by decide) rfl (fun ls hl => ?_)
              refine lv_aload_n hx hb dX9_worst_63 rfl (lv_at hl 2 rfl) ?_
              obtain ⟨x29, hg30, hf⟩ := b_o1 hf
              refine x_cf hB (x_rv hB hW hS (As := []) (rest := []) (ct_X9_totalNow l G hg30) (cl_RX9_366 hB.2.2.2.2.1 ⟨Nat.le_of_ble_eq_true rfl, Nat.le_of_ble_eq_true rfl⟩) tl139 (by decide) rfl rfl hl.1 rfl (Nat.le_of_ble_eq_true rfl) dX9_worst_64 ⟨Nat.le_refl _, Nat.le_refl _⟩) hS (fun H locs hW hS => ?_)
              refine lv_fstore_n (lv' := [(2, .float x29), (1, .int (1 : Int32)), (3, .int x26), (0, .ref (G.2.2.1 139)), (4, .int x26)]) hx hb dX9_worst_67 rfl hl (by decide) rfl (fun ls hl => ?_)
              obtain ⟨x31, ex31⟩ : ∃ y : Int32, y = x26 + (1 : Int32) := ⟨_, rfl⟩
              have hf := nm_o hf ex31
              refine lv_iinc (v := x31) (lv' := [(4, .int x31), (2, .float x29), (1, .int (1 : Int32)), (3, .int x26), (0, .ref (G.2.2.1 139))]) hx hb dX9_worst_68 hl (k := 4) rfl (by rw [ex31]; rfl) (by decide) rfl (fun ls hl => ?_)
              refine lv_goto (tgt := 24) hx hb dX9_worst_71 (by decide) ?_
              exact ih (1 : Int32) x29 x26 x31 M22 _ _ ls hW hS (lv_sub hl [4, 2, 1, 3, 0] rfl) hf
            refine lv_if_eq (tgt := 58) hx hb dX9_worst_43 (by decide) (fun c32 => ?_) (fun c32 => ?_)
            · have hf := i_t hf c32
              exact main27 x11 _ _ ls hW hS (lv_sub hl [0, 4] rfl) hf
            · have hf := i_f hf c32
              refine lv_aload_n hx hb dX9_worst_46 rfl (lv_at hl 0 rfl) ?_
              obtain ⟨x33, hg34, hf⟩ := b_o1 hf
              refine x_cf hB (x_rv hB hW hS (As := []) (rest := []) (ct_X9_totalNow l G hg34) (cl_RX9_366 hB.2.2.2.2.1 ⟨Nat.le_of_ble_eq_true rfl, Nat.le_of_ble_eq_true rfl⟩) tl139 (by decide) rfl rfl hl.1 rfl (Nat.le_of_ble_eq_true rfl) dX9_worst_47 ⟨Nat.le_refl _, Nat.le_refl _⟩) hS (fun H locs hW hS => ?_)
              refine lv_fload_n hx hb dX9_worst_50 rfl (lv_at hl 2 rfl) ?_
              refine lv_fcmp hx hb dX9_worst_51 ?_
              refine lv_if_lt (tgt := 58) hx hb dX9_worst_52 (by decide) (fun c35 => ?_) (fun c35 => ?_)
              · have hf := i_t hf c35
                exact main27 x11 _ _ ls hW hS (lv_sub hl [0, 4] rfl) hf
              · have hf := i_f hf c35
                refine lv_goto (tgt := 68) hx hb dX9_worst_55 (by decide) ?_
                obtain ⟨x36, ex36⟩ : ∃ y : Int32, y = x11 + (1 : Int32) := ⟨_, rfl⟩
                have hf := nm_o hf ex36
                refine lv_iinc (v := x36) (lv' := [(4, .int x36), (0, .ref (G.2.2.1 139)), (1, .int x8), (2, .float x9), (3, .int x10)]) hx hb dX9_worst_68 hl (k := 4) rfl (by rw [ex36]; rfl) (by decide) rfl (fun ls hl => ?_)
                refine lv_goto (tgt := 24) hx hb dX9_worst_71 (by decide) ?_
                exact ih x8 x9 x10 x36 M22 _ _ ls hW hS (lv_sub hl [1, 2, 3, 4, 0] rfl) hf
    exact loop14 FU y37 x6 (-9 : Int32) (0 : Int32) M2 _ _ ls hW hS (lv_sub hl [4, 3, 2, 1, 0] rfl) hL
  have hf := evy37
  refine lv_if_lt (tgt := 11) hx hb dX9_worst_4 (by decide) (fun c38 => ?_) (fun c38 => ?_)
  · have hf := i_t hf c38
    refine lv_iconst (v := (0 : Int32)) hx hb dX9_worst_11 (by decide) ?_
    exact main5 (0 : Int32) _ _ ls hW hS (lv_sub hl [0] rfl) hf
  · have hf := i_f hf c38
    refine lv_iconst (v := (1 : Int32)) hx hb dX9_worst_7 (by decide) ?_
    refine lv_goto (tgt := 12) hx hb dX9_worst_8 (by decide) ?_
    exact main5 (1 : Int32) _ _ ls hW hS (lv_sub hl [0] rfl) hf
def f_X9_manners_L14  (K6 : Int32 → Int32 → Int32 → Mem → Option (Int32 × Mem)) (x2 : Int32) (x3 : Int32) (x4 : Int32) (M5 : Mem) : Option (Int32 × Mem) := (if (3 : Int32) ≤ x4 then (some (x2, M5)) else (nmq (si M5 139 18 x4) (fun (M15 : Mem) => bq2 (f_X9_findLines M15) (fun (x16 : Int32) (M17 : Mem) => (if x16 < 0 then (nmq (x4 + (1 : Int32)) (fun (x20 : Int32) => (K6 x2 x3 x20 M17))) else (if x2 < 0 then (nmq (x4 + (1 : Int32)) (fun (x22 : Int32) => (K6 x4 x16 x22 M17))) else (if x16 < x3 then (nmq (x4 + (1 : Int32)) (fun (x24 : Int32) => (K6 x4 x16 x24 M17))) else (nmq (x4 + (1 : Int32)) (fun (x25 : Int32) => (K6 x2 x3 x25 M17))))))))))
def f_X9_manners (M : Mem) : Option (Int32 × Mem) := (nmq ((gi M 139 18)) (fun (x1 : Int32) => (bq2 (lq4 f_X9_manners_L14 FU (-9 : Int32) (-9 : Int32) (0 : Int32) M) (fun (x8 : Int32) (M9 : Mem) => (nmq (si M9 139 18 x1) (fun (M10 : Mem) => some (x8, M10)))))))
set_option maxHeartbeats 4000000 in
set_option maxRecDepth 100000 in
theorem ct_X9_manners (l : Launch) (G : GG)  {M : Mem} {r : Int32} {Mr : Mem}  (hf : f_X9_manners M = some (r, Mr)) : Met l yX9_manners (wsq yX9_manners cX9_manners 6 (some .int)) (rmq 6 141) (va_Pc [.ref (G.2.2.1 139)] (World G M)) (Qi G r Mr) 0 0 (adA G) := by
  refine x_start (plainFor_of_name (by decide)) (Nat.le_of_ble_eq_true rfl) ?_
  intro p e s m args below meth c hB hr hlk hW hS ls hl
  have hx := hB.x
  have hb := hB.b
  have hl : lv_has ls 6 [(0, .ref (G.2.2.1 139))] := hl
  unfold f_X9_manners at hf
  refine lv_bipush (v := (-9 : Int32)) hx hb dX9_manners_0 (by decide) ?_
  refine lv_istore_n (lv' := [(1, .int (-9 : Int32)), (0, .ref (G.2.2.1 139))]) hx hb dX9_manners_2 rfl hl (by decide) rfl (fun ls hl => ?_)
  refine lv_bipush (v := (-9 : Int32)) hx hb dX9_manners_3 (by decide) ?_
  refine lv_istore_n (lv' := [(2, .int (-9 : Int32)), (1, .int (-9 : Int32)), (0, .ref (G.2.2.1 139))]) hx hb dX9_manners_5 rfl hl (by decide) rfl (fun ls hl => ?_)
  refine lv_aload_n hx hb dX9_manners_6 rfl (lv_at hl 2 rfl) ?_
  refine fg9_18 hB hW tl139 wd5_97 dX9_manners_7 ?_
  refine lv_topi (fun x1 ex1 => ?_)
  have hf := nm_o hf ex1
  refine lv_istore_n (lv' := [(3, .int x1), (2, .int (-9 : Int32)), (1, .int (-9 : Int32)), (0, .ref (G.2.2.1 139))]) hx hb dX9_manners_10 rfl hl (by decide) rfl (fun ls hl => ?_)
  refine lv_iconst (v := (0 : Int32)) hx hb dX9_manners_11 (by decide) ?_
  refine lv_istore (lv' := [(4, .int (0 : Int32)), (3, .int x1), (2, .int (-9 : Int32)), (1, .int (-9 : Int32)), (0, .ref (G.2.2.1 139))]) hx hb dX9_manners_12 hl (by decide) rfl (fun ls hl => ?_)
  obtain ⟨y11, M12, hL, hf⟩ := b_o2 hf
  have main13 : ∀ (x8 : Int32) (M9 : Mem) (H : Heap) (locs : List Loc) (ls : Array Slot), Wd G M9 H → va_S (adA G) s.heap H locs → lv_has ls 6 [(0, .ref (G.2.2.1 139)), (1, .int x8), (3, .int x1)] → some (x8, M9) = some (y11, M12) → W p l e (rmq 6 141) s m args below meth c H locs 0 0 (MQ below (Qi G r Mr) args s 0 0 (adA G)) (F0 m 62 ls []) := by
    intro x8 M9 H locs ls hW hS hl hE
    cases hE
    refine lv_aload_n hx hb dX9_manners_62 rfl (lv_at hl 0 rfl) ?_
    refine lv_iload_n hx hb dX9_manners_63 rfl (lv_at hl 2 rfl) ?_
    refine fp9_18 hB hW hS tl139 wd5_97 dX9_manners_64 (fun H locs M10 eM10 hW hS => ?_)
    have hf := nm_o hf eM10
    refine lv_iload_n hx hb dX9_manners_67 rfl (lv_at hl 1 rfl) ?_
    exact e_i hB hW hS hr hlk (s_1 hf) (s_2 hf) dX9_manners_68
  have loop7 : ∀ (n : Nat) (x2 : Int32) (x3 : Int32) (x4 : Int32) (M5 : Mem) (H : Heap) (locs : List Loc) (ls : Array Slot), Wd G M5 H → va_S (adA G) s.heap H locs → lv_has ls 6 [(0, .ref (G.2.2.1 139)), (1, .int x2), (2, .int x3), (3, .int x1), (4, .int x4)] → lq4 f_X9_manners_L14 n x2 x3 x4 M5 = some (y11, M12) → W p l e (rmq 6 141) s m args below meth c H locs 0 0 (MQ below (Qi G r Mr) args s 0 0 (adA G)) (F0 m 14 ls []) := by
    intro n
    induction n with
    | zero => intro x2 x3 x4 M5 H locs ls hW hS hl hf; exact (l_z4 hf).elim
    | succ n ih =>
      intro x2 x3 x4 M5 H locs ls hW hS hl hf
      have hf := l_s4 hf
      generalize lq4 f_X9_manners_L14 n = K6 at ih hf
      unfold f_X9_manners_L14 at hf
      refine lv_iload hx hb dX9_manners_14 (lv_at hl 4 rfl) ?_
      refine lv_iconst (v := (3 : Int32)) hx hb dX9_manners_16 (by decide) ?_
      refine lv_icmp_ge (tgt := 62) hx hb dX9_manners_17 (by decide) (fun c14 => ?_) (fun c14 => ?_)
      · have hf := i_t hf c14
        exact main13 x2 M5 _ _ ls hW hS (lv_sub hl [0, 1, 3] rfl) hf
      · have hf := i_f hf c14
        refine lv_aload_n hx hb dX9_manners_20 rfl (lv_at hl 0 rfl) ?_
        refine lv_iload hx hb dX9_manners_21 (lv_at hl 4 rfl) ?_
        refine fp9_18 hB hW hS tl139 wd5_97 dX9_manners_23 (fun H locs M15 eM15 hW hS => ?_)
        have hf := nm_o hf eM15
        refine lv_aload_n hx hb dX9_manners_26 rfl (lv_at hl 0 rfl) ?_
        obtain ⟨x16, M17, hg18, hf⟩ := b_o2 hf
        refine x_ci hB (x_rv hB hW hS (As := []) (rest := []) (ct_X9_findLines l G hg18) (cl_RX9_214 hB.2.2.2.2.1 ⟨Nat.le_of_ble_eq_true rfl, Nat.le_of_ble_eq_true rfl⟩) tl139 (by decide) rfl rfl hl.1 rfl (Nat.le_of_ble_eq_true rfl) dX9_manners_27 ⟨Nat.le_refl _, Nat.le_refl _⟩) hS (fun H locs hW hS => ?_)
        refine lv_istore (lv' := [(5, .int x16), (0, .ref (G.2.2.1 139)), (1, .int x2), (2, .int x3), (3, .int x1), (4, .int x4)]) hx hb dX9_manners_30 hl (by decide) rfl (fun ls hl => ?_)
        refine lv_iload hx hb dX9_manners_32 (lv_at hl 0 rfl) ?_
        refine lv_if_lt (tgt := 56) hx hb dX9_manners_34 (by decide) (fun c19 => ?_) (fun c19 => ?_)
        · have hf := i_t hf c19
          obtain ⟨x20, ex20⟩ : ∃ y : Int32, y = x4 + (1 : Int32) := ⟨_, rfl⟩
          have hf := nm_o hf ex20
          refine lv_iinc (v := x20) (lv' := [(4, .int x20), (5, .int x16), (0, .ref (G.2.2.1 139)), (1, .int x2), (2, .int x3), (3, .int x1)]) hx hb dX9_manners_56 hl (k := 5) rfl (by rw [ex20]; rfl) (by decide) rfl (fun ls hl => ?_)
          refine lv_goto (tgt := 14) hx hb dX9_manners_59 (by decide) ?_
          exact ih x2 x3 x20 M17 _ _ ls hW hS (lv_sub hl [2, 3, 4, 5, 0] rfl) hf
        · have hf := i_f hf c19
          refine lv_iload_n hx hb dX9_manners_37 rfl (lv_at hl 2 rfl) ?_
          refine lv_if_lt (tgt := 50) hx hb dX9_manners_38 (by decide) (fun c21 => ?_) (fun c21 => ?_)
          · have hf := i_t hf c21
            refine lv_iload hx hb dX9_manners_50 (lv_at hl 5 rfl) ?_
            refine lv_istore_n (lv' := [(1, .int x4), (5, .int x16), (0, .ref (G.2.2.1 139)), (2, .int x3), (3, .int x1), (4, .int x4)]) hx hb dX9_manners_52 rfl hl (by decide) rfl (fun ls hl => ?_)
            refine lv_iload hx hb dX9_manners_53 (lv_at hl 1 rfl) ?_
            refine lv_istore_n (lv' := [(2, .int x16), (1, .int x4), (5, .int x16), (0, .ref (G.2.2.1 139)), (3, .int x1), (4, .int x4)]) hx hb dX9_manners_55 rfl hl (by decide) rfl (fun ls hl => ?_)
            obtain ⟨x22, ex22⟩ : ∃ y : Int32, y = x4 + (1 : Int32) := ⟨_, rfl⟩
            have hf := nm_o hf ex22
            refine lv_iinc (v := x22) (lv' := [(4, .int x22), (2, .int x16), (1, .int x4), (5, .int x16), (0, .ref (G.2.2.1 139)), (3, .int x1)]) hx hb dX9_manners_56 hl (k := 5) rfl (by rw [ex22]; rfl) (by decide) rfl (fun ls hl => ?_)
            refine lv_goto (tgt := 14) hx hb dX9_manners_59 (by decide) ?_
            exact ih x4 x16 x22 M17 _ _ ls hW hS (lv_sub hl [4, 2, 1, 5, 0] rfl) hf
          · have hf := i_f hf c21
            refine lv_iload hx hb dX9_manners_41 (lv_at hl 0 rfl) ?_
            refine lv_iload_n hx hb dX9_manners_43 rfl (lv_at hl 3 rfl) ?_
            refine lv_icmp_lt (tgt := 50) hx hb dX9_manners_44 (by decide) (fun c23 => ?_) (fun c23 => ?_)
            · have hf := i_t hf c23
              refine lv_iload hx hb dX9_manners_50 (lv_at hl 5 rfl) ?_
              refine lv_istore_n (lv' := [(1, .int x4), (5, .int x16), (0, .ref (G.2.2.1 139)), (2, .int x3), (3, .int x1), (4, .int x4)]) hx hb dX9_manners_52 rfl hl (by decide) rfl (fun ls hl => ?_)
              refine lv_iload hx hb dX9_manners_53 (lv_at hl 1 rfl) ?_
              refine lv_istore_n (lv' := [(2, .int x16), (1, .int x4), (5, .int x16), (0, .ref (G.2.2.1 139)), (3, .int x1), (4, .int x4)]) hx hb dX9_manners_55 rfl hl (by decide) rfl (fun ls hl => ?_)
              obtain ⟨x24, ex24⟩ : ∃ y : Int32, y = x4 + (1 : Int32) := ⟨_, rfl⟩
              have hf := nm_o hf ex24
              refine lv_iinc (v := x24) (lv' := [(4, .int x24), (2, .int x16), (1, .int x4), (5, .int x16), (0, .ref (G.2.2.1 139)), (3, .int x1)]) hx hb dX9_manners_56 hl (k := 5) rfl (by rw [ex24]; rfl) (by decide) rfl (fun ls hl => ?_)
              refine lv_goto (tgt := 14) hx hb dX9_manners_59 (by decide) ?_
              exact ih x4 x16 x24 M17 _ _ ls hW hS (lv_sub hl [4, 2, 1, 5, 0] rfl) hf
            · have hf := i_f hf c23
              refine lv_goto (tgt := 56) hx hb dX9_manners_47 (by decide) ?_
              obtain ⟨x25, ex25⟩ : ∃ y : Int32, y = x4 + (1 : Int32) := ⟨_, rfl⟩
              have hf := nm_o hf ex25
              refine lv_iinc (v := x25) (lv' := [(4, .int x25), (5, .int x16), (0, .ref (G.2.2.1 139)), (1, .int x2), (2, .int x3), (3, .int x1)]) hx hb dX9_manners_56 hl (k := 5) rfl (by rw [ex25]; rfl) (by decide) rfl (fun ls hl => ?_)
              refine lv_goto (tgt := 14) hx hb dX9_manners_59 (by decide) ?_
              exact ih x2 x3 x25 M17 _ _ ls hW hS (lv_sub hl [2, 3, 4, 5, 0] rfl) hf
  exact loop7 FU (-9 : Int32) (-9 : Int32) (0 : Int32) M _ _ ls hW hS (lv_sub hl [4, 3, 2, 1, 0] rfl) hL
def f_X9_two (p1 : Int32) (p2 : Int32) (M : Mem) : Option (Int32 × Mem) := (nmq ((if p1 < (10 : Int32) then ((-4 : Int32)) else (if (10 : Int32) ≤ p2 then (if (60 : Int32) < p1 then ((-6 : Int32)) else (if p2 ≤ (60 : Int32) then ((0 : Int32)) else ((-6 : Int32)))) else ((-4 : Int32))))) (fun (x1 : Int32) => (if x1 = 0 then (bq2 (f_X9_linesWith p1 M) (fun (x4 : Int32) (M5 : Mem) => (nmq ((if x4 < 0 then ((0 : Int32)) else ((1 : Int32)))) (fun (x7 : Int32) => (bq1 (f_X9_totalNow M5) (fun (x9 : UInt32) => bq2 (f_X9_linesWith p2 M5) (fun (x11 : Int32) (M12 : Mem) => (nmq ((if x11 < 0 then ((0 : Int32)) else ((1 : Int32)))) (fun (x14 : Int32) => (bq1 (f_X9_totalNow M12) (fun (x16 : UInt32) => (jq (fun (_ : Unit) => (if x14 = 0 then some ((-9 : Int32), M12) else (if x7 = 0 then some ((1 : Int32), M12) else (if 0 ≤ (fcg x16 x9) then some ((-9 : Int32), M12) else some ((1 : Int32), M12))))) (fun (K19 : Unit → Option (Int32 × Mem)) => (if x7 = 0 then (K19 ()) else (if x14 = 0 then some ((0 : Int32), M12) else (if 0 ≤ (fcg x9 x16) then (K19 ()) else some ((0 : Int32), M12))))))))))))))))) else (bq2 (f_X9_no x1 M) (fun (x30 : Int32) (M31 : Mem) => some (x30, M31))))))
set_option maxHeartbeats 4000000 in
set_option maxRecDepth 100000 in
theorem ct_X9_two (l : Launch) (G : GG) {p1 : Int32} {p2 : Int32} {M : Mem} {r : Int32} {Mr : Mem}  (hf : f_X9_two p1 p2 M = some (r, Mr)) : Met l yX9_two (wsq yX9_two cX9_two 8 (some .int)) (rmq 7 164) (va_Pc [.ref (G.2.2.1 139), .int p1, .int p2] (World G M)) (Qi G r Mr) 0 0 (adA G) := by
  refine x_start (plainFor_of_name (by decide)) (Nat.le_of_ble_eq_true rfl) ?_
  intro p e s m args below meth c hB hr hlk hW hS ls hl
  have hx := hB.x
  have hb := hB.b
  have hl : lv_has ls 8 [(0, .ref (G.2.2.1 139)), (1, .int p1), (2, .int p2)] := hl
  unfold f_X9_two at hf
  refine lv_iload_n hx hb dX9_two_0 rfl (lv_at hl 1 rfl) ?_
  refine lv_bipush (v := (10 : Int32)) hx hb dX9_two_1 (by decide) ?_
  obtain ⟨y33, evy33⟩ : ∃ z : Int32, (if p1 < (10 : Int32) then ((-4 : Int32)) else (if (10 : Int32) ≤ p2 then (if (60 : Int32) < p1 then ((-6 : Int32)) else (if p2 ≤ (60 : Int32) then ((0 : Int32)) else ((-6 : Int32)))) else ((-4 : Int32)))) = z := ⟨_, rfl⟩
  have hf := nm_o hf evy33.symm
  have main2 : ∀ (x1 : Int32) (H : Heap) (locs : List Loc) (ls : Array Slot), Wd G M H → va_S (adA G) s.heap H locs → lv_has ls 8 [(0, .ref (G.2.2.1 139)), (1, .int p1), (2, .int p2)] → x1 = y33 → W p l e (rmq 7 164) s m args below meth c H locs 0 0 (MQ below (Qi G r Mr) args s 0 0 (adA G)) (F0 m 35 ls [.int x1]) := by
    intro x1 H locs ls hW hS hl hE
    have hE := hE.symm
    subst hE
    refine lv_istore_n (lv' := [(3, .int y33), (0, .ref (G.2.2.1 139)), (1, .int p1), (2, .int p2)]) hx hb dX9_two_35 rfl hl (by decide) rfl (fun ls hl => ?_)
    refine lv_iload_n hx hb dX9_two_36 rfl (lv_at hl 0 rfl) ?_
    refine lv_if_eq (tgt := 46) hx hb dX9_two_37 (by decide) (fun c3 => ?_) (fun c3 => ?_)
    · have hf := i_t hf c3
      refine lv_aload_n hx hb dX9_two_46 rfl (lv_at hl 1 rfl) ?_
      refine lv_iload_n hx hb dX9_two_47 rfl (lv_at hl 2 rfl) ?_
      obtain ⟨x4, M5, hg6, hf⟩ := b_o2 hf
      refine x_ci hB (x_rv hB hW hS (As := [.int p1]) (rest := []) (ct_X9_linesWith l G hg6) (cl_RX9_373 hB.2.2.2.2.1 ⟨Nat.le_of_ble_eq_true rfl, Nat.le_of_ble_eq_true rfl⟩) tl139 (by decide) rfl rfl hl.1 rfl (Nat.le_of_ble_eq_true rfl) dX9_two_48 ⟨Nat.le_refl _, Nat.le_refl _⟩) hS (fun H locs hW hS => ?_)
      obtain ⟨y28, evy28⟩ : ∃ z : Int32, (if x4 < 0 then ((0 : Int32)) else ((1 : Int32))) = z := ⟨_, rfl⟩
      have hf := nm_o hf evy28.symm
      have main8 : ∀ (x7 : Int32) (H : Heap) (locs : List Loc) (ls : Array Slot), Wd G M5 H → va_S (adA G) s.heap H locs → lv_has ls 8 [(0, .ref (G.2.2.1 139)), (2, .int p2)] → x7 = y28 → W p l e (rmq 7 164) s m args below meth c H locs 0 0 (MQ below (Qi G r Mr) args s 0 0 (adA G)) (F0 m 59 ls [.int x7]) := by
        intro x7 H locs ls hW hS hl hE
        have hE := hE.symm
        subst hE
        refine lv_istore (lv' := [(4, .int y28), (0, .ref (G.2.2.1 139)), (2, .int p2)]) hx hb dX9_two_59 hl (by decide) rfl (fun ls hl => ?_)
        refine lv_aload_n hx hb dX9_two_61 rfl (lv_at hl 1 rfl) ?_
        obtain ⟨x9, hg10, hf⟩ := b_o1 hf
        refine x_cf hB (x_rv hB hW hS (As := []) (rest := []) (ct_X9_totalNow l G hg10) (cl_RX9_366 hB.2.2.2.2.1 ⟨Nat.le_of_ble_eq_true rfl, Nat.le_of_ble_eq_true rfl⟩) tl139 (by decide) rfl rfl hl.1 rfl (Nat.le_of_ble_eq_true rfl) dX9_two_62 ⟨Nat.le_refl _, Nat.le_refl _⟩) hS (fun H locs hW hS => ?_)
        refine lv_fstore (lv' := [(5, .float x9), (4, .int y28), (0, .ref (G.2.2.1 139)), (2, .int p2)]) hx hb dX9_two_65 hl (by decide) rfl (fun ls hl => ?_)
        refine lv_aload_n hx hb dX9_two_67 rfl (lv_at hl 2 rfl) ?_
        refine lv_iload_n hx hb dX9_two_68 rfl (lv_at hl 3 rfl) ?_
        obtain ⟨x11, M12, hg13, hf⟩ := b_o2 hf
        refine x_ci hB (x_rv hB hW hS (As := [.int p2]) (rest := []) (ct_X9_linesWith l G hg13) (cl_RX9_373 hB.2.2.2.2.1 ⟨Nat.le_of_ble_eq_true rfl, Nat.le_of_ble_eq_true rfl⟩) tl139 (by decide) rfl rfl hl.1 rfl (Nat.le_of_ble_eq_true rfl) dX9_two_69 ⟨Nat.le_refl _, Nat.le_refl _⟩) hS (fun H locs hW hS => ?_)
        obtain ⟨y26, evy26⟩ : ∃ z : Int32, (if x11 < 0 then ((0 : Int32)) else ((1 : Int32))) = z := ⟨_, rfl⟩
        have hf := nm_o hf evy26.symm
        have main15 : ∀ (x14 : Int32) (H : Heap) (locs : List Loc) (ls : Array Slot), Wd G M12 H → va_S (adA G) s.heap H locs → lv_has ls 8 [(0, .ref (G.2.2.1 139)), (4, .int y28), (5, .float x9)] → x14 = y26 → W p l e (rmq 7 164) s m args below meth c H locs 0 0 (MQ below (Qi G r Mr) args s 0 0 (adA G)) (F0 m 80 ls [.int x14]) := by
          intro x14 H locs ls hW hS hl hE
          have hE := hE.symm
          subst hE
          refine lv_istore (lv' := [(6, .int y26), (0, .ref (G.2.2.1 139)), (4, .int y28), (5, .float x9)]) hx hb dX9_two_80 hl (by decide) rfl (fun ls hl => ?_)
          refine lv_aload_n hx hb dX9_two_82 rfl (lv_at hl 1 rfl) ?_
          obtain ⟨x16, hg17, hf⟩ := b_o1 hf
          refine x_cf hB (x_rv hB hW hS (As := []) (rest := []) (ct_X9_totalNow l G hg17) (cl_RX9_366 hB.2.2.2.2.1 ⟨Nat.le_of_ble_eq_true rfl, Nat.le_of_ble_eq_true rfl⟩) tl139 (by decide) rfl rfl hl.1 rfl (Nat.le_of_ble_eq_true rfl) dX9_two_83 ⟨Nat.le_refl _, Nat.le_refl _⟩) hS (fun H locs hW hS => ?_)
          refine lv_fstore (lv' := [(7, .float x16), (6, .int y26), (0, .ref (G.2.2.1 139)), (4, .int y28), (5, .float x9)]) hx hb dX9_two_86 hl (by decide) rfl (fun ls hl => ?_)
          refine lv_iload hx hb dX9_two_88 (lv_at hl 3 rfl) ?_
          obtain ⟨K19, eK19, hf⟩ := j_o hf
          have main18 : ∀ (_ : Unit) (H : Heap) (locs : List Loc) (ls : Array Slot), Wd G M12 H → va_S (adA G) s.heap H locs → lv_has ls 8 [(4, .int y28), (5, .float x9), (6, .int y26), (7, .float x16)] → K19 () = some (r, Mr) → W p l e (rmq 7 164) s m args below meth c H locs 0 0 (MQ below (Qi G r Mr) args s 0 0 (adA G)) (F0 m 108 ls []) := by
            intro _ H locs ls hW hS hl hf
            subst eK19
            refine lv_iload hx hb dX9_two_108 (lv_at hl 2 rfl) ?_
            refine lv_if_eq (tgt := 130) hx hb dX9_two_110 (by decide) (fun c20 => ?_) (fun c20 => ?_)
            · have hf := i_t hf c20
              refine lv_bipush (v := (-9 : Int32)) hx hb dX9_two_130 (by decide) ?_
              exact e_i hB hW hS hr hlk (s_1 hf) (s_2 hf) dX9_two_132
            · have hf := i_f hf c20
              refine lv_iload hx hb dX9_two_113 (lv_at hl 0 rfl) ?_
              refine lv_if_eq (tgt := 126) hx hb dX9_two_115 (by decide) (fun c21 => ?_) (fun c21 => ?_)
              · have hf := i_t hf c21
                refine lv_iconst (v := (1 : Int32)) hx hb dX9_two_126 (by decide) ?_
                refine lv_goto (tgt := 132) hx hb dX9_two_127 (by decide) ?_
                exact e_i hB hW hS hr hlk (s_1 hf) (s_2 hf) dX9_two_132
              · have hf := i_f hf c21
                refine lv_fload hx hb dX9_two_118 (lv_at hl 3 rfl) ?_
                refine lv_fload hx hb dX9_two_120 (lv_at hl 1 rfl) ?_
                refine lv_fcmp hx hb dX9_two_122 ?_
                refine lv_if_ge (tgt := 130) hx hb dX9_two_123 (by decide) (fun c22 => ?_) (fun c22 => ?_)
                · have hf := i_t hf c22
                  refine lv_bipush (v := (-9 : Int32)) hx hb dX9_two_130 (by decide) ?_
                  exact e_i hB hW hS hr hlk (s_1 hf) (s_2 hf) dX9_two_132
                · have hf := i_f hf c22
                  refine lv_iconst (v := (1 : Int32)) hx hb dX9_two_126 (by decide) ?_
                  refine lv_goto (tgt := 132) hx hb dX9_two_127 (by decide) ?_
                  exact e_i hB hW hS hr hlk (s_1 hf) (s_2 hf) dX9_two_132
          refine lv_if_eq (tgt := 108) hx hb dX9_two_90 (by decide) (fun c23 => ?_) (fun c23 => ?_)
          · have hf := i_t hf c23
            exact main18 () _ _ ls hW hS (lv_sub hl [3, 4, 1, 0] rfl) hf
          · have hf := i_f hf c23
            refine lv_iload hx hb dX9_two_93 (lv_at hl 1 rfl) ?_
            refine lv_if_eq (tgt := 106) hx hb dX9_two_95 (by decide) (fun c24 => ?_) (fun c24 => ?_)
            · have hf := i_t hf c24
              refine lv_iconst (v := (0 : Int32)) hx hb dX9_two_106 (by decide) ?_
              exact e_i hB hW hS hr hlk (s_1 hf) (s_2 hf) dX9_two_107
            · have hf := i_f hf c24
              refine lv_fload hx hb dX9_two_98 (lv_at hl 4 rfl) ?_
              refine lv_fload hx hb dX9_two_100 (lv_at hl 0 rfl) ?_
              refine lv_fcmp hx hb dX9_two_102 ?_
              refine lv_if_ge (tgt := 108) hx hb dX9_two_103 (by decide) (fun c25 => ?_) (fun c25 => ?_)
              · have hf := i_t hf c25
                exact main18 () _ _ ls hW hS (lv_sub hl [3, 4, 1, 0] rfl) hf
              · have hf := i_f hf c25
                refine lv_iconst (v := (0 : Int32)) hx hb dX9_two_106 (by decide) ?_
                exact e_i hB hW hS hr hlk (s_1 hf) (s_2 hf) dX9_two_107
        have hf := evy26
        refine lv_if_lt (tgt := 79) hx hb dX9_two_72 (by decide) (fun c27 => ?_) (fun c27 => ?_)
        · have hf := i_t hf c27
          refine lv_iconst (v := (0 : Int32)) hx hb dX9_two_79 (by decide) ?_
          exact main15 (0 : Int32) _ _ ls hW hS (lv_sub hl [2, 1, 0] rfl) hf
        · have hf := i_f hf c27
          refine lv_iconst (v := (1 : Int32)) hx hb dX9_two_75 (by decide) ?_
          refine lv_goto (tgt := 80) hx hb dX9_two_76 (by decide) ?_
          exact main15 (1 : Int32) _ _ ls hW hS (lv_sub hl [2, 1, 0] rfl) hf
      have hf := evy28
      refine lv_if_lt (tgt := 58) hx hb dX9_two_51 (by decide) (fun c29 => ?_) (fun c29 => ?_)
      · have hf := i_t hf c29
        refine lv_iconst (v := (0 : Int32)) hx hb dX9_two_58 (by decide) ?_
        exact main8 (0 : Int32) _ _ ls hW hS (lv_sub hl [1, 3] rfl) hf
      · have hf := i_f hf c29
        refine lv_iconst (v := (1 : Int32)) hx hb dX9_two_54 (by decide) ?_
        refine lv_goto (tgt := 59) hx hb dX9_two_55 (by decide) ?_
        exact main8 (1 : Int32) _ _ ls hW hS (lv_sub hl [1, 3] rfl) hf
    · have hf := i_f hf c3
      refine lv_aload_n hx hb dX9_two_40 rfl (lv_at hl 1 rfl) ?_
      refine lv_iload_n hx hb dX9_two_41 rfl (lv_at hl 0 rfl) ?_
      obtain ⟨x30, M31, hg32, hf⟩ := b_o2 hf
      refine x_ci hB (x_rv hB hW hS (As := [.int y33]) (rest := []) (ct_X9_no l G hg32) (cl_RX9_224 hB.2.2.2.2.1 ⟨Nat.le_of_ble_eq_true rfl, Nat.le_of_ble_eq_true rfl⟩) tl139 (by decide) rfl rfl hl.1 rfl (Nat.le_of_ble_eq_true rfl) dX9_two_42 ⟨Nat.le_refl _, Nat.le_refl _⟩) hS (fun H locs hW hS => ?_)
      exact e_i hB hW hS hr hlk (s_1 hf) (s_2 hf) dX9_two_45
  have hf := evy33
  refine lv_icmp_lt (tgt := 12) hx hb dX9_two_3 (by decide) (fun c34 => ?_) (fun c34 => ?_)
  · have hf := i_t hf c34
    refine lv_bipush (v := (-4 : Int32)) hx hb dX9_two_12 (by decide) ?_
    refine lv_goto (tgt := 35) hx hb dX9_two_14 (by decide) ?_
    exact main2 (-4 : Int32) _ _ ls hW hS (lv_sub hl [0, 1, 2] rfl) hf
  · have hf := i_f hf c34
    refine lv_iload_n hx hb dX9_two_6 rfl (lv_at hl 2 rfl) ?_
    refine lv_bipush (v := (10 : Int32)) hx hb dX9_two_7 (by decide) ?_
    refine lv_icmp_ge (tgt := 17) hx hb dX9_two_9 (by decide) (fun c35 => ?_) (fun c35 => ?_)
    · have hf := i_t hf c35
      refine lv_iload_n hx hb dX9_two_17 rfl (lv_at hl 1 rfl) ?_
      refine lv_bipush (v := (60 : Int32)) hx hb dX9_two_18 (by decide) ?_
      refine lv_icmp_gt (tgt := 29) hx hb dX9_two_20 (by decide) (fun c36 => ?_) (fun c36 => ?_)
      · have hf := i_t hf c36
        refine lv_bipush (v := (-6 : Int32)) hx hb dX9_two_29 (by decide) ?_
        refine lv_goto (tgt := 35) hx hb dX9_two_31 (by decide) ?_
        exact main2 (-6 : Int32) _ _ ls hW hS (lv_sub hl [0, 1, 2] rfl) hf
      · have hf := i_f hf c36
        refine lv_iload_n hx hb dX9_two_23 rfl (lv_at hl 2 rfl) ?_
        refine lv_bipush (v := (60 : Int32)) hx hb dX9_two_24 (by decide) ?_
        refine lv_icmp_le (tgt := 34) hx hb dX9_two_26 (by decide) (fun c37 => ?_) (fun c37 => ?_)
        · have hf := i_t hf c37
          refine lv_iconst (v := (0 : Int32)) hx hb dX9_two_34 (by decide) ?_
          exact main2 (0 : Int32) _ _ ls hW hS (lv_sub hl [0, 1, 2] rfl) hf
        · have hf := i_f hf c37
          refine lv_bipush (v := (-6 : Int32)) hx hb dX9_two_29 (by decide) ?_
          refine lv_goto (tgt := 35) hx hb dX9_two_31 (by decide) ?_
          exact main2 (-6 : Int32) _ _ ls hW hS (lv_sub hl [0, 1, 2] rfl) hf
    · have hf := i_f hf c35
      refine lv_bipush (v := (-4 : Int32)) hx hb dX9_two_12 (by decide) ?_
      refine lv_goto (tgt := 35) hx hb dX9_two_14 (by decide) ?_
      exact main2 (-4 : Int32) _ _ ls hW hS (lv_sub hl [0, 1, 2] rfl) hf
def f_X9_divisor_L6  (K3 : Int64 → Int64 → Option (Int64)) (x1 : Int64) (x2 : Int64) : Option (Int64) := (if (lcm x2 (0 : Int64)) = 0 then (some (x1)) else (gq (¬ x2 = 0) (nmq ((lrm x1 x2)) (fun (x10 : Int64) => (K3 x2 x10)))))
def f_X9_divisor (p1 : Int64) (p2 : Int64) : Option Int64 := (bq1 (lq2 f_X9_divisor_L6 FU p1 p2) (fun (x5 : Int64) => some x5))
set_option maxHeartbeats 4000000 in
set_option maxRecDepth 100000 in
theorem ct_X9_divisor (l : Launch) (G : GG) {p1 : Int64} {p2 : Int64} {M : Mem} {r : Int64}  (hf : f_X9_divisor p1 p2 = some r) : Met l yX9_divisor (wsq yX9_divisor cX9_divisor 10 (some .long)) (rmq 0 0) (va_Pc [.long p1, .long p2] (World G M)) (Ql G r M) 0 0 (adA G) := by
  refine x_start (plainFor_of_name (by decide)) (Nat.le_of_ble_eq_true rfl) ?_
  intro p e s m args below meth c hB hr hlk hW hS ls hl
  have hx := hB.x
  have hb := hB.b
  have hl : lv_has ls 10 [(0, .long p1), (2, .long p2)] := hl
  unfold f_X9_divisor at hf
  refine lv_lload_n hx hb dX9_divisor_0 rfl (lv_at hl 0 rfl) ?_
  refine lv_lstore (lv' := [(4, .long p1), (0, .long p1), (2, .long p2)]) hx hb dX9_divisor_1 hl (by decide) rfl (fun ls hl => ?_)
  refine lv_lload_n hx hb dX9_divisor_3 rfl (lv_at hl 2 rfl) ?_
  refine lv_lstore (lv' := [(6, .long p2), (4, .long p1), (0, .long p1), (2, .long p2)]) hx hb dX9_divisor_4 hl (by decide) rfl (fun ls hl => ?_)
  obtain ⟨y6, hL, hf⟩ := b_o1 hf
  have main7 : ∀ (x5 : Int64) (H : Heap) (locs : List Loc) (ls : Array Slot), Wd G M H → va_S (adA G) s.heap H locs → lv_has ls 10 [(4, .long x5)] → some (x5) = some (y6) → W p l e (rmq 0 0) s m args below meth c H locs 0 0 (MQ below (Ql G r M) args s 0 0 (adA G)) (F0 m 31 ls []) := by
    intro x5 H locs ls hW hS hl hE
    cases hE
    refine lv_lload hx hb dX9_divisor_31 (lv_at hl 0 rfl) ?_
    exact e_l hB hW hS hr hlk (Option.some.inj hf) rfl dX9_divisor_33
  have loop4 : ∀ (n : Nat) (x1 : Int64) (x2 : Int64) (H : Heap) (locs : List Loc) (ls : Array Slot), Wd G M H → va_S (adA G) s.heap H locs → lv_has ls 10 [(4, .long x1), (6, .long x2)] → lq2 f_X9_divisor_L6 n x1 x2 = some (y6) → W p l e (rmq 0 0) s m args below meth c H locs 0 0 (MQ below (Ql G r M) args s 0 0 (adA G)) (F0 m 6 ls []) := by
    intro n
    induction n with
    | zero => intro x1 x2 H locs ls hW hS hl hf; exact (l_z2 hf).elim
    | succ n ih =>
      intro x1 x2 H locs ls hW hS hl hf
      have hf := l_s2 hf
      generalize lq2 f_X9_divisor_L6 n = K3 at ih hf
      unfold f_X9_divisor_L6 at hf
      refine lv_lload hx hb dX9_divisor_6 (lv_at hl 1 rfl) ?_
      refine lv_lconst (v := (0 : Int64)) hx hb dX9_divisor_8 (by decide) ?_
      refine W.lcmp hx hb dX9_divisor_9 ?_
      refine lv_if_eq (tgt := 31) hx hb dX9_divisor_10 (by decide) (fun c8 => ?_) (fun c8 => ?_)
      · have hf := i_t hf c8
        exact main7 x1 _ _ ls hW hS (lv_sub hl [0] rfl) hf
      · have hf := i_f hf c8
        refine lv_lload hx hb dX9_divisor_13 (lv_at hl 0 rfl) ?_
        refine lv_lload hx hb dX9_divisor_15 (lv_at hl 1 rfl) ?_
        obtain ⟨h9, hf⟩ := g_o hf
        refine lv_lrem hx hb dX9_divisor_17 h9 ?_
        refine lv_topl (fun x10 ex10 => ?_)
        have hf := nm_o hf ex10
        refine lv_lstore (lv' := [(8, .long x10), (4, .long x1), (6, .long x2)]) hx hb dX9_divisor_18 hl (by decide) rfl (fun ls hl => ?_)
        refine lv_lload hx hb dX9_divisor_20 (lv_at hl 2 rfl) ?_
        refine lv_lstore (lv' := [(4, .long x2), (8, .long x10), (6, .long x2)]) hx hb dX9_divisor_22 hl (by decide) rfl (fun ls hl => ?_)
        refine lv_lload hx hb dX9_divisor_24 (lv_at hl 1 rfl) ?_
        refine lv_lstore (lv' := [(6, .long x10), (4, .long x2), (8, .long x10)]) hx hb dX9_divisor_26 hl (by decide) rfl (fun ls hl => ?_)
        refine lv_goto (tgt := 6) hx hb dX9_divisor_28 (by decide) ?_
        exact ih x2 x10 _ _ ls hW hS (lv_sub hl [1, 0] rfl) hf
  exact loop4 FU p1 p2 _ _ ls hW hS (lv_sub hl [1, 0] rfl) hL
theorem cl_RX9_385 {R : Room} {s : State} {args : Array Value} (ht : ∀ w ∈ lw_all, w.before args s = true) (hR : 0 + 1 ≤ R.frames ∧ 8 + (10 + 11) + 0 ≤ R.locals) : CallB R s args RX9 385 yX9_divisor cX9_divisor 10 (some .long) (wsq yX9_divisor cX9_divisor 10 (some .long)) (rmq 0 0) 0 0 2 ∧ (Cond.static yX9_divisor).before args s = true := va_cwS 2 ht (goodS wd7_169 wd7_170 wd1_10 wd7_171) rfl rfl rfl (by decide +kernel) hR
def f_X9_partOf (p1 : Int64) (p2 : Int64) (p3 : Int32) : Option Int64 := (nmq ((if p3 = 0 then (p1) else (p2))) (fun (x1 : Int64) => (bq1 (f_X9_divisor p1 p2) (fun (x3 : Int64) => gq (¬ x3 = 0) (some (x1 / x3))))))
set_option maxHeartbeats 4000000 in
set_option maxRecDepth 100000 in
theorem ct_X9_partOf (l : Launch) (G : GG) {p1 : Int64} {p2 : Int64} {p3 : Int32} {M : Mem} {r : Int64}  (hf : f_X9_partOf p1 p2 p3 = some r) : Met l yX9_partOf (wsq yX9_partOf cX9_partOf 5 (some .long)) (rmq 1 29) (va_Pc [.long p1, .long p2, .int p3] (World G M)) (Ql G r M) 0 0 (adA G) := by
  refine x_start (plainFor_of_name (by decide)) (Nat.le_of_ble_eq_true rfl) ?_
  intro p e s m args below meth c hB hr hlk hW hS ls hl
  have hx := hB.x
  have hb := hB.b
  have hl : lv_has ls 5 [(0, .long p1), (2, .long p2), (4, .int p3)] := hl
  unfold f_X9_partOf at hf
  refine lv_iload hx hb dX9_partOf_0 (lv_at hl 2 rfl) ?_
  obtain ⟨y6, evy6⟩ : ∃ z : Int64, (if p3 = 0 then (p1) else (p2)) = z := ⟨_, rfl⟩
  have hf := nm_o hf evy6.symm
  have main2 : ∀ (x1 : Int64) (H : Heap) (locs : List Loc) (ls : Array Slot), Wd G M H → va_S (adA G) s.heap H locs → lv_has ls 5 [(0, .long p1), (2, .long p2)] → x1 = y6 → W p l e (rmq 1 29) s m args below meth c H locs 0 0 (MQ below (Ql G r M) args s 0 0 (adA G)) (F0 m 10 ls [.long x1]) := by
    intro x1 H locs ls hW hS hl hE
    have hE := hE.symm
    subst hE
    refine lv_lload_n hx hb dX9_partOf_10 rfl (lv_at hl 0 rfl) ?_
    refine lv_lload_n hx hb dX9_partOf_11 rfl (lv_at hl 1 rfl) ?_
    obtain ⟨x3, hg4, hf⟩ := b_o1 hf
    refine x_cl hB (x_rs hB hW hS (As := [.long p1, .long p2]) (rest := [.long y6]) (ct_X9_divisor l G hg4) (cl_RX9_385 hB.2.2.2.2.1 ⟨Nat.le_of_ble_eq_true rfl, Nat.le_of_ble_eq_true rfl⟩) rfl hl.1 rfl (Nat.le_of_ble_eq_true rfl) dX9_partOf_12 ⟨Nat.le_refl _, Nat.le_refl _⟩) hS (fun H locs hW hS => ?_)
    obtain ⟨h5, hf⟩ := g_o hf
    refine lv_ldiv hx hb dX9_partOf_15 h5 ?_
    exact e_l hB hW hS hr hlk (Option.some.inj hf) rfl dX9_partOf_16
  have hf := evy6
  refine lv_if_ne (tgt := 9) hx hb dX9_partOf_2 (by decide) (fun c7 => ?_) (fun c7 => ?_)
  · have hf := i_f hf c7
    refine lv_lload_n hx hb dX9_partOf_9 rfl (lv_at hl 1 rfl) ?_
    exact main2 p2 _ _ ls hW hS (lv_sub hl [0, 1] rfl) hf
  · have hf := i_t hf c7
    refine lv_lload_n hx hb dX9_partOf_5 rfl (lv_at hl 0 rfl) ?_
    refine lv_goto (tgt := 10) hx hb dX9_partOf_6 (by decide) ?_
    exact main2 p1 _ _ ls hW hS (lv_sub hl [0, 1] rfl) hf
theorem cl_RX9_389 {R : Room} {s : State} {args : Array Value} (ht : ∀ w ∈ lw_all, w.before args s = true) (hR : 0 + 1 ≤ R.frames ∧ 8 + (2 + 11) + 0 ≤ R.locals) : CallW R s args RX9 RX9 389 yX9_lowestOf cX9_lowestOf 2 (some .long) (wsq yX9_lowestOf cX9_lowestOf 2 (some .long)) (rmq 0 0) 0 0 1 := cwV 1 ht (goodV wd7_161 wd7_163 wsel_93 wd1_10 wd7_164) rfl rfl rfl (by decide +kernel) hR
theorem cl_RX9_393 {R : Room} {s : State} {args : Array Value} (ht : ∀ w ∈ lw_all, w.before args s = true) (hR : 1 + 1 ≤ R.frames ∧ 8 + (5 + 11) + 29 ≤ R.locals) : CallB R s args RX9 393 yX9_partOf cX9_partOf 5 (some .long) (wsq yX9_partOf cX9_partOf 5 (some .long)) (rmq 1 29) 0 0 3 ∧ (Cond.static yX9_partOf).before args s = true := va_cwS 3 ht (goodS wd7_166 wd7_167 wd1_10 wd7_168) rfl rfl rfl (by decide +kernel) hR
def f_X9_lost_L134 (p2 : Int32) (x12 : Int32) (K30 : Int64 → Int32 → Mem → Option (Int64 × Mem)) (x27 : Int64) (x28 : Int32) (M29 : Mem) : Option (Int64 × Mem) := (if x28 < 0 then (some (x27, M29)) else (nmq ((if ((ishr_ x12 x28) &&& (1 : Int32)) = (1 : Int32) then ((1 : Int32)) else ((0 : Int32)))) (fun (x51 : Int32) => (nmq ((if x51 = 0 then (((p2 - (1 : Int32))).toInt64) else ((1 : Int64)))) (fun (x53 : Int64) => (nmq ((x27 * x53)) (fun (x55 : Int64) => (if x51 = 0 then (nmq (x28 + (-1 : Int32)) (fun (x57 : Int32) => (K30 x55 x57 M29))) else (bq1 (f_X9_drop x28 M29) (fun (M58 : Mem) => (nmq (x28 + (-1 : Int32)) (fun (x60 : Int32) => (K30 x55 x60 M58)))))))))))))
def f_X9_lost_L112 (p1 : Int32) (p2 : Int32) (x4 : Int32) (K14 : Int64 → Int32 → Mem → Option (Int64 × Mem)) (x11 : Int64) (x12 : Int32) (M13 : Mem) : Option (Int64 × Mem) := (if (ishl_ (1 : Int32) x4) ≤ x12 then (some (x11, M13)) else (bq1 (f_X9_minds M13) (fun (M24 : Mem) => nmq ((x4 - (1 : Int32))) (fun (x26 : Int32) => (bq2 (lq3 (f_X9_lost_L134 p2 x12) FU (1 : Int64) x26 M24) (fun (x32 : Int64) (M33 : Mem) => (bq2 (f_X9_findLines M33) (fun (x34 : Int32) (M35 : Mem) => bq1 (f_X9_isIn x34 (0 : Int32) p1) (fun (x37 : Int32) => (nmq ((if x37 = 0 then ((0 : Int64)) else (x32))) (fun (x39 : Int64) => (nmq ((x11 + x39)) (fun (x41 : Int64) => bq1 (f_X9_forgets M35) (fun (M42 : Mem) => nmq (x12 + (1 : Int32)) (fun (x44 : Int32) => (K14 x41 x44 M42))))))))))))))))
def f_X9_lost_L89 (p2 : Int32) (x4 : Int32) (K8 : Int64 → Int32 → Option (Int64)) (x6 : Int64) (x7 : Int32) : Option (Int64) := (if x4 ≤ x7 then (some (x6)) else (nmq ((x6 * (p2 : Int32).toInt64)) (fun (x68 : Int64) => nmq (x7 + (1 : Int32)) (fun (x69 : Int32) => (K8 x68 x69)))))
def f_X9_lost (p1 : Int32) (p2 : Int32) (p3 : Int32) (M : Mem) : Option (Int64 × Mem) := (bq1 ((if p1 < 0 then (some ((-4 : Int32))) else (if (2 : Int32) ≤ p2 then (if (20 : Int32) < p1 then (some ((-6 : Int32))) else (if p2 ≤ (20 : Int32) then (bq1 (f_X9_isIn p3 (0 : Int32) (1 : Int32)) (fun (x80 : Int32) => (if x80 = 0 then (some ((-2 : Int32))) else (some ((0 : Int32)))))) else (some ((-6 : Int32))))) else (some ((-4 : Int32))))) : Option (Int32)) (fun (x1 : Int32) => (if x1 = 0 then (nmq ((if (6 : Int32) ≤ (gi M 139 9) then ((6 : Int32)) else ((gi M 139 9)))) (fun (x4 : Int32) => (bq1 (lq2 (f_X9_lost_L89 p2 x4) FU (1 : Int64) (0 : Int32)) (fun (x10 : Int64) => (bq2 (lq3 (f_X9_lost_L112 p1 p2 x4) FU (0 : Int64) (0 : Int32) M) (fun (x16 : Int64) (M17 : Mem) => (bq1 (f_X9_partOf x16 x10 p3) (fun (x18 : Int64) => some (x18, M17))))))))) else (bq2 (f_X9_lowestOf x1 M) (fun (x72 : Int64) (M73 : Mem) => some (x72, M73))))))
set_option maxHeartbeats 4000000 in
set_option maxRecDepth 100000 in
theorem ct_X9_lost (l : Launch) (G : GG) {p1 : Int32} {p2 : Int32} {p3 : Int32} {M : Mem} {r : Int64} {Mr : Mem}  (hf : f_X9_lost p1 p2 p3 M = some (r, Mr)) : Met l yX9_lost (wsq yX9_lost cX9_lost 15 (some .long)) (rmq 6 141) (va_Pc [.ref (G.2.2.1 139), .int p1, .int p2, .int p3] (World G M)) (Ql G r Mr) 0 0 (adA G) := by
  refine x_start (plainFor_of_name (by decide)) (Nat.le_of_ble_eq_true rfl) ?_
  intro p e s m args below meth c hB hr hlk hW hS ls hl
  have hx := hB.x
  have hb := hB.b
  have hl : lv_has ls 15 [(0, .ref (G.2.2.1 139)), (1, .int p1), (2, .int p2), (3, .int p3)] := hl
  unfold f_X9_lost at hf
  refine lv_iload_n hx hb dX9_lost_0 rfl (lv_at hl 1 rfl) ?_
  obtain ⟨y75, hR, hf⟩ := b_o1 hf
  have main2 : ∀ (x1 : Int32) (H : Heap) (locs : List Loc) (ls : Array Slot), Wd G M H → va_S (adA G) s.heap H locs → lv_has ls 15 [(0, .ref (G.2.2.1 139)), (1, .int p1), (2, .int p2), (3, .int p3)] → some (x1) = some (y75) → W p l e (rmq 6 141) s m args below meth c H locs 0 0 (MQ below (Ql G r Mr) args s 0 0 (adA G)) (F0 m 46 ls [.int x1]) := by
    intro x1 H locs ls hW hS hl hE
    cases hE
    refine lv_istore (lv' := [(4, .int y75), (0, .ref (G.2.2.1 139)), (1, .int p1), (2, .int p2), (3, .int p3)]) hx hb dX9_lost_46 hl (by decide) rfl (fun ls hl => ?_)
    refine lv_iload hx hb dX9_lost_48 (lv_at hl 0 rfl) ?_
    refine lv_if_eq (tgt := 60) hx hb dX9_lost_50 (by decide) (fun c3 => ?_) (fun c3 => ?_)
    · have hf := i_t hf c3
      refine lv_aload_n hx hb dX9_lost_60 rfl (lv_at hl 1 rfl) ?_
      refine fg9_9 hB hW tl139 wd5_88 dX9_lost_61 ?_
      refine lv_bipush (v := (6 : Int32)) hx hb dX9_lost_64 (by decide) ?_
      obtain ⟨y70, evy70⟩ : ∃ z : Int32, (if (6 : Int32) ≤ (gi M 139 9) then ((6 : Int32)) else ((gi M 139 9))) = z := ⟨_, rfl⟩
      have hf := nm_o hf evy70.symm
      have main5 : ∀ (x4 : Int32) (H : Heap) (locs : List Loc) (ls : Array Slot), Wd G M H → va_S (adA G) s.heap H locs → lv_has ls 15 [(0, .ref (G.2.2.1 139)), (1, .int p1), (2, .int p2), (3, .int p3)] → x4 = y70 → W p l e (rmq 6 141) s m args below meth c H locs 0 0 (MQ below (Ql G r Mr) args s 0 0 (adA G)) (F0 m 78 ls [.int x4]) := by
        intro x4 H locs ls hW hS hl hE
        have hE := hE.symm
        subst hE
        refine lv_istore (lv' := [(5, .int y70), (0, .ref (G.2.2.1 139)), (1, .int p1), (2, .int p2), (3, .int p3)]) hx hb dX9_lost_78 hl (by decide) rfl (fun ls hl => ?_)
        refine lv_lconst (v := (0 : Int64)) hx hb dX9_lost_80 (by decide) ?_
        refine lv_lstore (lv' := [(6, .long (0 : Int64)), (5, .int y70), (0, .ref (G.2.2.1 139)), (1, .int p1), (2, .int p2), (3, .int p3)]) hx hb dX9_lost_81 hl (by decide) rfl (fun ls hl => ?_)
        refine lv_lconst (v := (1 : Int64)) hx hb dX9_lost_83 (by decide) ?_
        refine lv_lstore (lv' := [(8, .long (1 : Int64)), (6, .long (0 : Int64)), (5, .int y70), (0, .ref (G.2.2.1 139)), (1, .int p1), (2, .int p2), (3, .int p3)]) hx hb dX9_lost_84 hl (by decide) rfl (fun ls hl => ?_)
        refine lv_iconst (v := (0 : Int32)) hx hb dX9_lost_86 (by decide) ?_
        refine lv_istore (lv' := [(10, .int (0 : Int32)), (8, .long (1 : Int64)), (6, .long (0 : Int64)), (5, .int y70), (0, .ref (G.2.2.1 139)), (1, .int p1), (2, .int p2), (3, .int p3)]) hx hb dX9_lost_87 hl (by decide) rfl (fun ls hl => ?_)
        obtain ⟨y65, hL, hf⟩ := b_o1 hf
        have main66 : ∀ (x10 : Int64) (H : Heap) (locs : List Loc) (ls : Array Slot), Wd G M H → va_S (adA G) s.heap H locs → lv_has ls 15 [(0, .ref (G.2.2.1 139)), (1, .int p1), (2, .int p2), (3, .int p3), (5, .int y70), (6, .long (0 : Int64)), (8, .long x10)] → some (x10) = some (y65) → W p l e (rmq 6 141) s m args below meth c H locs 0 0 (MQ below (Ql G r Mr) args s 0 0 (adA G)) (F0 m 109 ls []) := by
          intro x10 H locs ls hW hS hl hE
          cases hE
          refine lv_iconst (v := (0 : Int32)) hx hb dX9_lost_109 (by decide) ?_
          refine lv_istore (lv' := [(10, .int (0 : Int32)), (0, .ref (G.2.2.1 139)), (1, .int p1), (2, .int p2), (3, .int p3), (5, .int y70), (6, .long (0 : Int64)), (8, .long y65)]) hx hb dX9_lost_110 hl (by decide) rfl (fun ls hl => ?_)
          obtain ⟨y20, M21, hL, hf⟩ := b_o2 hf
          have main22 : ∀ (x16 : Int64) (M17 : Mem) (H : Heap) (locs : List Loc) (ls : Array Slot), Wd G M17 H → va_S (adA G) s.heap H locs → lv_has ls 15 [(3, .int p3), (6, .long x16), (8, .long y65)] → some (x16, M17) = some (y20, M21) → W p l e (rmq 6 141) s m args below meth c H locs 0 0 (MQ below (Ql G r Mr) args s 0 0 (adA G)) (F0 m 225 ls []) := by
            intro x16 M17 H locs ls hW hS hl hE
            cases hE
            refine lv_lload hx hb dX9_lost_225 (lv_at hl 1 rfl) ?_
            refine lv_lload hx hb dX9_lost_227 (lv_at hl 2 rfl) ?_
            refine lv_iload_n hx hb dX9_lost_229 rfl (lv_at hl 0 rfl) ?_
            obtain ⟨x18, hg19, hf⟩ := b_o1 hf
            refine x_cl hB (x_rs hB hW hS (As := [.long y20, .long y65, .int p3]) (rest := []) (ct_X9_partOf l G hg19) (cl_RX9_393 hB.2.2.2.2.1 ⟨Nat.le_of_ble_eq_true rfl, Nat.le_of_ble_eq_true rfl⟩) rfl hl.1 rfl (Nat.le_of_ble_eq_true rfl) dX9_lost_230 ⟨Nat.le_refl _, Nat.le_refl _⟩) hS (fun H locs hW hS => ?_)
            exact e_l hB hW hS hr hlk (s_1 hf) (s_2 hf) dX9_lost_233
          have loop15 : ∀ (n : Nat) (x11 : Int64) (x12 : Int32) (M13 : Mem) (H : Heap) (locs : List Loc) (ls : Array Slot), Wd G M13 H → va_S (adA G) s.heap H locs → lv_has ls 15 [(0, .ref (G.2.2.1 139)), (1, .int p1), (2, .int p2), (3, .int p3), (5, .int y70), (6, .long x11), (8, .long y65), (10, .int x12)] → lq3 (f_X9_lost_L112 p1 p2 y70) n x11 x12 M13 = some (y20, M21) → W p l e (rmq 6 141) s m args below meth c H locs 0 0 (MQ below (Ql G r Mr) args s 0 0 (adA G)) (F0 m 112 ls []) := by
            intro n
            induction n with
            | zero => intro x11 x12 M13 H locs ls hW hS hl hf; exact (l_z3 hf).elim
            | succ n ih =>
              intro x11 x12 M13 H locs ls hW hS hl hf
              have hf := l_s3 hf
              generalize lq3 (f_X9_lost_L112 p1 p2 y70) n = K14 at ih hf
              unfold f_X9_lost_L112 at hf
              refine lv_iload hx hb dX9_lost_112 (lv_at hl 7 rfl) ?_
              refine lv_iconst (v := (1 : Int32)) hx hb dX9_lost_114 (by decide) ?_
              refine lv_iload hx hb dX9_lost_115 (lv_at hl 4 rfl) ?_
              refine lv_ishl hx hb dX9_lost_117 ?_
              refine lv_icmp_ge (tgt := 225) hx hb dX9_lost_118 (by decide) (fun c23 => ?_) (fun c23 => ?_)
              · have hf := i_t hf c23
                exact main22 x11 M13 _ _ ls hW hS (lv_sub hl [3, 5, 6] rfl) hf
              · have hf := i_f hf c23
                refine lv_lconst (v := (1 : Int64)) hx hb dX9_lost_121 (by decide) ?_
                refine lv_lstore (lv' := [(11, .long (1 : Int64)), (0, .ref (G.2.2.1 139)), (1, .int p1), (2, .int p2), (3, .int p3), (5, .int y70), (6, .long x11), (8, .long y65), (10, .int x12)]) hx hb dX9_lost_122 hl (by decide) rfl (fun ls hl => ?_)
                refine lv_aload_n hx hb dX9_lost_124 rfl (lv_at hl 1 rfl) ?_
                obtain ⟨M24, hg25, hf⟩ := b_o1 hf
                refine x_cv hB (x_rv hB hW hS (As := []) (rest := []) (ct_X9_minds l G hg25) (cl_RX9_376 hB.2.2.2.2.1 ⟨Nat.le_of_ble_eq_true rfl, Nat.le_of_ble_eq_true rfl⟩) tl139 (by decide) rfl rfl hl.1 rfl (Nat.le_of_ble_eq_true rfl) dX9_lost_125 ⟨Nat.le_refl _, Nat.le_refl _⟩) hS (fun H locs hW hS => ?_)
                refine lv_iload hx hb dX9_lost_128 (lv_at hl 5 rfl) ?_
                refine lv_iconst (v := (1 : Int32)) hx hb dX9_lost_130 (by decide) ?_
                refine lv_isub hx hb dX9_lost_131 ?_
                refine lv_topi (fun x26 ex26 => ?_)
                have hf := nm_o hf ex26
                refine lv_istore (lv' := [(13, .int x26), (11, .long (1 : Int64)), (0, .ref (G.2.2.1 139)), (1, .int p1), (2, .int p2), (3, .int p3), (5, .int y70), (6, .long x11), (8, .long y65), (10, .int x12)]) hx hb dX9_lost_132 hl (by decide) rfl (fun ls hl => ?_)
                obtain ⟨y47, M48, hL, hf⟩ := b_o2 hf
                have main49 : ∀ (x32 : Int64) (M33 : Mem) (H : Heap) (locs : List Loc) (ls : Array Slot), Wd G M33 H → va_S (adA G) s.heap H locs → lv_has ls 15 [(0, .ref (G.2.2.1 139)), (1, .int p1), (2, .int p2), (3, .int p3), (5, .int y70), (6, .long x11), (8, .long y65), (10, .int x12), (11, .long x32)] → some (x32, M33) = some (y47, M48) → W p l e (rmq 6 141) s m args below meth c H locs 0 0 (MQ below (Ql G r Mr) args s 0 0 (adA G)) (F0 m 192 ls []) := by
                  intro x32 M33 H locs ls hW hS hl hE
                  cases hE
                  refine lv_lload hx hb dX9_lost_192 (lv_at hl 5 rfl) ?_
                  refine lv_aload_n hx hb dX9_lost_194 rfl (lv_at hl 0 rfl) ?_
                  obtain ⟨x34, M35, hg36, hf⟩ := b_o2 hf
                  refine x_ci hB (x_rv hB hW hS (As := []) (rest := [.long x11]) (ct_X9_findLines l G hg36) (cl_RX9_214 hB.2.2.2.2.1 ⟨Nat.le_of_ble_eq_true rfl, Nat.le_of_ble_eq_true rfl⟩) tl139 (by decide) rfl rfl hl.1 rfl (Nat.le_of_ble_eq_true rfl) dX9_lost_195 ⟨Nat.le_refl _, Nat.le_refl _⟩) hS (fun H locs hW hS => ?_)
                  refine lv_iconst (v := (0 : Int32)) hx hb dX9_lost_198 (by decide) ?_
                  refine lv_iload_n hx hb dX9_lost_199 rfl (lv_at hl 1 rfl) ?_
                  obtain ⟨x37, hg38, hf⟩ := b_o1 hf
                  refine x_ci hB (x_rs hB hW hS (As := [.int x34, .int (0 : Int32), .int p1]) (rest := [.long x11]) (ct_X9_isIn l G hg38) (cl_RX9_125 hB.2.2.2.2.1 ⟨Nat.le_of_ble_eq_true rfl, Nat.le_of_ble_eq_true rfl⟩) rfl hl.1 rfl (Nat.le_of_ble_eq_true rfl) dX9_lost_200 ⟨Nat.le_refl _, Nat.le_refl _⟩) hS (fun H locs hW hS => ?_)
                  obtain ⟨y45, evy45⟩ : ∃ z : Int64, (if x37 = 0 then ((0 : Int64)) else (y47)) = z := ⟨_, rfl⟩
                  have hf := nm_o hf evy45.symm
                  have main40 : ∀ (x39 : Int64) (H : Heap) (locs : List Loc) (ls : Array Slot), Wd G M35 H → va_S (adA G) s.heap H locs → lv_has ls 15 [(0, .ref (G.2.2.1 139)), (1, .int p1), (2, .int p2), (3, .int p3), (5, .int y70), (8, .long y65), (10, .int x12)] → x39 = y45 → W p l e (rmq 6 141) s m args below meth c H locs 0 0 (MQ below (Ql G r Mr) args s 0 0 (adA G)) (F0 m 212 ls [.long x39, .long x11]) := by
                    intro x39 H locs ls hW hS hl hE
                    have hE := hE.symm
                    subst hE
                    refine lv_ladd hx hb dX9_lost_212 ?_
                    refine lv_topl (fun x41 ex41 => ?_)
                    have hf := nm_o hf ex41
                    refine lv_lstore (lv' := [(6, .long x41), (0, .ref (G.2.2.1 139)), (1, .int p1), (2, .int p2), (3, .int p3), (5, .int y70), (8, .long y65), (10, .int x12)]) hx hb dX9_lost_213 hl (by decide) rfl (fun ls hl => ?_)
                    refine lv_aload_n hx hb dX9_lost_215 rfl (lv_at hl 1 rfl) ?_
                    obtain ⟨M42, hg43, hf⟩ := b_o1 hf
                    refine x_cv hB (x_rv hB hW hS (As := []) (rest := []) (ct_X9_forgets l G hg43) (cl_RX9_379 hB.2.2.2.2.1 ⟨Nat.le_of_ble_eq_true rfl, Nat.le_of_ble_eq_true rfl⟩) tl139 (by decide) rfl rfl hl.1 rfl (Nat.le_of_ble_eq_true rfl) dX9_lost_216 ⟨Nat.le_refl _, Nat.le_refl _⟩) hS (fun H locs hW hS => ?_)
                    obtain ⟨x44, ex44⟩ : ∃ y : Int32, y = x12 + (1 : Int32) := ⟨_, rfl⟩
                    have hf := nm_o hf ex44
                    refine lv_iinc (v := x44) (lv' := [(10, .int x44), (6, .long x41), (0, .ref (G.2.2.1 139)), (1, .int p1), (2, .int p2), (3, .int p3), (5, .int y70), (8, .long y65)]) hx hb dX9_lost_219 hl (k := 7) rfl (by rw [ex44]; rfl) (by decide) rfl (fun ls hl => ?_)
                    refine lv_goto (tgt := 112) hx hb dX9_lost_222 (by decide) ?_
                    exact ih x41 x44 M42 _ _ ls hW hS (lv_sub hl [2, 3, 4, 5, 6, 1, 7, 0] rfl) hf
                  have hf := evy45
                  refine lv_if_eq (tgt := 211) hx hb dX9_lost_203 (by decide) (fun c46 => ?_) (fun c46 => ?_)
                  · have hf := i_t hf c46
                    refine lv_lconst (v := (0 : Int64)) hx hb dX9_lost_211 (by decide) ?_
                    exact main40 (0 : Int64) _ _ ls hW hS (lv_sub hl [0, 1, 2, 3, 4, 6, 7] rfl) hf
                  · have hf := i_f hf c46
                    refine lv_lload hx hb dX9_lost_206 (lv_at hl 8 rfl) ?_
                    refine lv_goto (tgt := 212) hx hb dX9_lost_208 (by decide) ?_
                    exact main40 y47 _ _ ls hW hS (lv_sub hl [0, 1, 2, 3, 4, 6, 7] rfl) hf
                have loop31 : ∀ (n : Nat) (x27 : Int64) (x28 : Int32) (M29 : Mem) (H : Heap) (locs : List Loc) (ls : Array Slot), Wd G M29 H → va_S (adA G) s.heap H locs → lv_has ls 15 [(0, .ref (G.2.2.1 139)), (1, .int p1), (2, .int p2), (3, .int p3), (5, .int y70), (6, .long x11), (8, .long y65), (10, .int x12), (11, .long x27), (13, .int x28)] → lq3 (f_X9_lost_L134 p2 x12) n x27 x28 M29 = some (y47, M48) → W p l e (rmq 6 141) s m args below meth c H locs 0 0 (MQ below (Ql G r Mr) args s 0 0 (adA G)) (F0 m 134 ls []) := by
                  intro n
                  induction n with
                  | zero => intro x27 x28 M29 H locs ls hW hS hl hf; exact (l_z3 hf).elim
                  | succ n ih =>
                    intro x27 x28 M29 H locs ls hW hS hl hf
                    have hf := l_s3 hf
                    generalize lq3 (f_X9_lost_L134 p2 x12) n = K30 at ih hf
                    unfold f_X9_lost_L134 at hf
                    refine lv_iload hx hb dX9_lost_134 (lv_at hl 9 rfl) ?_
                    refine lv_if_lt (tgt := 192) hx hb dX9_lost_136 (by decide) (fun c50 => ?_) (fun c50 => ?_)
                    · have hf := i_t hf c50
                      exact main49 x27 M29 _ _ ls hW hS (lv_sub hl [0, 1, 2, 3, 4, 5, 6, 7, 8] rfl) hf
                    · have hf := i_f hf c50
                      refine lv_iload hx hb dX9_lost_139 (lv_at hl 7 rfl) ?_
                      refine lv_iload hx hb dX9_lost_141 (lv_at hl 9 rfl) ?_
                      refine lv_ishr hx hb dX9_lost_143 ?_
                      refine lv_iconst (v := (1 : Int32)) hx hb dX9_lost_144 (by decide) ?_
                      refine lv_iand hx hb dX9_lost_145 ?_
                      refine lv_iconst (v := (1 : Int32)) hx hb dX9_lost_146 (by decide) ?_
                      obtain ⟨y63, evy63⟩ : ∃ z : Int32, (if ((ishr_ x12 x28) &&& (1 : Int32)) = (1 : Int32) then ((1 : Int32)) else ((0 : Int32))) = z := ⟨_, rfl⟩
                      have hf := nm_o hf evy63.symm
                      have main52 : ∀ (x51 : Int32) (H : Heap) (locs : List Loc) (ls : Array Slot), Wd G M29 H → va_S (adA G) s.heap H locs → lv_has ls 15 [(0, .ref (G.2.2.1 139)), (1, .int p1), (2, .int p2), (3, .int p3), (5, .int y70), (6, .long x11), (8, .long y65), (10, .int x12), (11, .long x27), (13, .int x28)] → x51 = y63 → W p l e (rmq 6 141) s m args below meth c H locs 0 0 (MQ below (Ql G r Mr) args s 0 0 (adA G)) (F0 m 155 ls [.int x51]) := by
                        intro x51 H locs ls hW hS hl hE
                        have hE := hE.symm
                        subst hE
                        refine lv_istore (lv' := [(14, .int y63), (0, .ref (G.2.2.1 139)), (1, .int p1), (2, .int p2), (3, .int p3), (5, .int y70), (6, .long x11), (8, .long y65), (10, .int x12), (11, .long x27), (13, .int x28)]) hx hb dX9_lost_155 hl (by decide) rfl (fun ls hl => ?_)
                        refine lv_lload hx hb dX9_lost_157 (lv_at hl 9 rfl) ?_
                        refine lv_iload hx hb dX9_lost_159 (lv_at hl 0 rfl) ?_
                        obtain ⟨y61, evy61⟩ : ∃ z : Int64, (if y63 = 0 then (((p2 - (1 : Int32))).toInt64) else ((1 : Int64))) = z := ⟨_, rfl⟩
                        have hf := nm_o hf evy61.symm
                        have main54 : ∀ (x53 : Int64) (H : Heap) (locs : List Loc) (ls : Array Slot), Wd G M29 H → va_S (adA G) s.heap H locs → lv_has ls 15 [(0, .ref (G.2.2.1 139)), (1, .int p1), (2, .int p2), (3, .int p3), (5, .int y70), (6, .long x11), (8, .long y65), (10, .int x12), (13, .int x28), (14, .int y63)] → x53 = y61 → W p l e (rmq 6 141) s m args below meth c H locs 0 0 (MQ below (Ql G r Mr) args s 0 0 (adA G)) (F0 m 172 ls [.long x53, .long x27]) := by
                          intro x53 H locs ls hW hS hl hE
                          have hE := hE.symm
                          subst hE
                          refine lv_lmul hx hb dX9_lost_172 ?_
                          refine lv_topl (fun x55 ex55 => ?_)
                          have hf := nm_o hf ex55
                          refine lv_lstore (lv' := [(11, .long x55), (0, .ref (G.2.2.1 139)), (1, .int p1), (2, .int p2), (3, .int p3), (5, .int y70), (6, .long x11), (8, .long y65), (10, .int x12), (13, .int x28), (14, .int y63)]) hx hb dX9_lost_173 hl (by decide) rfl (fun ls hl => ?_)
                          refine lv_iload hx hb dX9_lost_175 (lv_at hl 10 rfl) ?_
                          refine lv_if_eq (tgt := 186) hx hb dX9_lost_177 (by decide) (fun c56 => ?_) (fun c56 => ?_)
                          · have hf := i_t hf c56
                            obtain ⟨x57, ex57⟩ : ∃ y : Int32, y = x28 + (-1 : Int32) := ⟨_, rfl⟩
                            have hf := nm_o hf ex57
                            refine lv_iinc (v := x57) (lv' := [(13, .int x57), (11, .long x55), (0, .ref (G.2.2.1 139)), (1, .int p1), (2, .int p2), (3, .int p3), (5, .int y70), (6, .long x11), (8, .long y65), (10, .int x12), (14, .int y63)]) hx hb dX9_lost_186 hl (k := 9) rfl (by rw [ex57]; rfl) (by decide) rfl (fun ls hl => ?_)
                            refine lv_goto (tgt := 134) hx hb dX9_lost_189 (by decide) ?_
                            exact ih x55 x57 M29 _ _ ls hW hS (lv_sub hl [2, 3, 4, 5, 6, 7, 8, 9, 1, 0] rfl) hf
                          · have hf := i_f hf c56
                            refine lv_aload_n hx hb dX9_lost_180 rfl (lv_at hl 1 rfl) ?_
                            refine lv_iload hx hb dX9_lost_181 (lv_at hl 9 rfl) ?_
                            obtain ⟨M58, hg59, hf⟩ := b_o1 hf
                            refine x_cv hB (x_rv hB hW hS (As := [.int x28]) (rest := []) (ct_X9_drop l G hg59) (cl_RX9_323 hB.2.2.2.2.1 ⟨Nat.le_of_ble_eq_true rfl, Nat.le_of_ble_eq_true rfl⟩) tl139 (by decide) rfl rfl hl.1 rfl (Nat.le_of_ble_eq_true rfl) dX9_lost_183 ⟨Nat.le_refl _, Nat.le_refl _⟩) hS (fun H locs hW hS => ?_)
                            obtain ⟨x60, ex60⟩ : ∃ y : Int32, y = x28 + (-1 : Int32) := ⟨_, rfl⟩
                            have hf := nm_o hf ex60
                            refine lv_iinc (v := x60) (lv' := [(13, .int x60), (11, .long x55), (0, .ref (G.2.2.1 139)), (1, .int p1), (2, .int p2), (3, .int p3), (5, .int y70), (6, .long x11), (8, .long y65), (10, .int x12), (14, .int y63)]) hx hb dX9_lost_186 hl (k := 9) rfl (by rw [ex60]; rfl) (by decide) rfl (fun ls hl => ?_)
                            refine lv_goto (tgt := 134) hx hb dX9_lost_189 (by decide) ?_
                            exact ih x55 x60 M58 _ _ ls hW hS (lv_sub hl [2, 3, 4, 5, 6, 7, 8, 9, 1, 0] rfl) hf
                        have hf := evy61
                        refine lv_if_eq (tgt := 168) hx hb dX9_lost_161 (by decide) (fun c62 => ?_) (fun c62 => ?_)
                        · have hf := i_t hf c62
                          refine lv_iload_n hx hb dX9_lost_168 rfl (lv_at hl 3 rfl) ?_
                          refine lv_iconst (v := (1 : Int32)) hx hb dX9_lost_169 (by decide) ?_
                          refine lv_isub hx hb dX9_lost_170 ?_
                          refine lv_i2l hx hb dX9_lost_171 rfl ?_
                          exact main54 ((p2 - (1 : Int32))).toInt64 _ _ ls hW hS (lv_sub hl [1, 2, 3, 4, 5, 6, 7, 8, 10, 0] rfl) hf
                        · have hf := i_f hf c62
                          refine lv_lconst (v := (1 : Int64)) hx hb dX9_lost_164 (by decide) ?_
                          refine lv_goto (tgt := 172) hx hb dX9_lost_165 (by decide) ?_
                          exact main54 (1 : Int64) _ _ ls hW hS (lv_sub hl [1, 2, 3, 4, 5, 6, 7, 8, 10, 0] rfl) hf
                      have hf := evy63
                      refine lv_icmp_ne (tgt := 154) hx hb dX9_lost_147 (by decide) (fun c64 => ?_) (fun c64 => ?_)
                      · have hf := i_f hf c64
                        refine lv_iconst (v := (0 : Int32)) hx hb dX9_lost_154 (by decide) ?_
                        exact main52 (0 : Int32) _ _ ls hW hS (lv_sub hl [0, 1, 2, 3, 4, 5, 6, 7, 8, 9] rfl) hf
                      · have hf := i_t hf c64
                        refine lv_iconst (v := (1 : Int32)) hx hb dX9_lost_150 (by decide) ?_
                        refine lv_goto (tgt := 155) hx hb dX9_lost_151 (by decide) ?_
                        exact main52 (1 : Int32) _ _ ls hW hS (lv_sub hl [0, 1, 2, 3, 4, 5, 6, 7, 8, 9] rfl) hf
                exact loop31 FU (1 : Int64) x26 M24 _ _ ls hW hS (lv_sub hl [2, 3, 4, 5, 6, 7, 8, 9, 1, 0] rfl) hL
          exact loop15 FU (0 : Int64) (0 : Int32) M _ _ ls hW hS (lv_sub hl [1, 2, 3, 4, 5, 6, 7, 0] rfl) hL
        have loop9 : ∀ (n : Nat) (x6 : Int64) (x7 : Int32) (H : Heap) (locs : List Loc) (ls : Array Slot), Wd G M H → va_S (adA G) s.heap H locs → lv_has ls 15 [(0, .ref (G.2.2.1 139)), (1, .int p1), (2, .int p2), (3, .int p3), (5, .int y70), (6, .long (0 : Int64)), (8, .long x6), (10, .int x7)] → lq2 (f_X9_lost_L89 p2 y70) n x6 x7 = some (y65) → W p l e (rmq 6 141) s m args below meth c H locs 0 0 (MQ below (Ql G r Mr) args s 0 0 (adA G)) (F0 m 89 ls []) := by
          intro n
          induction n with
          | zero => intro x6 x7 H locs ls hW hS hl hf; exact (l_z2 hf).elim
          | succ n ih =>
            intro x6 x7 H locs ls hW hS hl hf
            have hf := l_s2 hf
            generalize lq2 (f_X9_lost_L89 p2 y70) n = K8 at ih hf
            unfold f_X9_lost_L89 at hf
            refine lv_iload hx hb dX9_lost_89 (lv_at hl 7 rfl) ?_
            refine lv_iload hx hb dX9_lost_91 (lv_at hl 4 rfl) ?_
            refine lv_icmp_ge (tgt := 109) hx hb dX9_lost_93 (by decide) (fun c67 => ?_) (fun c67 => ?_)
            · have hf := i_t hf c67
              exact main66 x6 _ _ ls hW hS (lv_sub hl [0, 1, 2, 3, 4, 5, 6] rfl) hf
            · have hf := i_f hf c67
              refine lv_lload hx hb dX9_lost_96 (lv_at hl 6 rfl) ?_
              refine lv_iload_n hx hb dX9_lost_98 rfl (lv_at hl 2 rfl) ?_
              refine lv_i2l hx hb dX9_lost_99 rfl ?_
              refine lv_lmul hx hb dX9_lost_100 ?_
              refine lv_topl (fun x68 ex68 => ?_)
              have hf := nm_o hf ex68
              refine lv_lstore (lv' := [(8, .long x68), (0, .ref (G.2.2.1 139)), (1, .int p1), (2, .int p2), (3, .int p3), (5, .int y70), (6, .long (0 : Int64)), (10, .int x7)]) hx hb dX9_lost_101 hl (by decide) rfl (fun ls hl => ?_)
              obtain ⟨x69, ex69⟩ : ∃ y : Int32, y = x7 + (1 : Int32) := ⟨_, rfl⟩
              have hf := nm_o hf ex69
              refine lv_iinc (v := x69) (lv' := [(10, .int x69), (8, .long x68), (0, .ref (G.2.2.1 139)), (1, .int p1), (2, .int p2), (3, .int p3), (5, .int y70), (6, .long (0 : Int64))]) hx hb dX9_lost_103 hl (k := 7) rfl (by rw [ex69]; rfl) (by decide) rfl (fun ls hl => ?_)
              refine lv_goto (tgt := 89) hx hb dX9_lost_106 (by decide) ?_
              exact ih x68 x69 _ _ ls hW hS (lv_sub hl [2, 3, 4, 5, 6, 7, 1, 0] rfl) hf
        exact loop9 FU (1 : Int64) (0 : Int32) _ _ ls hW hS (lv_sub hl [4, 5, 6, 7, 3, 2, 1, 0] rfl) hL
      have hf := evy70
      refine lv_icmp_ge (tgt := 76) hx hb dX9_lost_66 (by decide) (fun c71 => ?_) (fun c71 => ?_)
      · have hf := i_t hf c71
        refine lv_bipush (v := (6 : Int32)) hx hb dX9_lost_76 (by decide) ?_
        exact main5 (6 : Int32) _ _ ls hW hS (lv_sub hl [1, 2, 3, 4] rfl) hf
      · have hf := i_f hf c71
        refine lv_aload_n hx hb dX9_lost_69 rfl (lv_at hl 1 rfl) ?_
        refine fg9_9 hB hW tl139 wd5_88 dX9_lost_70 ?_
        refine lv_goto (tgt := 78) hx hb dX9_lost_73 (by decide) ?_
        exact main5 (gi M 139 9) _ _ ls hW hS (lv_sub hl [1, 2, 3, 4] rfl) hf
    · have hf := i_f hf c3
      refine lv_aload_n hx hb dX9_lost_53 rfl (lv_at hl 1 rfl) ?_
      refine lv_iload hx hb dX9_lost_54 (lv_at hl 0 rfl) ?_
      obtain ⟨x72, M73, hg74, hf⟩ := b_o2 hf
      refine x_cl hB (x_rv hB hW hS (As := [.int y75]) (rest := []) (ct_X9_lowestOf l G hg74) (cl_RX9_389 hB.2.2.2.2.1 ⟨Nat.le_of_ble_eq_true rfl, Nat.le_of_ble_eq_true rfl⟩) tl139 (by decide) rfl rfl hl.1 rfl (Nat.le_of_ble_eq_true rfl) dX9_lost_56 ⟨Nat.le_refl _, Nat.le_refl _⟩) hS (fun H locs hW hS => ?_)
      exact e_l hB hW hS hr hlk (s_1 hf) (s_2 hf) dX9_lost_59
  have hf := hR
  refine lv_if_lt (tgt := 9) hx hb dX9_lost_1 (by decide) (fun c76 => ?_) (fun c76 => ?_)
  · have hf := i_t hf c76
    refine lv_bipush (v := (-4 : Int32)) hx hb dX9_lost_9 (by decide) ?_
    refine lv_goto (tgt := 46) hx hb dX9_lost_11 (by decide) ?_
    exact main2 (-4 : Int32) _ _ ls hW hS (lv_sub hl [0, 1, 2, 3] rfl) hf
  · have hf := i_f hf c76
    refine lv_iload_n hx hb dX9_lost_4 rfl (lv_at hl 2 rfl) ?_
    refine lv_iconst (v := (2 : Int32)) hx hb dX9_lost_5 (by decide) ?_
    refine lv_icmp_ge (tgt := 14) hx hb dX9_lost_6 (by decide) (fun c77 => ?_) (fun c77 => ?_)
    · have hf := i_t hf c77
      refine lv_iload_n hx hb dX9_lost_14 rfl (lv_at hl 1 rfl) ?_
      refine lv_bipush (v := (20 : Int32)) hx hb dX9_lost_15 (by decide) ?_
      refine lv_icmp_gt (tgt := 26) hx hb dX9_lost_17 (by decide) (fun c78 => ?_) (fun c78 => ?_)
      · have hf := i_t hf c78
        refine lv_bipush (v := (-6 : Int32)) hx hb dX9_lost_26 (by decide) ?_
        refine lv_goto (tgt := 46) hx hb dX9_lost_28 (by decide) ?_
        exact main2 (-6 : Int32) _ _ ls hW hS (lv_sub hl [0, 1, 2, 3] rfl) hf
      · have hf := i_f hf c78
        refine lv_iload_n hx hb dX9_lost_20 rfl (lv_at hl 2 rfl) ?_
        refine lv_bipush (v := (20 : Int32)) hx hb dX9_lost_21 (by decide) ?_
        refine lv_icmp_le (tgt := 31) hx hb dX9_lost_23 (by decide) (fun c79 => ?_) (fun c79 => ?_)
        · have hf := i_t hf c79
          refine lv_iload_n hx hb dX9_lost_31 rfl (lv_at hl 3 rfl) ?_
          refine lv_iconst (v := (0 : Int32)) hx hb dX9_lost_32 (by decide) ?_
          refine lv_iconst (v := (1 : Int32)) hx hb dX9_lost_33 (by decide) ?_
          obtain ⟨x80, hg81, hf⟩ := b_o1 hf
          refine x_ci hB (x_rs hB hW hS (As := [.int p3, .int (0 : Int32), .int (1 : Int32)]) (rest := []) (ct_X9_isIn l G hg81) (cl_RX9_125 hB.2.2.2.2.1 ⟨Nat.le_of_ble_eq_true rfl, Nat.le_of_ble_eq_true rfl⟩) rfl hl.1 rfl (Nat.le_of_ble_eq_true rfl) dX9_lost_34 ⟨Nat.le_refl _, Nat.le_refl _⟩) hS (fun H locs hW hS => ?_)
          refine lv_if_ne (tgt := 45) hx hb dX9_lost_37 (by decide) (fun c82 => ?_) (fun c82 => ?_)
          · have hf := i_f hf c82
            refine lv_iconst (v := (0 : Int32)) hx hb dX9_lost_45 (by decide) ?_
            exact main2 (0 : Int32) _ _ ls hW hS (lv_sub hl [0, 1, 2, 3] rfl) hf
          · have hf := i_t hf c82
            refine lv_bipush (v := (-2 : Int32)) hx hb dX9_lost_40 (by decide) ?_
            refine lv_goto (tgt := 46) hx hb dX9_lost_42 (by decide) ?_
            exact main2 (-2 : Int32) _ _ ls hW hS (lv_sub hl [0, 1, 2, 3] rfl) hf
        · have hf := i_f hf c79
          refine lv_bipush (v := (-6 : Int32)) hx hb dX9_lost_26 (by decide) ?_
          refine lv_goto (tgt := 46) hx hb dX9_lost_28 (by decide) ?_
          exact main2 (-6 : Int32) _ _ ls hW hS (lv_sub hl [0, 1, 2, 3] rfl) hf
    · have hf := i_f hf c77
      refine lv_bipush (v := (-4 : Int32)) hx hb dX9_lost_9 (by decide) ?_
      refine lv_goto (tgt := 46) hx hb dX9_lost_11 (by decide) ?_
      exact main2 (-4 : Int32) _ _ ls hW hS (lv_sub hl [0, 1, 2, 3] rfl) hf
def f_X9_mean_L30 (M5 : Mem) (K10 : Int32 → Int32 → Option (Int32)) (x8 : Int32) (x9 : Int32) : Option (Int32) := (if (gi M5 139 29) ≤ x9 then (some (x8)) else (gq (inB x9 162) (gq (inB (x9 + (1 : Int32)) 162) (bq1 (f_X9_natural (gi M5 155 ((x9 : Int32).toNatClampNeg)) (gi M5 155 (((x9 + (1 : Int32)) : Int32).toNatClampNeg)) M5) (fun (x20 : Int32) => nmq ((x8 + x20)) (fun (x22 : Int32) => nmq (x9 + (1 : Int32)) (fun (x23 : Int32) => (K10 x22 x23))))))))
def f_X9_mean (p1 : Int32) (M : Mem) : Option (Int64 × Mem) := (bq1 (f_X9_isIn p1 (0 : Int32) (1 : Int32)) (fun (x1 : Int32) => (if x1 = 0 then (bq2 (f_X9_lowestOf (-2 : Int32) M) (fun (x24 : Int64) (M25 : Mem) => some (x24, M25))) else (bq2 (f_X9_findLines M) (fun (x4 : Int32) (M5 : Mem) => (if 0 < x4 then (bq1 (lq2 (f_X9_mean_L30 M5) FU (0 : Int32) (0 : Int32)) (fun (x12 : Int32) => (bq1 (f_X9_partOf (x12 : Int32).toInt64 ((gi M5 139 29)).toInt64 p1) (fun (x13 : Int64) => some (x13, M5))))) else some ((p1 : Int32).toInt64, M5)))))))
set_option maxHeartbeats 4000000 in
set_option maxRecDepth 100000 in
theorem ct_X9_mean (l : Launch) (G : GG) {p1 : Int32} {M : Mem} {r : Int64} {Mr : Mem}  (hf : f_X9_mean p1 M = some (r, Mr)) : Met l yX9_mean (wsq yX9_mean cX9_mean 4 (some .long)) (rmq 6 141) (va_Pc [.ref (G.2.2.1 139), .int p1] (World G M)) (Ql G r Mr) 0 0 (adA G) := by
  refine x_start (plainFor_of_name (by decide)) (Nat.le_of_ble_eq_true rfl) ?_
  intro p e s m args below meth c hB hr hlk hW hS ls hl
  have hx := hB.x
  have hb := hB.b
  have hl : lv_has ls 4 [(0, .ref (G.2.2.1 139)), (1, .int p1)] := hl
  unfold f_X9_mean at hf
  refine lv_iload_n hx hb dX9_mean_0 rfl (lv_at hl 1 rfl) ?_
  refine lv_iconst (v := (0 : Int32)) hx hb dX9_mean_1 (by decide) ?_
  refine lv_iconst (v := (1 : Int32)) hx hb dX9_mean_2 (by decide) ?_
  obtain ⟨x1, hg2, hf⟩ := b_o1 hf
  refine x_ci hB (x_rs hB hW hS (As := [.int p1, .int (0 : Int32), .int (1 : Int32)]) (rest := []) (ct_X9_isIn l G hg2) (cl_RX9_125 hB.2.2.2.2.1 ⟨Nat.le_of_ble_eq_true rfl, Nat.le_of_ble_eq_true rfl⟩) rfl hl.1 rfl (Nat.le_of_ble_eq_true rfl) dX9_mean_3 ⟨Nat.le_refl _, Nat.le_refl _⟩) hS (fun H locs hW hS => ?_)
  refine lv_if_ne (tgt := 16) hx hb dX9_mean_6 (by decide) (fun c3 => ?_) (fun c3 => ?_)
  · have hf := i_f hf c3
    refine lv_aload_n hx hb dX9_mean_16 rfl (lv_at hl 0 rfl) ?_
    obtain ⟨x4, M5, hg6, hf⟩ := b_o2 hf
    refine x_ci hB (x_rv hB hW hS (As := []) (rest := []) (ct_X9_findLines l G hg6) (cl_RX9_214 hB.2.2.2.2.1 ⟨Nat.le_of_ble_eq_true rfl, Nat.le_of_ble_eq_true rfl⟩) tl139 (by decide) rfl rfl hl.1 rfl (Nat.le_of_ble_eq_true rfl) dX9_mean_17 ⟨Nat.le_refl _, Nat.le_refl _⟩) hS (fun H locs hW hS => ?_)
    refine lv_if_gt (tgt := 26) hx hb dX9_mean_20 (by decide) (fun c7 => ?_) (fun c7 => ?_)
    · have hf := i_t hf c7
      refine lv_iconst (v := (0 : Int32)) hx hb dX9_mean_26 (by decide) ?_
      refine lv_istore_n (lv' := [(2, .int (0 : Int32)), (0, .ref (G.2.2.1 139)), (1, .int p1)]) hx hb dX9_mean_27 rfl hl (by decide) rfl (fun ls hl => ?_)
      refine lv_iconst (v := (0 : Int32)) hx hb dX9_mean_28 (by decide) ?_
      refine lv_istore_n (lv' := [(3, .int (0 : Int32)), (2, .int (0 : Int32)), (0, .ref (G.2.2.1 139)), (1, .int p1)]) hx hb dX9_mean_29 rfl hl (by decide) rfl (fun ls hl => ?_)
      obtain ⟨y15, hL, hf⟩ := b_o1 hf
      have main16 : ∀ (x12 : Int32) (H : Heap) (locs : List Loc) (ls : Array Slot), Wd G M5 H → va_S (adA G) s.heap H locs → lv_has ls 4 [(0, .ref (G.2.2.1 139)), (1, .int p1), (2, .int x12)] → some (x12) = some (y15) → W p l e (rmq 6 141) s m args below meth c H locs 0 0 (MQ below (Ql G r Mr) args s 0 0 (adA G)) (F0 m 65 ls []) := by
        intro x12 H locs ls hW hS hl hE
        cases hE
        refine lv_iload_n hx hb dX9_mean_65 rfl (lv_at hl 2 rfl) ?_
        refine lv_i2l hx hb dX9_mean_66 rfl ?_
        refine lv_aload_n hx hb dX9_mean_67 rfl (lv_at hl 0 rfl) ?_
        refine fg9_29 hB hW tl139 wd5_108 dX9_mean_68 ?_
        refine lv_i2l hx hb dX9_mean_71 rfl ?_
        refine lv_iload_n hx hb dX9_mean_72 rfl (lv_at hl 1 rfl) ?_
        obtain ⟨x13, hg14, hf⟩ := b_o1 hf
        refine x_cl hB (x_rs hB hW hS (As := [.long (y15 : Int32).toInt64, .long ((gi M5 139 29)).toInt64, .int p1]) (rest := []) (ct_X9_partOf l G hg14) (cl_RX9_393 hB.2.2.2.2.1 ⟨Nat.le_of_ble_eq_true rfl, Nat.le_of_ble_eq_true rfl⟩) rfl hl.1 rfl (Nat.le_of_ble_eq_true rfl) dX9_mean_73 ⟨Nat.le_refl _, Nat.le_refl _⟩) hS (fun H locs hW hS => ?_)
        exact e_l hB hW hS hr hlk (s_1 hf) (s_2 hf) dX9_mean_76
      have loop11 : ∀ (n : Nat) (x8 : Int32) (x9 : Int32) (H : Heap) (locs : List Loc) (ls : Array Slot), Wd G M5 H → va_S (adA G) s.heap H locs → lv_has ls 4 [(0, .ref (G.2.2.1 139)), (1, .int p1), (2, .int x8), (3, .int x9)] → lq2 (f_X9_mean_L30 M5) n x8 x9 = some (y15) → W p l e (rmq 6 141) s m args below meth c H locs 0 0 (MQ below (Ql G r Mr) args s 0 0 (adA G)) (F0 m 30 ls []) := by
        intro n
        induction n with
        | zero => intro x8 x9 H locs ls hW hS hl hf; exact (l_z2 hf).elim
        | succ n ih =>
          intro x8 x9 H locs ls hW hS hl hf
          have hf := l_s2 hf
          generalize lq2 (f_X9_mean_L30 M5) n = K10 at ih hf
          unfold f_X9_mean_L30 at hf
          refine lv_iload_n hx hb dX9_mean_30 rfl (lv_at hl 3 rfl) ?_
          refine lv_aload_n hx hb dX9_mean_31 rfl (lv_at hl 0 rfl) ?_
          refine fg9_29 hB hW tl139 wd5_108 dX9_mean_32 ?_
          refine lv_icmp_ge (tgt := 65) hx hb dX9_mean_35 (by decide) (fun c17 => ?_) (fun c17 => ?_)
          · have hf := i_t hf c17
            exact main16 x8 _ _ ls hW hS (lv_sub hl [0, 1, 2] rfl) hf
          · have hf := i_f hf c17
            refine lv_iload_n hx hb dX9_mean_38 rfl (lv_at hl 2 rfl) ?_
            refine lv_aload_n hx hb dX9_mean_39 rfl (lv_at hl 0 rfl) ?_
            refine lv_aload_n hx hb dX9_mean_40 rfl (lv_at hl 0 rfl) ?_
            refine fg9_28 hB hW tl139 wd5_107 dX9_mean_41 ?_
            refine lv_iload_n hx hb dX9_mean_44 rfl (lv_at hl 3 rfl) ?_
            obtain ⟨h18, hf⟩ := g_o hf
            refine x_iald hB hW tl155 al155 h18 dX9_mean_45 ?_
            refine lv_aload_n hx hb dX9_mean_46 rfl (lv_at hl 0 rfl) ?_
            refine fg9_28 hB hW tl139 wd5_107 dX9_mean_47 ?_
            refine lv_iload_n hx hb dX9_mean_50 rfl (lv_at hl 3 rfl) ?_
            refine lv_iconst (v := (1 : Int32)) hx hb dX9_mean_51 (by decide) ?_
            refine lv_iadd hx hb dX9_mean_52 ?_
            obtain ⟨h19, hf⟩ := g_o hf
            refine x_iald hB hW tl155 al155 h19 dX9_mean_53 ?_
            obtain ⟨x20, hg21, hf⟩ := b_o1 hf
            refine x_ci hB (x_rv hB hW hS (As := [.int (gi M5 155 ((x9 : Int32).toNatClampNeg)), .int (gi M5 155 (((x9 + (1 : Int32)) : Int32).toNatClampNeg))]) (rest := [.int x8]) (ct_X9_natural l G hg21) (cl_RX9_160 hB.2.2.2.2.1 ⟨Nat.le_of_ble_eq_true rfl, Nat.le_of_ble_eq_true rfl⟩) tl139 (by decide) rfl rfl hl.1 rfl (Nat.le_of_ble_eq_true rfl) dX9_mean_54 ⟨Nat.le_refl _, Nat.le_refl _⟩) hS (fun H locs hW hS => ?_)
            refine lv_iadd hx hb dX9_mean_57 ?_
            refine lv_topi (fun x22 ex22 => ?_)
            have hf := nm_o hf ex22
            refine lv_istore_n (lv' := [(2, .int x22), (0, .ref (G.2.2.1 139)), (1, .int p1), (3, .int x9)]) hx hb dX9_mean_58 rfl hl (by decide) rfl (fun ls hl => ?_)
            obtain ⟨x23, ex23⟩ : ∃ y : Int32, y = x9 + (1 : Int32) := ⟨_, rfl⟩
            have hf := nm_o hf ex23
            refine lv_iinc (v := x23) (lv' := [(3, .int x23), (2, .int x22), (0, .ref (G.2.2.1 139)), (1, .int p1)]) hx hb dX9_mean_59 hl (k := 3) rfl (by rw [ex23]; rfl) (by decide) rfl (fun ls hl => ?_)
            refine lv_goto (tgt := 30) hx hb dX9_mean_62 (by decide) ?_
            exact ih x22 x23 _ _ ls hW hS (lv_sub hl [2, 3, 1, 0] rfl) hf
      exact loop11 FU (0 : Int32) (0 : Int32) _ _ ls hW hS (lv_sub hl [2, 3, 1, 0] rfl) hL
    · have hf := i_f hf c7
      refine lv_iload_n hx hb dX9_mean_23 rfl (lv_at hl 1 rfl) ?_
      refine lv_i2l hx hb dX9_mean_24 rfl ?_
      exact e_l hB hW hS hr hlk (s_1 hf) (s_2 hf) dX9_mean_25
  · have hf := i_t hf c3
    refine lv_aload_n hx hb dX9_mean_9 rfl (lv_at hl 0 rfl) ?_
    refine lv_bipush (v := (-2 : Int32)) hx hb dX9_mean_10 (by decide) ?_
    obtain ⟨x24, M25, hg26, hf⟩ := b_o2 hf
    refine x_cl hB (x_rv hB hW hS (As := [.int (-2 : Int32)]) (rest := []) (ct_X9_lowestOf l G hg26) (cl_RX9_389 hB.2.2.2.2.1 ⟨Nat.le_of_ble_eq_true rfl, Nat.le_of_ble_eq_true rfl⟩) tl139 (by decide) rfl rfl hl.1 rfl (Nat.le_of_ble_eq_true rfl) dX9_mean_12 ⟨Nat.le_refl _, Nat.le_refl _⟩) hS (fun H locs hW hS => ?_)
    exact e_l hB hW hS hr hlk (s_1 hf) (s_2 hf) dX9_mean_15
def f_X9_areLinesSo_L2  (K3 : Int32 → Mem → Option (Int32 × Mem)) (x1 : Int32) (M2 : Mem) : Option (Int32 × Mem) := (if (gi M2 139 52) ≤ x1 then some ((1 : Int32), M2) else (bq2 (f_X9_linesWith ((20 : Int32) + ((4 : Int32) * x1)) M2) (fun (x6 : Int32) (M7 : Mem) => (nmq ((if 0 ≤ x6 then (x6) else ((0 : Int32)))) (fun (x9 : Int32) => (gq (inB x1 16) ((if x9 = (gi M7 168 ((x1 : Int32).toNatClampNeg)) then (nmq (x1 + (1 : Int32)) (fun (x13 : Int32) => (K3 x13 M7))) else some ((0 : Int32), M7)))))))))
def f_X9_areLinesSo (M : Mem) : Option (Int32 × Mem) := (lq2 f_X9_areLinesSo_L2 FU (0 : Int32) M)
set_option maxHeartbeats 4000000 in
set_option maxRecDepth 100000 in
theorem ct_X9_areLinesSo (l : Launch) (G : GG)  {M : Mem} {r : Int32} {Mr : Mem}  (hf : f_X9_areLinesSo M = some (r, Mr)) : Met l yX9_areLinesSo (wsq yX9_areLinesSo cX9_areLinesSo 3 (some .boolean)) (rmq 7 164) (va_Pc [.ref (G.2.2.1 139)] (World G M)) (Qi G r Mr) 0 0 (adA G) := by
  refine x_start (plainFor_of_name (by decide)) (Nat.le_of_ble_eq_true rfl) ?_
  intro p e s m args below meth c hB hr hlk hW hS ls hl
  have hx := hB.x
  have hb := hB.b
  have hl : lv_has ls 3 [(0, .ref (G.2.2.1 139))] := hl
  unfold f_X9_areLinesSo at hf
  refine lv_iconst (v := (0 : Int32)) hx hb dX9_areLinesSo_0 (by decide) ?_
  refine lv_istore_n (lv' := [(1, .int (0 : Int32)), (0, .ref (G.2.2.1 139))]) hx hb dX9_areLinesSo_1 rfl hl (by decide) rfl (fun ls hl => ?_)
  have loop4 : ∀ (n : Nat) (x1 : Int32) (M2 : Mem) (H : Heap) (locs : List Loc) (ls : Array Slot), Wd G M2 H → va_S (adA G) s.heap H locs → lv_has ls 3 [(0, .ref (G.2.2.1 139)), (1, .int x1)] → lq2 f_X9_areLinesSo_L2 n x1 M2 = some (r, Mr) → W p l e (rmq 7 164) s m args below meth c H locs 0 0 (MQ below (Qi G r Mr) args s 0 0 (adA G)) (F0 m 2 ls []) := by
    intro n
    induction n with
    | zero => intro x1 M2 H locs ls hW hS hl hf; exact (l_z2 hf).elim
    | succ n ih =>
      intro x1 M2 H locs ls hW hS hl hf
      have hf := l_s2 hf
      generalize lq2 f_X9_areLinesSo_L2 n = K3 at ih hf
      unfold f_X9_areLinesSo_L2 at hf
      refine lv_iload_n hx hb dX9_areLinesSo_2 rfl (lv_at hl 1 rfl) ?_
      refine lv_aload_n hx hb dX9_areLinesSo_3 rfl (lv_at hl 0 rfl) ?_
      refine fg9_52 hB hW tl139 wd5_131 dX9_areLinesSo_4 ?_
      refine lv_icmp_ge (tgt := 47) hx hb dX9_areLinesSo_7 (by decide) (fun c5 => ?_) (fun c5 => ?_)
      · have hf := i_t hf c5
        refine lv_iconst (v := (1 : Int32)) hx hb dX9_areLinesSo_47 (by decide) ?_
        exact e_z (by decide) hB hW hS hr hlk (s_1 hf) (s_2 hf) dX9_areLinesSo_48
      · have hf := i_f hf c5
        refine lv_aload_n hx hb dX9_areLinesSo_10 rfl (lv_at hl 0 rfl) ?_
        refine lv_bipush (v := (20 : Int32)) hx hb dX9_areLinesSo_11 (by decide) ?_
        refine lv_iconst (v := (4 : Int32)) hx hb dX9_areLinesSo_13 (by decide) ?_
        refine lv_iload_n hx hb dX9_areLinesSo_14 rfl (lv_at hl 1 rfl) ?_
        refine lv_imul hx hb dX9_areLinesSo_15 ?_
        refine lv_iadd hx hb dX9_areLinesSo_16 ?_
        obtain ⟨x6, M7, hg8, hf⟩ := b_o2 hf
        refine x_ci hB (x_rv hB hW hS (As := [.int ((20 : Int32) + ((4 : Int32) * x1))]) (rest := []) (ct_X9_linesWith l G hg8) (cl_RX9_373 hB.2.2.2.2.1 ⟨Nat.le_of_ble_eq_true rfl, Nat.le_of_ble_eq_true rfl⟩) tl139 (by decide) rfl rfl hl.1 rfl (Nat.le_of_ble_eq_true rfl) dX9_areLinesSo_17 ⟨Nat.le_refl _, Nat.le_refl _⟩) hS (fun H locs hW hS => ?_)
        refine lv_istore_n (lv' := [(2, .int x6), (0, .ref (G.2.2.1 139)), (1, .int x1)]) hx hb dX9_areLinesSo_20 rfl hl (by decide) rfl (fun ls hl => ?_)
        refine lv_iload_n hx hb dX9_areLinesSo_21 rfl (lv_at hl 0 rfl) ?_
        obtain ⟨y14, evy14⟩ : ∃ z : Int32, (if 0 ≤ x6 then (x6) else ((0 : Int32))) = z := ⟨_, rfl⟩
        have hf := nm_o hf evy14.symm
        have main10 : ∀ (x9 : Int32) (H : Heap) (locs : List Loc) (ls : Array Slot), Wd G M7 H → va_S (adA G) s.heap H locs → lv_has ls 3 [(0, .ref (G.2.2.1 139)), (1, .int x1)] → x9 = y14 → W p l e (rmq 7 164) s m args below meth c H locs 0 0 (MQ below (Qi G r Mr) args s 0 0 (adA G)) (F0 m 30 ls [.int x9]) := by
          intro x9 H locs ls hW hS hl hE
          have hE := hE.symm
          subst hE
          refine lv_aload_n hx hb dX9_areLinesSo_30 rfl (lv_at hl 0 rfl) ?_
          refine fg9_51 hB hW tl139 wd5_130 dX9_areLinesSo_31 ?_
          refine lv_iload_n hx hb dX9_areLinesSo_34 rfl (lv_at hl 1 rfl) ?_
          obtain ⟨h11, hf⟩ := g_o hf
          refine x_iald hB hW tl168 al168 h11 dX9_areLinesSo_35 ?_
          refine lv_icmp_eq (tgt := 41) hx hb dX9_areLinesSo_36 (by decide) (fun c12 => ?_) (fun c12 => ?_)
          · have hf := i_t hf c12
            obtain ⟨x13, ex13⟩ : ∃ y : Int32, y = x1 + (1 : Int32) := ⟨_, rfl⟩
            have hf := nm_o hf ex13
            refine lv_iinc (v := x13) (lv' := [(1, .int x13), (0, .ref (G.2.2.1 139))]) hx hb dX9_areLinesSo_41 hl (k := 1) rfl (by rw [ex13]; rfl) (by decide) rfl (fun ls hl => ?_)
            refine lv_goto (tgt := 2) hx hb dX9_areLinesSo_44 (by decide) ?_
            exact ih x13 M7 _ _ ls hW hS (lv_sub hl [1, 0] rfl) hf
          · have hf := i_f hf c12
            refine lv_iconst (v := (0 : Int32)) hx hb dX9_areLinesSo_39 (by decide) ?_
            exact e_z (by decide) hB hW hS hr hlk (s_1 hf) (s_2 hf) dX9_areLinesSo_40
        have hf := evy14
        refine lv_if_ge (tgt := 29) hx hb dX9_areLinesSo_22 (by decide) (fun c15 => ?_) (fun c15 => ?_)
        · have hf := i_t hf c15
          refine lv_iload_n hx hb dX9_areLinesSo_29 rfl (lv_at hl 0 rfl) ?_
          exact main10 x6 _ _ ls hW hS (lv_sub hl [1, 2] rfl) hf
        · have hf := i_f hf c15
          refine lv_iconst (v := (0 : Int32)) hx hb dX9_areLinesSo_25 (by decide) ?_
          refine lv_goto (tgt := 30) hx hb dX9_areLinesSo_26 (by decide) ?_
          exact main10 (0 : Int32) _ _ ls hW hS (lv_sub hl [1, 2] rfl) hf
  exact loop4 FU (0 : Int32) M _ _ ls hW hS (lv_sub hl [1, 0] rfl) hf
theorem cl_RX9_400 {R : Room} {s : State} {args : Array Value} (ht : ∀ w ∈ lw_all, w.before args s = true) (hR : 7 + 1 ≤ R.frames ∧ 8 + (3 + 11) + 164 ≤ R.locals) : CallW R s args RX9 RX9 400 yX9_areLinesSo cX9_areLinesSo 3 (some .boolean) (wsq yX9_areLinesSo cX9_areLinesSo 3 (some .boolean)) (rmq 7 164) 0 0 0 := cwV 0 ht (goodV wd7_180 wd7_182 wsel_94 wd1_10 wd7_183) rfl rfl rfl (by decide +kernel) hR
def f_X9_whatIs_L32 (p1 : Int32) (K9 : Int32 → Int32 → Mem → Option (Int32 × Mem)) (x6 : Int32) (x7 : Int32) (M8 : Mem) : Option (Int32 × Mem) := (nmq ((if p1 = 0 then ((6 : Int32)) else ((10 : Int32)))) (fun (x18 : Int32) => (if x18 ≤ x7 then (some (x6, M8)) else (bq1 ((if p1 = 0 then (nmq (si M8 139 19 x7) (fun (M35 : Mem) => (some (M35)))) else (nmq (si M8 139 20 x7) (fun (M34 : Mem) => (some (M34))))) : Option (Mem)) (fun (M21 : Mem) => (bq2 (f_X9_areLinesSo M21) (fun (x23 : Int32) (M24 : Mem) => (nmq ((if x23 = 0 then ((0 : Int32)) else ((ishl_ (1 : Int32) x7)))) (fun (x26 : Int32) => (nmq ((x6 ||| x26)) (fun (x28 : Int32) => nmq (x7 + (1 : Int32)) (fun (x29 : Int32) => (K9 x28 x29 M24)))))))))))))
def f_X9_whatIs (p1 : Int32) (M : Mem) : Option (Int32 × Mem) := (bq1 (f_X9_isIn p1 (0 : Int32) (1 : Int32)) (fun (x1 : Int32) => (if x1 = 0 then (bq2 (f_X9_no (-2 : Int32) M) (fun (x38 : Int32) (M39 : Mem) => some (x38, M39))) else (nmq ((gi M 139 19)) (fun (x4 : Int32) => nmq ((gi M 139 20)) (fun (x5 : Int32) => (bq2 (lq3 (f_X9_whatIs_L32 p1) FU (0 : Int32) (0 : Int32) M) (fun (x11 : Int32) (M12 : Mem) => (nmq (si M12 139 19 x4) (fun (M13 : Mem) => nmq (si M13 139 20 x5) (fun (M14 : Mem) => some (x11, M14))))))))))))
set_option maxHeartbeats 4000000 in
set_option maxRecDepth 100000 in
theorem ct_X9_whatIs (l : Launch) (G : GG) {p1 : Int32} {M : Mem} {r : Int32} {Mr : Mem}  (hf : f_X9_whatIs p1 M = some (r, Mr)) : Met l yX9_whatIs (wsq yX9_whatIs cX9_whatIs 6 (some .int)) (rmq 8 186) (va_Pc [.ref (G.2.2.1 139), .int p1] (World G M)) (Qi G r Mr) 0 0 (adA G) := by
  refine x_start (plainFor_of_name (by decide)) (Nat.le_of_ble_eq_true rfl) ?_
  intro p e s m args below meth c hB hr hlk hW hS ls hl
  have hx := hB.x
  have hb := hB.b
  have hl : lv_has ls 6 [(0, .ref (G.2.2.1 139)), (1, .int p1)] := hl
  unfold f_X9_whatIs at hf
  refine lv_iload_n hx hb dX9_whatIs_0 rfl (lv_at hl 1 rfl) ?_
  refine lv_iconst (v := (0 : Int32)) hx hb dX9_whatIs_1 (by decide) ?_
  refine lv_iconst (v := (1 : Int32)) hx hb dX9_whatIs_2 (by decide) ?_
  obtain ⟨x1, hg2, hf⟩ := b_o1 hf
  refine x_ci hB (x_rs hB hW hS (As := [.int p1, .int (0 : Int32), .int (1 : Int32)]) (rest := []) (ct_X9_isIn l G hg2) (cl_RX9_125 hB.2.2.2.2.1 ⟨Nat.le_of_ble_eq_true rfl, Nat.le_of_ble_eq_true rfl⟩) rfl hl.1 rfl (Nat.le_of_ble_eq_true rfl) dX9_whatIs_3 ⟨Nat.le_refl _, Nat.le_refl _⟩) hS (fun H locs hW hS => ?_)
  refine lv_if_ne (tgt := 16) hx hb dX9_whatIs_6 (by decide) (fun c3 => ?_) (fun c3 => ?_)
  · have hf := i_f hf c3
    refine lv_aload_n hx hb dX9_whatIs_16 rfl (lv_at hl 0 rfl) ?_
    refine fg9_19 hB hW tl139 wd5_98 dX9_whatIs_17 ?_
    refine lv_topi (fun x4 ex4 => ?_)
    have hf := nm_o hf ex4
    refine lv_istore_n (lv' := [(2, .int x4), (0, .ref (G.2.2.1 139)), (1, .int p1)]) hx hb dX9_whatIs_20 rfl hl (by decide) rfl (fun ls hl => ?_)
    refine lv_aload_n hx hb dX9_whatIs_21 rfl (lv_at hl 1 rfl) ?_
    refine fg9_20 hB hW tl139 wd5_99 dX9_whatIs_22 ?_
    refine lv_topi (fun x5 ex5 => ?_)
    have hf := nm_o hf ex5
    refine lv_istore_n (lv' := [(3, .int x5), (2, .int x4), (0, .ref (G.2.2.1 139)), (1, .int p1)]) hx hb dX9_whatIs_25 rfl hl (by decide) rfl (fun ls hl => ?_)
    refine lv_iconst (v := (0 : Int32)) hx hb dX9_whatIs_26 (by decide) ?_
    refine lv_istore (lv' := [(4, .int (0 : Int32)), (3, .int x5), (2, .int x4), (0, .ref (G.2.2.1 139)), (1, .int p1)]) hx hb dX9_whatIs_27 hl (by decide) rfl (fun ls hl => ?_)
    refine lv_iconst (v := (0 : Int32)) hx hb dX9_whatIs_29 (by decide) ?_
    refine lv_istore (lv' := [(5, .int (0 : Int32)), (4, .int (0 : Int32)), (3, .int x5), (2, .int x4), (0, .ref (G.2.2.1 139)), (1, .int p1)]) hx hb dX9_whatIs_30 hl (by decide) rfl (fun ls hl => ?_)
    obtain ⟨y15, M16, hL, hf⟩ := b_o2 hf
    have main17 : ∀ (x11 : Int32) (M12 : Mem) (H : Heap) (locs : List Loc) (ls : Array Slot), Wd G M12 H → va_S (adA G) s.heap H locs → lv_has ls 6 [(0, .ref (G.2.2.1 139)), (2, .int x4), (3, .int x5), (4, .int x11)] → some (x11, M12) = some (y15, M16) → W p l e (rmq 8 186) s m args below meth c H locs 0 0 (MQ below (Qi G r Mr) args s 0 0 (adA G)) (F0 m 93 ls []) := by
      intro x11 M12 H locs ls hW hS hl hE
      cases hE
      refine lv_aload_n hx hb dX9_whatIs_93 rfl (lv_at hl 0 rfl) ?_
      refine lv_iload_n hx hb dX9_whatIs_94 rfl (lv_at hl 1 rfl) ?_
      refine fp9_19 hB hW hS tl139 wd5_98 dX9_whatIs_95 (fun H locs M13 eM13 hW hS => ?_)
      have hf := nm_o hf eM13
      refine lv_aload_n hx hb dX9_whatIs_98 rfl (lv_at hl 0 rfl) ?_
      refine lv_iload_n hx hb dX9_whatIs_99 rfl (lv_at hl 2 rfl) ?_
      refine fp9_20 hB hW hS tl139 wd5_99 dX9_whatIs_100 (fun H locs M14 eM14 hW hS => ?_)
      have hf := nm_o hf eM14
      refine lv_iload hx hb dX9_whatIs_103 (lv_at hl 3 rfl) ?_
      exact e_i hB hW hS hr hlk (s_1 hf) (s_2 hf) dX9_whatIs_105
    have loop10 : ∀ (n : Nat) (x6 : Int32) (x7 : Int32) (M8 : Mem) (H : Heap) (locs : List Loc) (ls : Array Slot), Wd G M8 H → va_S (adA G) s.heap H locs → lv_has ls 6 [(0, .ref (G.2.2.1 139)), (1, .int p1), (2, .int x4), (3, .int x5), (4, .int x6), (5, .int x7)] → lq3 (f_X9_whatIs_L32 p1) n x6 x7 M8 = some (y15, M16) → W p l e (rmq 8 186) s m args below meth c H locs 0 0 (MQ below (Qi G r Mr) args s 0 0 (adA G)) (F0 m 32 ls []) := by
      intro n
      induction n with
      | zero => intro x6 x7 M8 H locs ls hW hS hl hf; exact (l_z3 hf).elim
      | succ n ih =>
        intro x6 x7 M8 H locs ls hW hS hl hf
        have hf := l_s3 hf
        generalize lq3 (f_X9_whatIs_L32 p1) n = K9 at ih hf
        unfold f_X9_whatIs_L32 at hf
        refine lv_iload hx hb dX9_whatIs_32 (lv_at hl 5 rfl) ?_
        refine lv_iload_n hx hb dX9_whatIs_34 rfl (lv_at hl 1 rfl) ?_
        obtain ⟨y36, evy36⟩ : ∃ z : Int32, (if p1 = 0 then ((6 : Int32)) else ((10 : Int32))) = z := ⟨_, rfl⟩
        have hf := nm_o hf evy36.symm
        have main19 : ∀ (x18 : Int32) (H : Heap) (locs : List Loc) (ls : Array Slot), Wd G M8 H → va_S (adA G) s.heap H locs → lv_has ls 6 [(0, .ref (G.2.2.1 139)), (1, .int p1), (2, .int x4), (3, .int x5), (4, .int x6), (5, .int x7)] → x18 = y36 → W p l e (rmq 8 186) s m args below meth c H locs 0 0 (MQ below (Qi G r Mr) args s 0 0 (adA G)) (F0 m 45 ls [.int x18, .int x7]) := by
          intro x18 H locs ls hW hS hl hE
          have hE := hE.symm
          subst hE
          refine lv_icmp_ge (tgt := 93) hx hb dX9_whatIs_45 (by decide) (fun c20 => ?_) (fun c20 => ?_)
          · have hf := i_t hf c20
            exact main17 x6 M8 _ _ ls hW hS (lv_sub hl [0, 2, 3, 4] rfl) hf
          · have hf := i_f hf c20
            refine lv_iload_n hx hb dX9_whatIs_48 rfl (lv_at hl 1 rfl) ?_
            obtain ⟨M32, hR, hf⟩ := b_o1 hf
            have main22 : ∀ (M21 : Mem) (H : Heap) (locs : List Loc) (ls : Array Slot), Wd G M21 H → va_S (adA G) s.heap H locs → lv_has ls 6 [(0, .ref (G.2.2.1 139)), (1, .int p1), (2, .int x4), (3, .int x5), (4, .int x6), (5, .int x7)] → some (M21) = some (M32) → W p l e (rmq 8 186) s m args below meth c H locs 0 0 (MQ below (Qi G r Mr) args s 0 0 (adA G)) (F0 m 67 ls []) := by
              intro M21 H locs ls hW hS hl hE
              cases hE
              refine lv_iload hx hb dX9_whatIs_67 (lv_at hl 4 rfl) ?_
              refine lv_aload_n hx hb dX9_whatIs_69 rfl (lv_at hl 0 rfl) ?_
              obtain ⟨x23, M24, hg25, hf⟩ := b_o2 hf
              refine x_ci hB (x_rv hB hW hS (As := []) (rest := [.int x6]) (ct_X9_areLinesSo l G hg25) (cl_RX9_400 hB.2.2.2.2.1 ⟨Nat.le_of_ble_eq_true rfl, Nat.le_of_ble_eq_true rfl⟩) tl139 (by decide) rfl rfl hl.1 rfl (Nat.le_of_ble_eq_true rfl) dX9_whatIs_70 ⟨Nat.le_refl _, Nat.le_refl _⟩) hS (fun H locs hW hS => ?_)
              obtain ⟨y30, evy30⟩ : ∃ z : Int32, (if x23 = 0 then ((0 : Int32)) else ((ishl_ (1 : Int32) x7))) = z := ⟨_, rfl⟩
              have hf := nm_o hf evy30.symm
              have main27 : ∀ (x26 : Int32) (H : Heap) (locs : List Loc) (ls : Array Slot), Wd G M24 H → va_S (adA G) s.heap H locs → lv_has ls 6 [(0, .ref (G.2.2.1 139)), (1, .int p1), (2, .int x4), (3, .int x5), (5, .int x7)] → x26 = y30 → W p l e (rmq 8 186) s m args below meth c H locs 0 0 (MQ below (Qi G r Mr) args s 0 0 (adA G)) (F0 m 84 ls [.int x26, .int x6]) := by
                intro x26 H locs ls hW hS hl hE
                have hE := hE.symm
                subst hE
                refine lv_ior hx hb dX9_whatIs_84 ?_
                refine lv_topi (fun x28 ex28 => ?_)
                have hf := nm_o hf ex28
                refine lv_istore (lv' := [(4, .int x28), (0, .ref (G.2.2.1 139)), (1, .int p1), (2, .int x4), (3, .int x5), (5, .int x7)]) hx hb dX9_whatIs_85 hl (by decide) rfl (fun ls hl => ?_)
                obtain ⟨x29, ex29⟩ : ∃ y : Int32, y = x7 + (1 : Int32) := ⟨_, rfl⟩
                have hf := nm_o hf ex29
                refine lv_iinc (v := x29) (lv' := [(5, .int x29), (4, .int x28), (0, .ref (G.2.2.1 139)), (1, .int p1), (2, .int x4), (3, .int x5)]) hx hb dX9_whatIs_87 hl (k := 5) rfl (by rw [ex29]; rfl) (by decide) rfl (fun ls hl => ?_)
                refine lv_goto (tgt := 32) hx hb dX9_whatIs_90 (by decide) ?_
                exact ih x28 x29 M24 _ _ ls hW hS (lv_sub hl [2, 3, 4, 5, 1, 0] rfl) hf
              have hf := evy30
              refine lv_if_eq (tgt := 83) hx hb dX9_whatIs_73 (by decide) (fun c31 => ?_) (fun c31 => ?_)
              · have hf := i_t hf c31
                refine lv_iconst (v := (0 : Int32)) hx hb dX9_whatIs_83 (by decide) ?_
                exact main27 (0 : Int32) _ _ ls hW hS (lv_sub hl [0, 1, 2, 3, 5] rfl) hf
              · have hf := i_f hf c31
                refine lv_iconst (v := (1 : Int32)) hx hb dX9_whatIs_76 (by decide) ?_
                refine lv_iload hx hb dX9_whatIs_77 (lv_at hl 5 rfl) ?_
                refine lv_ishl hx hb dX9_whatIs_79 ?_
                refine lv_goto (tgt := 84) hx hb dX9_whatIs_80 (by decide) ?_
                exact main27 (ishl_ (1 : Int32) x7) _ _ ls hW hS (lv_sub hl [0, 1, 2, 3, 5] rfl) hf
            have hf := hR
            refine lv_if_ne (tgt := 61) hx hb dX9_whatIs_49 (by decide) (fun c33 => ?_) (fun c33 => ?_)
            · have hf := i_f hf c33
              refine lv_aload_n hx hb dX9_whatIs_61 rfl (lv_at hl 0 rfl) ?_
              refine lv_iload hx hb dX9_whatIs_62 (lv_at hl 5 rfl) ?_
              refine fp9_20 hB hW hS tl139 wd5_99 dX9_whatIs_64 (fun H locs M34 eM34 hW hS => ?_)
              have hf := nm_o hf eM34
              exact main22 M34 _ _ ls hW hS (lv_sub hl [0, 1, 2, 3, 4, 5] rfl) hf
            · have hf := i_t hf c33
              refine lv_aload_n hx hb dX9_whatIs_52 rfl (lv_at hl 0 rfl) ?_
              refine lv_iload hx hb dX9_whatIs_53 (lv_at hl 5 rfl) ?_
              refine fp9_19 hB hW hS tl139 wd5_98 dX9_whatIs_55 (fun H locs M35 eM35 hW hS => ?_)
              have hf := nm_o hf eM35
              refine lv_goto (tgt := 67) hx hb dX9_whatIs_58 (by decide) ?_
              exact main22 M35 _ _ ls hW hS (lv_sub hl [0, 1, 2, 3, 4, 5] rfl) hf
        have hf := evy36
        refine lv_if_ne (tgt := 43) hx hb dX9_whatIs_35 (by decide) (fun c37 => ?_) (fun c37 => ?_)
        · have hf := i_f hf c37
          refine lv_bipush (v := (10 : Int32)) hx hb dX9_whatIs_43 (by decide) ?_
          exact main19 (10 : Int32) _ _ ls hW hS (lv_sub hl [0, 1, 2, 3, 4, 5] rfl) hf
        · have hf := i_t hf c37
          refine lv_bipush (v := (6 : Int32)) hx hb dX9_whatIs_38 (by decide) ?_
          refine lv_goto (tgt := 45) hx hb dX9_whatIs_40 (by decide) ?_
          exact main19 (6 : Int32) _ _ ls hW hS (lv_sub hl [0, 1, 2, 3, 4, 5] rfl) hf
    exact loop10 FU (0 : Int32) (0 : Int32) M _ _ ls hW hS (lv_sub hl [4, 5, 3, 2, 1, 0] rfl) hL
  · have hf := i_t hf c3
    refine lv_aload_n hx hb dX9_whatIs_9 rfl (lv_at hl 0 rfl) ?_
    refine lv_bipush (v := (-2 : Int32)) hx hb dX9_whatIs_10 (by decide) ?_
    obtain ⟨x38, M39, hg40, hf⟩ := b_o2 hf
    refine x_ci hB (x_rv hB hW hS (As := [.int (-2 : Int32)]) (rest := []) (ct_X9_no l G hg40) (cl_RX9_224 hB.2.2.2.2.1 ⟨Nat.le_of_ble_eq_true rfl, Nat.le_of_ble_eq_true rfl⟩) tl139 (by decide) rfl rfl hl.1 rfl (Nat.le_of_ble_eq_true rfl) dX9_whatIs_12 ⟨Nat.le_refl _, Nat.le_refl _⟩) hS (fun H locs hW hS => ?_)
    exact e_i hB hW hS hr hlk (s_1 hf) (s_2 hf) dX9_whatIs_15
def f_X9_row (p1 : Int32) (M : Mem) : Option (Int32 × Mem) := (bq1 (f_X9_bound p1 (0 : Int32) (99 : Int32)) (fun (x1 : Int32) => (bq1 ((if x1 = 0 then (if (gi M 139 52) = (16 : Int32) then (some ((-6 : Int32))) else (some (x1))) else (some (x1))) : Option (Int32)) (fun (x3 : Int32) => (if x3 = 0 then (gq (inB (gi M 139 52) 16) (nmq (si M 168 (((gi M 139 52) : Int32).toNatClampNeg) p1) (fun (M7 : Mem) => nmq (si M7 139 52 ((gi M7 139 52) + (1 : Int32))) (fun (M8 : Mem) => some ((gi M8 139 52), M8))))) else (bq2 (f_X9_no x3 M) (fun (x9 : Int32) (M10 : Mem) => some (x9, M10))))))))
set_option maxHeartbeats 4000000 in
set_option maxRecDepth 100000 in
theorem ct_X9_row (l : Launch) (G : GG) {p1 : Int32} {M : Mem} {r : Int32} {Mr : Mem}  (hf : f_X9_row p1 M = some (r, Mr)) : Met l yX9_row (wsq yX9_row cX9_row 3 (some .int)) (rmq 1 22) (va_Pc [.ref (G.2.2.1 139), .int p1] (World G M)) (Qi G r Mr) 0 0 (adA G) := by
  refine x_start (plainFor_of_name (by decide)) (Nat.le_of_ble_eq_true rfl) ?_
  intro p e s m args below meth c hB hr hlk hW hS ls hl
  have hx := hB.x
  have hb := hB.b
  have hl : lv_has ls 3 [(0, .ref (G.2.2.1 139)), (1, .int p1)] := hl
  unfold f_X9_row at hf
  refine lv_iload_n hx hb dX9_row_0 rfl (lv_at hl 1 rfl) ?_
  refine lv_iconst (v := (0 : Int32)) hx hb dX9_row_1 (by decide) ?_
  refine lv_bipush (v := (99 : Int32)) hx hb dX9_row_2 (by decide) ?_
  obtain ⟨x1, hg2, hf⟩ := b_o1 hf
  refine x_ci hB (x_rs hB hW hS (As := [.int p1, .int (0 : Int32), .int (99 : Int32)]) (rest := []) (ct_X9_bound l G hg2) (cl_RX9_217 hB.2.2.2.2.1 ⟨Nat.le_of_ble_eq_true rfl, Nat.le_of_ble_eq_true rfl⟩) rfl hl.1 rfl (Nat.le_of_ble_eq_true rfl) dX9_row_4 ⟨Nat.le_refl _, Nat.le_refl _⟩) hS (fun H locs hW hS => ?_)
  refine lv_istore_n (lv' := [(2, .int x1), (0, .ref (G.2.2.1 139)), (1, .int p1)]) hx hb dX9_row_7 rfl hl (by decide) rfl (fun ls hl => ?_)
  refine lv_iload_n hx hb dX9_row_8 rfl (lv_at hl 0 rfl) ?_
  obtain ⟨y12, hR, hf⟩ := b_o1 hf
  have main4 : ∀ (x3 : Int32) (H : Heap) (locs : List Loc) (ls : Array Slot), Wd G M H → va_S (adA G) s.heap H locs → lv_has ls 3 [(0, .ref (G.2.2.1 139)), (1, .int p1), (2, .int x3)] → some (x3) = some (y12) → W p l e (rmq 1 22) s m args below meth c H locs 0 0 (MQ below (Qi G r Mr) args s 0 0 (adA G)) (F0 m 24 ls []) := by
    intro x3 H locs ls hW hS hl hE
    cases hE
    refine lv_iload_n hx hb dX9_row_24 rfl (lv_at hl 2 rfl) ?_
    refine lv_if_eq (tgt := 34) hx hb dX9_row_25 (by decide) (fun c5 => ?_) (fun c5 => ?_)
    · have hf := i_t hf c5
      refine lv_aload_n hx hb dX9_row_34 rfl (lv_at hl 0 rfl) ?_
      refine fg9_51 hB hW tl139 wd5_130 dX9_row_35 ?_
      refine lv_aload_n hx hb dX9_row_38 rfl (lv_at hl 0 rfl) ?_
      refine fg9_52 hB hW tl139 wd5_131 dX9_row_39 ?_
      refine lv_iload_n hx hb dX9_row_42 rfl (lv_at hl 1 rfl) ?_
      obtain ⟨h6, hf⟩ := g_o hf
      refine x_i hB hW hS tl168 al168 h6 dX9_row_43 (fun H locs M7 eM7 hW hS => ?_)
      have hf := nm_o hf eM7
      refine lv_aload_n hx hb dX9_row_44 rfl (lv_at hl 0 rfl) ?_
      refine lv_dup hx hb dX9_row_45 rfl ?_
      refine fg9_52 hB hW tl139 wd5_131 dX9_row_46 ?_
      refine lv_iconst (v := (1 : Int32)) hx hb dX9_row_49 (by decide) ?_
      refine lv_iadd hx hb dX9_row_50 ?_
      refine fp9_52 hB hW hS tl139 wd5_131 dX9_row_51 (fun H locs M8 eM8 hW hS => ?_)
      have hf := nm_o hf eM8
      refine lv_aload_n hx hb dX9_row_54 rfl (lv_at hl 0 rfl) ?_
      refine fg9_52 hB hW tl139 wd5_131 dX9_row_55 ?_
      exact e_i hB hW hS hr hlk (s_1 hf) (s_2 hf) dX9_row_58
    · have hf := i_f hf c5
      refine lv_aload_n hx hb dX9_row_28 rfl (lv_at hl 0 rfl) ?_
      refine lv_iload_n hx hb dX9_row_29 rfl (lv_at hl 2 rfl) ?_
      obtain ⟨x9, M10, hg11, hf⟩ := b_o2 hf
      refine x_ci hB (x_rv hB hW hS (As := [.int y12]) (rest := []) (ct_X9_no l G hg11) (cl_RX9_224 hB.2.2.2.2.1 ⟨Nat.le_of_ble_eq_true rfl, Nat.le_of_ble_eq_true rfl⟩) tl139 (by decide) rfl rfl hl.1 rfl (Nat.le_of_ble_eq_true rfl) dX9_row_30 ⟨Nat.le_refl _, Nat.le_refl _⟩) hS (fun H locs hW hS => ?_)
      exact e_i hB hW hS hr hlk (s_1 hf) (s_2 hf) dX9_row_33
  have hf := hR
  refine lv_if_ne (tgt := 24) hx hb dX9_row_9 (by decide) (fun c13 => ?_) (fun c13 => ?_)
  · have hf := i_f hf c13
    exact main4 x1 _ _ ls hW hS (lv_sub hl [1, 2, 0] rfl) hf
  · have hf := i_t hf c13
    refine lv_aload_n hx hb dX9_row_12 rfl (lv_at hl 1 rfl) ?_
    refine fg9_52 hB hW tl139 wd5_131 dX9_row_13 ?_
    refine lv_bipush (v := (16 : Int32)) hx hb dX9_row_16 (by decide) ?_
    refine lv_icmp_ne (tgt := 24) hx hb dX9_row_18 (by decide) (fun c14 => ?_) (fun c14 => ?_)
    · have hf := i_f hf c14
      exact main4 x1 _ _ ls hW hS (lv_sub hl [1, 2, 0] rfl) hf
    · have hf := i_t hf c14
      refine lv_bipush (v := (-6 : Int32)) hx hb dX9_row_21 (by decide) ?_
      refine lv_istore_n (lv' := [(2, .int (-6 : Int32)), (0, .ref (G.2.2.1 139)), (1, .int p1)]) hx hb dX9_row_23 rfl hl (by decide) rfl (fun ls hl => ?_)
      exact main4 (-6 : Int32) _ _ ls hW hS (lv_sub hl [1, 2, 0] rfl) hf
def f_X9_judge_L28 (x1 : Int32) (M4 : Mem) (x6 : Int32) (K9 : Int32 → Option (Int32 × Mem)) (x8 : Int32) : Option (Int32 × Mem) := (if x1 ≤ x8 then (if x6 ≤ x1 then some ((-9 : Int32), M4) else some (x1, M4)) else (if x6 ≤ x8 then some (x8, M4) else (gq (inB x8 162) (gq (inB x8 16) ((if (gi M4 155 ((x8 : Int32).toNatClampNeg)) = (gi M4 168 ((x8 : Int32).toNatClampNeg)) then (nmq (x8 + (1 : Int32)) (fun (x17 : Int32) => (K9 x17))) else some (x8, M4)))))))
def f_X9_judge (M : Mem) : Option (Int32 × Mem) := (nmq ((gi M 139 52)) (fun (x1 : Int32) => nmq (si M 139 52 (0 : Int32)) (fun (M2 : Mem) => bq2 (f_X9_findLines M2) (fun (x3 : Int32) (M4 : Mem) => (nmq ((if 0 ≤ x3 then ((gi M4 139 29)) else ((0 : Int32)))) (fun (x6 : Int32) => (lq1 (f_X9_judge_L28 x1 M4 x6) FU (0 : Int32))))))))
set_option maxHeartbeats 4000000 in
set_option maxRecDepth 100000 in
theorem ct_X9_judge (l : Launch) (G : GG)  {M : Mem} {r : Int32} {Mr : Mem}  (hf : f_X9_judge M = some (r, Mr)) : Met l yX9_judge (wsq yX9_judge cX9_judge 4 (some .int)) (rmq 6 141) (va_Pc [.ref (G.2.2.1 139)] (World G M)) (Qi G r Mr) 0 0 (adA G) := by
  refine x_start (plainFor_of_name (by decide)) (Nat.le_of_ble_eq_true rfl) ?_
  intro p e s m args below meth c hB hr hlk hW hS ls hl
  have hx := hB.x
  have hb := hB.b
  have hl : lv_has ls 4 [(0, .ref (G.2.2.1 139))] := hl
  unfold f_X9_judge at hf
  refine lv_aload_n hx hb dX9_judge_0 rfl (lv_at hl 0 rfl) ?_
  refine fg9_52 hB hW tl139 wd5_131 dX9_judge_1 ?_
  refine lv_topi (fun x1 ex1 => ?_)
  have hf := nm_o hf ex1
  refine lv_istore_n (lv' := [(1, .int x1), (0, .ref (G.2.2.1 139))]) hx hb dX9_judge_4 rfl hl (by decide) rfl (fun ls hl => ?_)
  refine lv_aload_n hx hb dX9_judge_5 rfl (lv_at hl 1 rfl) ?_
  refine lv_iconst (v := (0 : Int32)) hx hb dX9_judge_6 (by decide) ?_
  refine fp9_52 hB hW hS tl139 wd5_131 dX9_judge_7 (fun H locs M2 eM2 hW hS => ?_)
  have hf := nm_o hf eM2
  refine lv_aload_n hx hb dX9_judge_10 rfl (lv_at hl 1 rfl) ?_
  obtain ⟨x3, M4, hg5, hf⟩ := b_o2 hf
  refine x_ci hB (x_rv hB hW hS (As := []) (rest := []) (ct_X9_findLines l G hg5) (cl_RX9_214 hB.2.2.2.2.1 ⟨Nat.le_of_ble_eq_true rfl, Nat.le_of_ble_eq_true rfl⟩) tl139 (by decide) rfl rfl hl.1 rfl (Nat.le_of_ble_eq_true rfl) dX9_judge_11 ⟨Nat.le_refl _, Nat.le_refl _⟩) hS (fun H locs hW hS => ?_)
  obtain ⟨y18, evy18⟩ : ∃ z : Int32, (if 0 ≤ x3 then ((gi M4 139 29)) else ((0 : Int32))) = z := ⟨_, rfl⟩
  have hf := nm_o hf evy18.symm
  have main7 : ∀ (x6 : Int32) (H : Heap) (locs : List Loc) (ls : Array Slot), Wd G M4 H → va_S (adA G) s.heap H locs → lv_has ls 4 [(0, .ref (G.2.2.1 139)), (1, .int x1)] → x6 = y18 → W p l e (rmq 6 141) s m args below meth c H locs 0 0 (MQ below (Qi G r Mr) args s 0 0 (adA G)) (F0 m 25 ls [.int x6]) := by
    intro x6 H locs ls hW hS hl hE
    have hE := hE.symm
    subst hE
    refine lv_istore_n (lv' := [(2, .int y18), (0, .ref (G.2.2.1 139)), (1, .int x1)]) hx hb dX9_judge_25 rfl hl (by decide) rfl (fun ls hl => ?_)
    refine lv_iconst (v := (0 : Int32)) hx hb dX9_judge_26 (by decide) ?_
    refine lv_istore_n (lv' := [(3, .int (0 : Int32)), (2, .int y18), (0, .ref (G.2.2.1 139)), (1, .int x1)]) hx hb dX9_judge_27 rfl hl (by decide) rfl (fun ls hl => ?_)
    have loop10 : ∀ (n : Nat) (x8 : Int32) (H : Heap) (locs : List Loc) (ls : Array Slot), Wd G M4 H → va_S (adA G) s.heap H locs → lv_has ls 4 [(0, .ref (G.2.2.1 139)), (1, .int x1), (2, .int y18), (3, .int x8)] → lq1 (f_X9_judge_L28 x1 M4 y18) n x8 = some (r, Mr) → W p l e (rmq 6 141) s m args below meth c H locs 0 0 (MQ below (Qi G r Mr) args s 0 0 (adA G)) (F0 m 28 ls []) := by
      intro n
      induction n with
      | zero => intro x8 H locs ls hW hS hl hf; exact (l_z1 hf).elim
      | succ n ih =>
        intro x8 H locs ls hW hS hl hf
        have hf := l_s1 hf
        generalize lq1 (f_X9_judge_L28 x1 M4 y18) n = K9 at ih hf
        unfold f_X9_judge_L28 at hf
        refine lv_iload_n hx hb dX9_judge_28 rfl (lv_at hl 3 rfl) ?_
        refine lv_iload_n hx hb dX9_judge_29 rfl (lv_at hl 1 rfl) ?_
        refine lv_icmp_ge (tgt := 61) hx hb dX9_judge_30 (by decide) (fun c11 => ?_) (fun c11 => ?_)
        · have hf := i_t hf c11
          refine lv_iload_n hx hb dX9_judge_61 rfl (lv_at hl 1 rfl) ?_
          refine lv_iload_n hx hb dX9_judge_62 rfl (lv_at hl 2 rfl) ?_
          refine lv_icmp_ge (tgt := 70) hx hb dX9_judge_63 (by decide) (fun c12 => ?_) (fun c12 => ?_)
          · have hf := i_t hf c12
            refine lv_bipush (v := (-9 : Int32)) hx hb dX9_judge_70 (by decide) ?_
            exact e_i hB hW hS hr hlk (s_1 hf) (s_2 hf) dX9_judge_72
          · have hf := i_f hf c12
            refine lv_iload_n hx hb dX9_judge_66 rfl (lv_at hl 1 rfl) ?_
            refine lv_goto (tgt := 72) hx hb dX9_judge_67 (by decide) ?_
            exact e_i hB hW hS hr hlk (s_1 hf) (s_2 hf) dX9_judge_72
        · have hf := i_f hf c11
          refine lv_iload_n hx hb dX9_judge_33 rfl (lv_at hl 3 rfl) ?_
          refine lv_iload_n hx hb dX9_judge_34 rfl (lv_at hl 2 rfl) ?_
          refine lv_icmp_ge (tgt := 53) hx hb dX9_judge_35 (by decide) (fun c13 => ?_) (fun c13 => ?_)
          · have hf := i_t hf c13
            refine lv_iload_n hx hb dX9_judge_53 rfl (lv_at hl 3 rfl) ?_
            exact e_i hB hW hS hr hlk (s_1 hf) (s_2 hf) dX9_judge_54
          · have hf := i_f hf c13
            refine lv_aload_n hx hb dX9_judge_38 rfl (lv_at hl 0 rfl) ?_
            refine fg9_28 hB hW tl139 wd5_107 dX9_judge_39 ?_
            refine lv_iload_n hx hb dX9_judge_42 rfl (lv_at hl 3 rfl) ?_
            obtain ⟨h14, hf⟩ := g_o hf
            refine x_iald hB hW tl155 al155 h14 dX9_judge_43 ?_
            refine lv_aload_n hx hb dX9_judge_44 rfl (lv_at hl 0 rfl) ?_
            refine fg9_51 hB hW tl139 wd5_130 dX9_judge_45 ?_
            refine lv_iload_n hx hb dX9_judge_48 rfl (lv_at hl 3 rfl) ?_
            obtain ⟨h15, hf⟩ := g_o hf
            refine x_iald hB hW tl168 al168 h15 dX9_judge_49 ?_
            refine lv_icmp_eq (tgt := 55) hx hb dX9_judge_50 (by decide) (fun c16 => ?_) (fun c16 => ?_)
            · have hf := i_t hf c16
              obtain ⟨x17, ex17⟩ : ∃ y : Int32, y = x8 + (1 : Int32) := ⟨_, rfl⟩
              have hf := nm_o hf ex17
              refine lv_iinc (v := x17) (lv' := [(3, .int x17), (0, .ref (G.2.2.1 139)), (1, .int x1), (2, .int y18)]) hx hb dX9_judge_55 hl (k := 3) rfl (by rw [ex17]; rfl) (by decide) rfl (fun ls hl => ?_)
              refine lv_goto (tgt := 28) hx hb dX9_judge_58 (by decide) ?_
              exact ih x17 _ _ ls hW hS (lv_sub hl [1, 2, 3, 0] rfl) hf
            · have hf := i_f hf c16
              refine lv_iload_n hx hb dX9_judge_53 rfl (lv_at hl 3 rfl) ?_
              exact e_i hB hW hS hr hlk (s_1 hf) (s_2 hf) dX9_judge_54
    exact loop10 FU (0 : Int32) _ _ ls hW hS (lv_sub hl [2, 3, 1, 0] rfl) hf
  have hf := evy18
  refine lv_if_ge (tgt := 21) hx hb dX9_judge_14 (by decide) (fun c19 => ?_) (fun c19 => ?_)
  · have hf := i_t hf c19
    refine lv_aload_n hx hb dX9_judge_21 rfl (lv_at hl 1 rfl) ?_
    refine fg9_29 hB hW tl139 wd5_108 dX9_judge_22 ?_
    exact main7 (gi M4 139 29) _ _ ls hW hS (lv_sub hl [1, 0] rfl) hf
  · have hf := i_f hf c19
    refine lv_iconst (v := (0 : Int32)) hx hb dX9_judge_17 (by decide) ?_
    refine lv_goto (tgt := 25) hx hb dX9_judge_18 (by decide) ?_
    exact main7 (0 : Int32) _ _ ls hW hS (lv_sub hl [1, 0] rfl) hf
def f_X9_clear (M : Mem) : Option (Int32 × Mem) := (nmq ((gi M 139 52)) (fun (x1 : Int32) => nmq (si M 139 52 (0 : Int32)) (fun (M2 : Mem) => some (x1, M2))))
set_option maxHeartbeats 4000000 in
set_option maxRecDepth 100000 in
theorem ct_X9_clear (l : Launch) (G : GG)  {M : Mem} {r : Int32} {Mr : Mem}  (hf : f_X9_clear M = some (r, Mr)) : Met l yX9_clear (wsq yX9_clear cX9_clear 2 (some .int)) (rmq 0 0) (va_Pc [.ref (G.2.2.1 139)] (World G M)) (Qi G r Mr) 0 0 (adA G) := by
  refine x_start (plainFor_of_name (by decide)) (Nat.le_of_ble_eq_true rfl) ?_
  intro p e s m args below meth c hB hr hlk hW hS ls hl
  have hx := hB.x
  have hb := hB.b
  have hl : lv_has ls 2 [(0, .ref (G.2.2.1 139))] := hl
  unfold f_X9_clear at hf
  refine lv_aload_n hx hb dX9_clear_0 rfl (lv_at hl 0 rfl) ?_
  refine fg9_52 hB hW tl139 wd5_131 dX9_clear_1 ?_
  refine lv_topi (fun x1 ex1 => ?_)
  have hf := nm_o hf ex1
  refine lv_istore_n (lv' := [(1, .int x1), (0, .ref (G.2.2.1 139))]) hx hb dX9_clear_4 rfl hl (by decide) rfl (fun ls hl => ?_)
  refine lv_aload_n hx hb dX9_clear_5 rfl (lv_at hl 1 rfl) ?_
  refine lv_iconst (v := (0 : Int32)) hx hb dX9_clear_6 (by decide) ?_
  refine fp9_52 hB hW hS tl139 wd5_131 dX9_clear_7 (fun H locs M2 eM2 hW hS => ?_)
  have hf := nm_o hf eM2
  refine lv_iload_n hx hb dX9_clear_10 rfl (lv_at hl 0 rfl) ?_
  exact e_i hB hW hS hr hlk (s_1 hf) (s_2 hf) dX9_clear_11
def f_X9_draw (p1 : Int32) (M : Mem) : Option (Int32 × Mem) := (nmq (si M 139 53 (((gi M 139 53) * (1664525 : Int32)) + (1013904223 : Int32))) (fun (M1 : Mem) => gq (¬ p1 = 0) (some ((irm (((gi M1 139 53) &&& (2147483647 : Int32)) / (256 : Int32)) p1), M1))))
set_option maxHeartbeats 4000000 in
set_option maxRecDepth 100000 in
theorem ct_X9_draw (l : Launch) (G : GG) {p1 : Int32} {M : Mem} {r : Int32} {Mr : Mem}  (hf : f_X9_draw p1 M = some (r, Mr)) : Met l yX9_draw (wsq yX9_draw cX9_draw 2 (some .int)) (rmq 0 0) (va_Pc [.ref (G.2.2.1 139), .int p1] (World G M)) (Qi G r Mr) 0 0 (adA G) := by
  refine x_start (plainFor_of_name (by decide)) (Nat.le_of_ble_eq_true rfl) ?_
  intro p e s m args below meth c hB hr hlk hW hS ls hl
  have hx := hB.x
  have hb := hB.b
  have hl : lv_has ls 2 [(0, .ref (G.2.2.1 139)), (1, .int p1)] := hl
  unfold f_X9_draw at hf
  refine lv_aload_n hx hb dX9_draw_0 rfl (lv_at hl 0 rfl) ?_
  refine lv_aload_n hx hb dX9_draw_1 rfl (lv_at hl 0 rfl) ?_
  refine fg9_53 hB hW tl139 wd5_132 dX9_draw_2 ?_
  refine lv_ldcw (v := (1664525 : Int32)) hx hb hB.ow (hB.w wd7_204) dX9_draw_5 ?_
  refine lv_imul hx hb dX9_draw_8 ?_
  refine lv_ldcw (v := (1013904223 : Int32)) hx hb hB.ow (hB.w wd7_205) dX9_draw_9 ?_
  refine lv_iadd hx hb dX9_draw_12 ?_
  refine fp9_53 hB hW hS tl139 wd5_132 dX9_draw_13 (fun H locs M1 eM1 hW hS => ?_)
  have hf := nm_o hf eM1
  refine lv_aload_n hx hb dX9_draw_16 rfl (lv_at hl 0 rfl) ?_
  refine fg9_53 hB hW tl139 wd5_132 dX9_draw_17 ?_
  refine lv_ldcw (v := (2147483647 : Int32)) hx hb hB.ow (hB.w wd7_206) dX9_draw_20 ?_
  refine lv_iand hx hb dX9_draw_23 ?_
  refine lv_sipush (v := (256 : Int32)) hx hb dX9_draw_24 (by decide) ?_
  refine lv_idiv hx hb dX9_draw_27 (by decide) ?_
  refine lv_iload_n hx hb dX9_draw_28 rfl (lv_at hl 1 rfl) ?_
  obtain ⟨h2, hf⟩ := g_o hf
  refine lv_irem hx hb dX9_draw_29 h2 ?_
  exact e_i hB hW hS hr hlk (s_1 hf) (s_2 hf) dX9_draw_30
theorem cl_RX9_409 {R : Room} {s : State} {args : Array Value} (ht : ∀ w ∈ lw_all, w.before args s = true) (hR : 0 + 1 ≤ R.frames ∧ 8 + (2 + 11) + 0 ≤ R.locals) : CallW R s args RX9 RX9 409 yX9_draw cX9_draw 2 (some .int) (wsq yX9_draw cX9_draw 2 (some .int)) (rmq 0 0) 0 0 1 := cwV 1 ht (goodV wd7_200 wd7_202 wsel_95 wd1_10 wd7_203) rfl rfl rfl (by decide +kernel) hR
def f_X9_lots_L62 (p1 : Int32) (p3 : Int32) (K12 : Int32 → Int32 → Mem → Option (Int32 × Mem)) (x9 : Int32) (x10 : Int32) (M11 : Mem) : Option (Int32 × Mem) := (if p1 ≤ x10 then (some (x9, M11)) else (bq2 (f_X9_draw (41 : Int32) M11) (fun (x22 : Int32) (M23 : Mem) => nmq (si M23 139 11 (x22 + (10 : Int32))) (fun (M25 : Mem) => bq2 (f_X9_draw (41 : Int32) M25) (fun (x26 : Int32) (M27 : Mem) => nmq (si M27 139 15 x26) (fun (M29 : Mem) => bq2 (f_X9_findLines M29) (fun (x30 : Int32) (M31 : Mem) => (if p3 = 0 then (nmq ((if 0 ≤ x30 then (x30) else ((0 : Int32)))) (fun (x40 : Int32) => (nmq ((x9 + x40)) (fun (x42 : Int32) => (nmq (x10 + (1 : Int32)) (fun (x43 : Int32) => (K12 x42 x43 M31))))))) else (nmq ((if 0 ≤ x30 then ((0 : Int32)) else ((1 : Int32)))) (fun (x34 : Int32) => (nmq ((x9 + x34)) (fun (x36 : Int32) => (nmq (x10 + (1 : Int32)) (fun (x37 : Int32) => (K12 x36 x37 M31)))))))))))))))
def f_X9_lots (p1 : Int32) (p2 : Int32) (p3 : Int32) (M : Mem) : Option (Int32 × Mem) := (bq1 (f_X9_bound p1 (1 : Int32) (20 : Int32)) (fun (x1 : Int32) => (bq1 ((if x1 = 0 then (bq1 (f_X9_isIn p3 (0 : Int32) (1 : Int32)) (fun (x51 : Int32) => (if x51 = 0 then (some ((-2 : Int32))) else (some (x1))))) else (some (x1))) : Option (Int32)) (fun (x3 : Int32) => (if x3 = 0 then (nmq (si M 139 53 p2) (fun (M6 : Mem) => nmq ((gi M6 139 11)) (fun (x7 : Int32) => nmq ((gi M6 139 15)) (fun (x8 : Int32) => (bq2 (lq3 (f_X9_lots_L62 p1 p3) FU (0 : Int32) (0 : Int32) M6) (fun (x14 : Int32) (M15 : Mem) => (nmq (si M15 139 11 x7) (fun (M16 : Mem) => nmq (si M16 139 15 x8) (fun (M17 : Mem) => some (x14, M17)))))))))) else (bq2 (f_X9_no x3 M) (fun (x46 : Int32) (M47 : Mem) => some (x46, M47))))))))
set_option maxHeartbeats 4000000 in
set_option maxRecDepth 100000 in
theorem ct_X9_lots (l : Launch) (G : GG) {p1 : Int32} {p2 : Int32} {p3 : Int32} {M : Mem} {r : Int32} {Mr : Mem}  (hf : f_X9_lots p1 p2 p3 M = some (r, Mr)) : Met l yX9_lots (wsq yX9_lots cX9_lots 10 (some .int)) (rmq 6 141) (va_Pc [.ref (G.2.2.1 139), .int p1, .int p2, .int p3] (World G M)) (Qi G r Mr) 0 0 (adA G) := by
  refine x_start (plainFor_of_name (by decide)) (Nat.le_of_ble_eq_true rfl) ?_
  intro p e s m args below meth c hB hr hlk hW hS ls hl
  have hx := hB.x
  have hb := hB.b
  have hl : lv_has ls 10 [(0, .ref (G.2.2.1 139)), (1, .int p1), (2, .int p2), (3, .int p3)] := hl
  unfold f_X9_lots at hf
  refine lv_iload_n hx hb dX9_lots_0 rfl (lv_at hl 1 rfl) ?_
  refine lv_iconst (v := (1 : Int32)) hx hb dX9_lots_1 (by decide) ?_
  refine lv_bipush (v := (20 : Int32)) hx hb dX9_lots_2 (by decide) ?_
  obtain ⟨x1, hg2, hf⟩ := b_o1 hf
  refine x_ci hB (x_rs hB hW hS (As := [.int p1, .int (1 : Int32), .int (20 : Int32)]) (rest := []) (ct_X9_bound l G hg2) (cl_RX9_217 hB.2.2.2.2.1 ⟨Nat.le_of_ble_eq_true rfl, Nat.le_of_ble_eq_true rfl⟩) rfl hl.1 rfl (Nat.le_of_ble_eq_true rfl) dX9_lots_4 ⟨Nat.le_refl _, Nat.le_refl _⟩) hS (fun H locs hW hS => ?_)
  refine lv_istore (lv' := [(4, .int x1), (0, .ref (G.2.2.1 139)), (1, .int p1), (2, .int p2), (3, .int p3)]) hx hb dX9_lots_7 hl (by decide) rfl (fun ls hl => ?_)
  refine lv_iload hx hb dX9_lots_9 (lv_at hl 0 rfl) ?_
  obtain ⟨y49, hR, hf⟩ := b_o1 hf
  have main4 : ∀ (x3 : Int32) (H : Heap) (locs : List Loc) (ls : Array Slot), Wd G M H → va_S (adA G) s.heap H locs → lv_has ls 10 [(0, .ref (G.2.2.1 139)), (1, .int p1), (2, .int p2), (3, .int p3), (4, .int x3)] → some (x3) = some (y49) → W p l e (rmq 6 141) s m args below meth c H locs 0 0 (MQ below (Qi G r Mr) args s 0 0 (adA G)) (F0 m 27 ls []) := by
    intro x3 H locs ls hW hS hl hE
    cases hE
    refine lv_iload hx hb dX9_lots_27 (lv_at hl 4 rfl) ?_
    refine lv_if_eq (tgt := 39) hx hb dX9_lots_29 (by decide) (fun c5 => ?_) (fun c5 => ?_)
    · have hf := i_t hf c5
      refine lv_aload_n hx hb dX9_lots_39 rfl (lv_at hl 0 rfl) ?_
      refine lv_iload_n hx hb dX9_lots_40 rfl (lv_at hl 2 rfl) ?_
      refine fp9_53 hB hW hS tl139 wd5_132 dX9_lots_41 (fun H locs M6 eM6 hW hS => ?_)
      have hf := nm_o hf eM6
      refine lv_aload_n hx hb dX9_lots_44 rfl (lv_at hl 0 rfl) ?_
      refine fg9_11 hB hW tl139 wd5_90 dX9_lots_45 ?_
      refine lv_topi (fun x7 ex7 => ?_)
      have hf := nm_o hf ex7
      refine lv_istore (lv' := [(5, .int x7), (0, .ref (G.2.2.1 139)), (1, .int p1), (2, .int p2), (3, .int p3), (4, .int y49)]) hx hb dX9_lots_48 hl (by decide) rfl (fun ls hl => ?_)
      refine lv_aload_n hx hb dX9_lots_50 rfl (lv_at hl 1 rfl) ?_
      refine fg9_15 hB hW tl139 wd5_94 dX9_lots_51 ?_
      refine lv_topi (fun x8 ex8 => ?_)
      have hf := nm_o hf ex8
      refine lv_istore (lv' := [(6, .int x8), (5, .int x7), (0, .ref (G.2.2.1 139)), (1, .int p1), (2, .int p2), (3, .int p3), (4, .int y49)]) hx hb dX9_lots_54 hl (by decide) rfl (fun ls hl => ?_)
      refine lv_iconst (v := (0 : Int32)) hx hb dX9_lots_56 (by decide) ?_
      refine lv_istore (lv' := [(7, .int (0 : Int32)), (6, .int x8), (5, .int x7), (0, .ref (G.2.2.1 139)), (1, .int p1), (2, .int p2), (3, .int p3), (4, .int y49)]) hx hb dX9_lots_57 hl (by decide) rfl (fun ls hl => ?_)
      refine lv_iconst (v := (0 : Int32)) hx hb dX9_lots_59 (by decide) ?_
      refine lv_istore (lv' := [(8, .int (0 : Int32)), (7, .int (0 : Int32)), (6, .int x8), (5, .int x7), (0, .ref (G.2.2.1 139)), (1, .int p1), (2, .int p2), (3, .int p3), (4, .int y49)]) hx hb dX9_lots_60 hl (by decide) rfl (fun ls hl => ?_)
      obtain ⟨y18, M19, hL, hf⟩ := b_o2 hf
      have main20 : ∀ (x14 : Int32) (M15 : Mem) (H : Heap) (locs : List Loc) (ls : Array Slot), Wd G M15 H → va_S (adA G) s.heap H locs → lv_has ls 10 [(0, .ref (G.2.2.1 139)), (5, .int x7), (6, .int x8), (7, .int x14)] → some (x14, M15) = some (y18, M19) → W p l e (rmq 6 141) s m args below meth c H locs 0 0 (MQ below (Qi G r Mr) args s 0 0 (adA G)) (F0 m 141 ls []) := by
        intro x14 M15 H locs ls hW hS hl hE
        cases hE
        refine lv_aload_n hx hb dX9_lots_141 rfl (lv_at hl 0 rfl) ?_
        refine lv_iload hx hb dX9_lots_142 (lv_at hl 1 rfl) ?_
        refine fp9_11 hB hW hS tl139 wd5_90 dX9_lots_144 (fun H locs M16 eM16 hW hS => ?_)
        have hf := nm_o hf eM16
        refine lv_aload_n hx hb dX9_lots_147 rfl (lv_at hl 0 rfl) ?_
        refine lv_iload hx hb dX9_lots_148 (lv_at hl 2 rfl) ?_
        refine fp9_15 hB hW hS tl139 wd5_94 dX9_lots_150 (fun H locs M17 eM17 hW hS => ?_)
        have hf := nm_o hf eM17
        refine lv_iload hx hb dX9_lots_153 (lv_at hl 3 rfl) ?_
        exact e_i hB hW hS hr hlk (s_1 hf) (s_2 hf) dX9_lots_155
      have loop13 : ∀ (n : Nat) (x9 : Int32) (x10 : Int32) (M11 : Mem) (H : Heap) (locs : List Loc) (ls : Array Slot), Wd G M11 H → va_S (adA G) s.heap H locs → lv_has ls 10 [(0, .ref (G.2.2.1 139)), (1, .int p1), (3, .int p3), (5, .int x7), (6, .int x8), (7, .int x9), (8, .int x10)] → lq3 (f_X9_lots_L62 p1 p3) n x9 x10 M11 = some (y18, M19) → W p l e (rmq 6 141) s m args below meth c H locs 0 0 (MQ below (Qi G r Mr) args s 0 0 (adA G)) (F0 m 62 ls []) := by
        intro n
        induction n with
        | zero => intro x9 x10 M11 H locs ls hW hS hl hf; exact (l_z3 hf).elim
        | succ n ih =>
          intro x9 x10 M11 H locs ls hW hS hl hf
          have hf := l_s3 hf
          generalize lq3 (f_X9_lots_L62 p1 p3) n = K12 at ih hf
          unfold f_X9_lots_L62 at hf
          refine lv_iload hx hb dX9_lots_62 (lv_at hl 6 rfl) ?_
          refine lv_iload_n hx hb dX9_lots_64 rfl (lv_at hl 1 rfl) ?_
          refine lv_icmp_ge (tgt := 141) hx hb dX9_lots_65 (by decide) (fun c21 => ?_) (fun c21 => ?_)
          · have hf := i_t hf c21
            exact main20 x9 M11 _ _ ls hW hS (lv_sub hl [0, 3, 4, 5] rfl) hf
          · have hf := i_f hf c21
            refine lv_aload_n hx hb dX9_lots_68 rfl (lv_at hl 0 rfl) ?_
            refine lv_aload_n hx hb dX9_lots_69 rfl (lv_at hl 0 rfl) ?_
            refine lv_bipush (v := (41 : Int32)) hx hb dX9_lots_70 (by decide) ?_
            obtain ⟨x22, M23, hg24, hf⟩ := b_o2 hf
            refine x_ci hB (x_rv hB hW hS (As := [.int (41 : Int32)]) (rest := [.ref (G.2.2.1 139)]) (ct_X9_draw l G hg24) (cl_RX9_409 hB.2.2.2.2.1 ⟨Nat.le_of_ble_eq_true rfl, Nat.le_of_ble_eq_true rfl⟩) tl139 (by decide) rfl rfl hl.1 rfl (Nat.le_of_ble_eq_true rfl) dX9_lots_72 ⟨Nat.le_refl _, Nat.le_refl _⟩) hS (fun H locs hW hS => ?_)
            refine lv_bipush (v := (10 : Int32)) hx hb dX9_lots_75 (by decide) ?_
            refine lv_iadd hx hb dX9_lots_77 ?_
            refine fp9_11 hB hW hS tl139 wd5_90 dX9_lots_78 (fun H locs M25 eM25 hW hS => ?_)
            have hf := nm_o hf eM25
            refine lv_aload_n hx hb dX9_lots_81 rfl (lv_at hl 0 rfl) ?_
            refine lv_aload_n hx hb dX9_lots_82 rfl (lv_at hl 0 rfl) ?_
            refine lv_bipush (v := (41 : Int32)) hx hb dX9_lots_83 (by decide) ?_
            obtain ⟨x26, M27, hg28, hf⟩ := b_o2 hf
            refine x_ci hB (x_rv hB hW hS (As := [.int (41 : Int32)]) (rest := [.ref (G.2.2.1 139)]) (ct_X9_draw l G hg28) (cl_RX9_409 hB.2.2.2.2.1 ⟨Nat.le_of_ble_eq_true rfl, Nat.le_of_ble_eq_true rfl⟩) tl139 (by decide) rfl rfl hl.1 rfl (Nat.le_of_ble_eq_true rfl) dX9_lots_85 ⟨Nat.le_refl _, Nat.le_refl _⟩) hS (fun H locs hW hS => ?_)
            refine fp9_15 hB hW hS tl139 wd5_94 dX9_lots_88 (fun H locs M29 eM29 hW hS => ?_)
            have hf := nm_o hf eM29
            refine lv_aload_n hx hb dX9_lots_91 rfl (lv_at hl 0 rfl) ?_
            obtain ⟨x30, M31, hg32, hf⟩ := b_o2 hf
            refine x_ci hB (x_rv hB hW hS (As := []) (rest := []) (ct_X9_findLines l G hg32) (cl_RX9_214 hB.2.2.2.2.1 ⟨Nat.le_of_ble_eq_true rfl, Nat.le_of_ble_eq_true rfl⟩) tl139 (by decide) rfl rfl hl.1 rfl (Nat.le_of_ble_eq_true rfl) dX9_lots_92 ⟨Nat.le_refl _, Nat.le_refl _⟩) hS (fun H locs hW hS => ?_)
            refine lv_istore (lv' := [(9, .int x30), (0, .ref (G.2.2.1 139)), (1, .int p1), (3, .int p3), (5, .int x7), (6, .int x8), (7, .int x9), (8, .int x10)]) hx hb dX9_lots_95 hl (by decide) rfl (fun ls hl => ?_)
            refine lv_iload_n hx hb dX9_lots_97 rfl (lv_at hl 3 rfl) ?_
            refine lv_if_ne (tgt := 120) hx hb dX9_lots_98 (by decide) (fun c33 => ?_) (fun c33 => ?_)
            · have hf := i_f hf c33
              refine lv_iload hx hb dX9_lots_120 (lv_at hl 6 rfl) ?_
              refine lv_iload hx hb dX9_lots_122 (lv_at hl 0 rfl) ?_
              obtain ⟨y38, evy38⟩ : ∃ z : Int32, (if 0 ≤ x30 then ((0 : Int32)) else ((1 : Int32))) = z := ⟨_, rfl⟩
              have hf := nm_o hf evy38.symm
              have main35 : ∀ (x34 : Int32) (H : Heap) (locs : List Loc) (ls : Array Slot), Wd G M31 H → va_S (adA G) s.heap H locs → lv_has ls 10 [(0, .ref (G.2.2.1 139)), (1, .int p1), (3, .int p3), (5, .int x7), (6, .int x8), (8, .int x10)] → x34 = y38 → W p l e (rmq 6 141) s m args below meth c H locs 0 0 (MQ below (Qi G r Mr) args s 0 0 (adA G)) (F0 m 132 ls [.int x34, .int x9]) := by
                intro x34 H locs ls hW hS hl hE
                have hE := hE.symm
                subst hE
                refine lv_iadd hx hb dX9_lots_132 ?_
                refine lv_topi (fun x36 ex36 => ?_)
                have hf := nm_o hf ex36
                refine lv_istore (lv' := [(7, .int x36), (0, .ref (G.2.2.1 139)), (1, .int p1), (3, .int p3), (5, .int x7), (6, .int x8), (8, .int x10)]) hx hb dX9_lots_133 hl (by decide) rfl (fun ls hl => ?_)
                obtain ⟨x37, ex37⟩ : ∃ y : Int32, y = x10 + (1 : Int32) := ⟨_, rfl⟩
                have hf := nm_o hf ex37
                refine lv_iinc (v := x37) (lv' := [(8, .int x37), (7, .int x36), (0, .ref (G.2.2.1 139)), (1, .int p1), (3, .int p3), (5, .int x7), (6, .int x8)]) hx hb dX9_lots_135 hl (k := 6) rfl (by rw [ex37]; rfl) (by decide) rfl (fun ls hl => ?_)
                refine lv_goto (tgt := 62) hx hb dX9_lots_138 (by decide) ?_
                exact ih x36 x37 M31 _ _ ls hW hS (lv_sub hl [2, 3, 4, 5, 6, 1, 0] rfl) hf
              have hf := evy38
              refine lv_if_ge (tgt := 131) hx hb dX9_lots_124 (by decide) (fun c39 => ?_) (fun c39 => ?_)
              · have hf := i_t hf c39
                refine lv_iconst (v := (0 : Int32)) hx hb dX9_lots_131 (by decide) ?_
                exact main35 (0 : Int32) _ _ ls hW hS (lv_sub hl [1, 2, 3, 4, 5, 7] rfl) hf
              · have hf := i_f hf c39
                refine lv_iconst (v := (1 : Int32)) hx hb dX9_lots_127 (by decide) ?_
                refine lv_goto (tgt := 132) hx hb dX9_lots_128 (by decide) ?_
                exact main35 (1 : Int32) _ _ ls hW hS (lv_sub hl [1, 2, 3, 4, 5, 7] rfl) hf
            · have hf := i_t hf c33
              refine lv_iload hx hb dX9_lots_101 (lv_at hl 6 rfl) ?_
              refine lv_iload hx hb dX9_lots_103 (lv_at hl 0 rfl) ?_
              obtain ⟨y44, evy44⟩ : ∃ z : Int32, (if 0 ≤ x30 then (x30) else ((0 : Int32))) = z := ⟨_, rfl⟩
              have hf := nm_o hf evy44.symm
              have main41 : ∀ (x40 : Int32) (H : Heap) (locs : List Loc) (ls : Array Slot), Wd G M31 H → va_S (adA G) s.heap H locs → lv_has ls 10 [(0, .ref (G.2.2.1 139)), (1, .int p1), (3, .int p3), (5, .int x7), (6, .int x8), (8, .int x10)] → x40 = y44 → W p l e (rmq 6 141) s m args below meth c H locs 0 0 (MQ below (Qi G r Mr) args s 0 0 (adA G)) (F0 m 114 ls [.int x40, .int x9]) := by
                intro x40 H locs ls hW hS hl hE
                have hE := hE.symm
                subst hE
                refine lv_iadd hx hb dX9_lots_114 ?_
                refine lv_topi (fun x42 ex42 => ?_)
                have hf := nm_o hf ex42
                refine lv_istore (lv' := [(7, .int x42), (0, .ref (G.2.2.1 139)), (1, .int p1), (3, .int p3), (5, .int x7), (6, .int x8), (8, .int x10)]) hx hb dX9_lots_115 hl (by decide) rfl (fun ls hl => ?_)
                refine lv_goto (tgt := 135) hx hb dX9_lots_117 (by decide) ?_
                obtain ⟨x43, ex43⟩ : ∃ y : Int32, y = x10 + (1 : Int32) := ⟨_, rfl⟩
                have hf := nm_o hf ex43
                refine lv_iinc (v := x43) (lv' := [(8, .int x43), (7, .int x42), (0, .ref (G.2.2.1 139)), (1, .int p1), (3, .int p3), (5, .int x7), (6, .int x8)]) hx hb dX9_lots_135 hl (k := 6) rfl (by rw [ex43]; rfl) (by decide) rfl (fun ls hl => ?_)
                refine lv_goto (tgt := 62) hx hb dX9_lots_138 (by decide) ?_
                exact ih x42 x43 M31 _ _ ls hW hS (lv_sub hl [2, 3, 4, 5, 6, 1, 0] rfl) hf
              have hf := evy44
              refine lv_if_ge (tgt := 112) hx hb dX9_lots_105 (by decide) (fun c45 => ?_) (fun c45 => ?_)
              · have hf := i_t hf c45
                refine lv_iload hx hb dX9_lots_112 (lv_at hl 0 rfl) ?_
                exact main41 x30 _ _ ls hW hS (lv_sub hl [1, 2, 3, 4, 5, 7] rfl) hf
              · have hf := i_f hf c45
                refine lv_iconst (v := (0 : Int32)) hx hb dX9_lots_108 (by decide) ?_
                refine lv_goto (tgt := 114) hx hb dX9_lots_109 (by decide) ?_
                exact main41 (0 : Int32) _ _ ls hW hS (lv_sub hl [1, 2, 3, 4, 5, 7] rfl) hf
      exact loop13 FU (0 : Int32) (0 : Int32) M6 _ _ ls hW hS (lv_sub hl [4, 5, 7, 3, 2, 1, 0] rfl) hL
    · have hf := i_f hf c5
      refine lv_aload_n hx hb dX9_lots_32 rfl (lv_at hl 0 rfl) ?_
      refine lv_iload hx hb dX9_lots_33 (lv_at hl 4 rfl) ?_
      obtain ⟨x46, M47, hg48, hf⟩ := b_o2 hf
      refine x_ci hB (x_rv hB hW hS (As := [.int y49]) (rest := []) (ct_X9_no l G hg48) (cl_RX9_224 hB.2.2.2.2.1 ⟨Nat.le_of_ble_eq_true rfl, Nat.le_of_ble_eq_true rfl⟩) tl139 (by decide) rfl rfl hl.1 rfl (Nat.le_of_ble_eq_true rfl) dX9_lots_35 ⟨Nat.le_refl _, Nat.le_refl _⟩) hS (fun H locs hW hS => ?_)
      exact e_i hB hW hS hr hlk (s_1 hf) (s_2 hf) dX9_lots_38
  have hf := hR
  refine lv_if_ne (tgt := 27) hx hb dX9_lots_11 (by decide) (fun c50 => ?_) (fun c50 => ?_)
  · have hf := i_f hf c50
    exact main4 x1 _ _ ls hW hS (lv_sub hl [1, 2, 3, 4, 0] rfl) hf
  · have hf := i_t hf c50
    refine lv_iload_n hx hb dX9_lots_14 rfl (lv_at hl 4 rfl) ?_
    refine lv_iconst (v := (0 : Int32)) hx hb dX9_lots_15 (by decide) ?_
    refine lv_iconst (v := (1 : Int32)) hx hb dX9_lots_16 (by decide) ?_
    obtain ⟨x51, hg52, hf⟩ := b_o1 hf
    refine x_ci hB (x_rs hB hW hS (As := [.int p3, .int (0 : Int32), .int (1 : Int32)]) (rest := []) (ct_X9_isIn l G hg52) (cl_RX9_125 hB.2.2.2.2.1 ⟨Nat.le_of_ble_eq_true rfl, Nat.le_of_ble_eq_true rfl⟩) rfl hl.1 rfl (Nat.le_of_ble_eq_true rfl) dX9_lots_17 ⟨Nat.le_refl _, Nat.le_refl _⟩) hS (fun H locs hW hS => ?_)
    refine lv_if_ne (tgt := 27) hx hb dX9_lots_20 (by decide) (fun c53 => ?_) (fun c53 => ?_)
    · have hf := i_f hf c53
      exact main4 x1 _ _ ls hW hS (lv_sub hl [1, 2, 3, 4, 0] rfl) hf
    · have hf := i_t hf c53
      refine lv_bipush (v := (-2 : Int32)) hx hb dX9_lots_23 (by decide) ?_
      refine lv_istore (lv' := [(4, .int (-2 : Int32)), (0, .ref (G.2.2.1 139)), (1, .int p1), (2, .int p2), (3, .int p3)]) hx hb dX9_lots_25 hl (by decide) rfl (fun ls hl => ?_)
      exact main4 (-2 : Int32) _ _ ls hW hS (lv_sub hl [1, 2, 3, 4, 0] rfl) hf
def f_X9_allLetters_L4 (M : Mem) (K3 : Int32 → Int32 → Option (Int32)) (x1 : Int32) (x2 : Int32) : Option (Int32) := (if (gi M 139 9) ≤ x2 then (some (x1)) else (gq (inB x2 16) (nmq ((x1 + (gi M 142 ((x2 : Int32).toNatClampNeg)))) (fun (x10 : Int32) => nmq (x2 + (1 : Int32)) (fun (x11 : Int32) => (K3 x10 x11))))))
def f_X9_allLetters (M : Mem) : Option Int32 := (bq1 (lq2 (f_X9_allLetters_L4 M) FU (0 : Int32) (0 : Int32)) (fun (x5 : Int32) => some x5))
set_option maxHeartbeats 4000000 in
set_option maxRecDepth 100000 in
theorem ct_X9_allLetters (l : Launch) (G : GG)  {M : Mem} {r : Int32}  (hf : f_X9_allLetters M = some r) : Met l yX9_allLetters (wsq yX9_allLetters cX9_allLetters 3 (some .int)) (rmq 0 0) (va_Pc [.ref (G.2.2.1 139)] (World G M)) (Qi G r M) 0 0 (adA G) := by
  refine x_start (plainFor_of_name (by decide)) (Nat.le_of_ble_eq_true rfl) ?_
  intro p e s m args below meth c hB hr hlk hW hS ls hl
  have hx := hB.x
  have hb := hB.b
  have hl : lv_has ls 3 [(0, .ref (G.2.2.1 139))] := hl
  unfold f_X9_allLetters at hf
  refine lv_iconst (v := (0 : Int32)) hx hb dX9_allLetters_0 (by decide) ?_
  refine lv_istore_n (lv' := [(1, .int (0 : Int32)), (0, .ref (G.2.2.1 139))]) hx hb dX9_allLetters_1 rfl hl (by decide) rfl (fun ls hl => ?_)
  refine lv_iconst (v := (0 : Int32)) hx hb dX9_allLetters_2 (by decide) ?_
  refine lv_istore_n (lv' := [(2, .int (0 : Int32)), (1, .int (0 : Int32)), (0, .ref (G.2.2.1 139))]) hx hb dX9_allLetters_3 rfl hl (by decide) rfl (fun ls hl => ?_)
  obtain ⟨y6, hL, hf⟩ := b_o1 hf
  have main7 : ∀ (x5 : Int32) (H : Heap) (locs : List Loc) (ls : Array Slot), Wd G M H → va_S (adA G) s.heap H locs → lv_has ls 3 [(1, .int x5)] → some (x5) = some (y6) → W p l e (rmq 0 0) s m args below meth c H locs 0 0 (MQ below (Qi G r M) args s 0 0 (adA G)) (F0 m 27 ls []) := by
    intro x5 H locs ls hW hS hl hE
    cases hE
    refine lv_iload_n hx hb dX9_allLetters_27 rfl (lv_at hl 0 rfl) ?_
    exact e_i hB hW hS hr hlk (Option.some.inj hf) rfl dX9_allLetters_28
  have loop4 : ∀ (n : Nat) (x1 : Int32) (x2 : Int32) (H : Heap) (locs : List Loc) (ls : Array Slot), Wd G M H → va_S (adA G) s.heap H locs → lv_has ls 3 [(0, .ref (G.2.2.1 139)), (1, .int x1), (2, .int x2)] → lq2 (f_X9_allLetters_L4 M) n x1 x2 = some (y6) → W p l e (rmq 0 0) s m args below meth c H locs 0 0 (MQ below (Qi G r M) args s 0 0 (adA G)) (F0 m 4 ls []) := by
    intro n
    induction n with
    | zero => intro x1 x2 H locs ls hW hS hl hf; exact (l_z2 hf).elim
    | succ n ih =>
      intro x1 x2 H locs ls hW hS hl hf
      have hf := l_s2 hf
      generalize lq2 (f_X9_allLetters_L4 M) n = K3 at ih hf
      unfold f_X9_allLetters_L4 at hf
      refine lv_iload_n hx hb dX9_allLetters_4 rfl (lv_at hl 2 rfl) ?_
      refine lv_aload_n hx hb dX9_allLetters_5 rfl (lv_at hl 0 rfl) ?_
      refine fg9_9 hB hW tl139 wd5_88 dX9_allLetters_6 ?_
      refine lv_icmp_ge (tgt := 27) hx hb dX9_allLetters_9 (by decide) (fun c8 => ?_) (fun c8 => ?_)
      · have hf := i_t hf c8
        exact main7 x1 _ _ ls hW hS (lv_sub hl [1] rfl) hf
      · have hf := i_f hf c8
        refine lv_iload_n hx hb dX9_allLetters_12 rfl (lv_at hl 1 rfl) ?_
        refine lv_aload_n hx hb dX9_allLetters_13 rfl (lv_at hl 0 rfl) ?_
        refine fg9_2 hB hW tl139 wd5_81 dX9_allLetters_14 ?_
        refine lv_iload_n hx hb dX9_allLetters_17 rfl (lv_at hl 2 rfl) ?_
        obtain ⟨h9, hf⟩ := g_o hf
        refine x_iald hB hW tl142 al142 h9 dX9_allLetters_18 ?_
        refine lv_iadd hx hb dX9_allLetters_19 ?_
        refine lv_topi (fun x10 ex10 => ?_)
        have hf := nm_o hf ex10
        refine lv_istore_n (lv' := [(1, .int x10), (0, .ref (G.2.2.1 139)), (2, .int x2)]) hx hb dX9_allLetters_20 rfl hl (by decide) rfl (fun ls hl => ?_)
        obtain ⟨x11, ex11⟩ : ∃ y : Int32, y = x2 + (1 : Int32) := ⟨_, rfl⟩
        have hf := nm_o hf ex11
        refine lv_iinc (v := x11) (lv' := [(2, .int x11), (1, .int x10), (0, .ref (G.2.2.1 139))]) hx hb dX9_allLetters_21 hl (k := 2) rfl (by rw [ex11]; rfl) (by decide) rfl (fun ls hl => ?_)
        refine lv_goto (tgt := 4) hx hb dX9_allLetters_24 (by decide) ?_
        exact ih x10 x11 _ _ ls hW hS (lv_sub hl [2, 1, 0] rfl) hf
  exact loop4 FU (0 : Int32) (0 : Int32) _ _ ls hW hS (lv_sub hl [2, 1, 0] rfl) hL
theorem cl_RX9_412 {R : Room} {s : State} {args : Array Value} (ht : ∀ w ∈ lw_all, w.before args s = true) (hR : 0 + 1 ≤ R.frames ∧ 8 + (3 + 11) + 0 ≤ R.locals) : CallW R s args RX9 RX9 412 yX9_allLetters cX9_allLetters 3 (some .int) (wsq yX9_allLetters cX9_allLetters 3 (some .int)) (rmq 0 0) 0 0 0 := cwV 0 ht (goodV wd7_211 wd7_213 wsel_96 wd1_10 wd7_214) rfl rfl rfl (by decide +kernel) hR
def f_X9_count (p1 : Int32) (M : Mem) : Option Int32 := (bq1 (f_X9_isIn p1 (11 : Int32) (16 : Int32)) (fun (x1 : Int32) => (if x1 = 0 then (if p1 = (0 : Int32) then some (gi M 139 9) else if p1 = (1 : Int32) then some (gi M 139 10) else if p1 = (2 : Int32) then (bq1 (f_X9_allLetters M) (fun (x7 : Int32) => some x7)) else if p1 = (3 : Int32) then some (gi M 139 11) else if p1 = (4 : Int32) then some (gi M 139 19) else if p1 = (5 : Int32) then some (gi M 139 46) else if p1 = (6 : Int32) then some (gi M 139 52) else if p1 = (7 : Int32) then some (gi M 139 36) else some (-9 : Int32)) else (gq (inB (p1 - (10 : Int32)) 7) (some (gi M 140 (((p1 - (10 : Int32)) : Int32).toNatClampNeg)))))))
set_option maxHeartbeats 4000000 in
set_option maxRecDepth 100000 in
theorem ct_X9_count (l : Launch) (G : GG) {p1 : Int32} {M : Mem} {r : Int32}  (hf : f_X9_count p1 M = some r) : Met l yX9_count (wsq yX9_count cX9_count 2 (some .int)) (rmq 1 22) (va_Pc [.ref (G.2.2.1 139), .int p1] (World G M)) (Qi G r M) 0 0 (adA G) := by
  refine x_start (plainFor_of_name (by decide)) (Nat.le_of_ble_eq_true rfl) ?_
  intro p e s m args below meth c hB hr hlk hW hS ls hl
  have hx := hB.x
  have hb := hB.b
  have hl : lv_has ls 2 [(0, .ref (G.2.2.1 139)), (1, .int p1)] := hl
  unfold f_X9_count at hf
  refine lv_iload_n hx hb dX9_count_0 rfl (lv_at hl 1 rfl) ?_
  refine lv_bipush (v := (11 : Int32)) hx hb dX9_count_1 (by decide) ?_
  refine lv_bipush (v := (16 : Int32)) hx hb dX9_count_3 (by decide) ?_
  obtain ⟨x1, hg2, hf⟩ := b_o1 hf
  refine x_ci hB (x_rs hB hW hS (As := [.int p1, .int (11 : Int32), .int (16 : Int32)]) (rest := []) (ct_X9_isIn l G hg2) (cl_RX9_125 hB.2.2.2.2.1 ⟨Nat.le_of_ble_eq_true rfl, Nat.le_of_ble_eq_true rfl⟩) rfl hl.1 rfl (Nat.le_of_ble_eq_true rfl) dX9_count_5 ⟨Nat.le_refl _, Nat.le_refl _⟩) hS (fun H locs hW hS => ?_)
  refine lv_if_eq (tgt := 21) hx hb dX9_count_8 (by decide) (fun c3 => ?_) (fun c3 => ?_)
  · have hf := i_t hf c3
    refine lv_iload_n hx hb dX9_count_21 rfl (lv_at hl 1 rfl) ?_
    by_cases c4 : p1 = (0 : Int32)
    · have hf := i_t hf c4
      refine lv_tableIn (tgt := 68) hx hb dX9_count_22 (by rw [c4]; decide) (by rw [c4]; decide) (by rw [c4] <;> rfl) (by decide) ?_
      refine lv_aload_n hx hb dX9_count_68 rfl (lv_at hl 0 rfl) ?_
      refine fg9_9 hB hW tl139 wd5_88 dX9_count_69 ?_
      exact e_i hB hW hS hr hlk (Option.some.inj hf) rfl dX9_count_72
    · have hf := i_f hf c4
      by_cases c5 : p1 = (1 : Int32)
      · have hf := i_t hf c5
        refine lv_tableIn (tgt := 73) hx hb dX9_count_22 (by rw [c5]; decide) (by rw [c5]; decide) (by rw [c5] <;> rfl) (by decide) ?_
        refine lv_aload_n hx hb dX9_count_73 rfl (lv_at hl 0 rfl) ?_
        refine fg9_10 hB hW tl139 wd5_89 dX9_count_74 ?_
        exact e_i hB hW hS hr hlk (Option.some.inj hf) rfl dX9_count_77
      · have hf := i_f hf c5
        by_cases c6 : p1 = (2 : Int32)
        · have hf := i_t hf c6
          refine lv_tableIn (tgt := 78) hx hb dX9_count_22 (by rw [c6]; decide) (by rw [c6]; decide) (by rw [c6] <;> rfl) (by decide) ?_
          refine lv_aload_n hx hb dX9_count_78 rfl (lv_at hl 0 rfl) ?_
          obtain ⟨x7, hg8, hf⟩ := b_o1 hf
          refine x_ci hB (x_rv hB hW hS (As := []) (rest := []) (ct_X9_allLetters l G hg8) (cl_RX9_412 hB.2.2.2.2.1 ⟨Nat.le_of_ble_eq_true rfl, Nat.le_of_ble_eq_true rfl⟩) tl139 (by decide) rfl rfl hl.1 rfl (Nat.le_of_ble_eq_true rfl) dX9_count_79 ⟨Nat.le_refl _, Nat.le_refl _⟩) hS (fun H locs hW hS => ?_)
          exact e_i hB hW hS hr hlk (Option.some.inj hf) rfl dX9_count_82
        · have hf := i_f hf c6
          by_cases c9 : p1 = (3 : Int32)
          · have hf := i_t hf c9
            refine lv_tableIn (tgt := 83) hx hb dX9_count_22 (by rw [c9]; decide) (by rw [c9]; decide) (by rw [c9] <;> rfl) (by decide) ?_
            refine lv_aload_n hx hb dX9_count_83 rfl (lv_at hl 0 rfl) ?_
            refine fg9_11 hB hW tl139 wd5_90 dX9_count_84 ?_
            exact e_i hB hW hS hr hlk (Option.some.inj hf) rfl dX9_count_87
          · have hf := i_f hf c9
            by_cases c10 : p1 = (4 : Int32)
            · have hf := i_t hf c10
              refine lv_tableIn (tgt := 88) hx hb dX9_count_22 (by rw [c10]; decide) (by rw [c10]; decide) (by rw [c10] <;> rfl) (by decide) ?_
              refine lv_aload_n hx hb dX9_count_88 rfl (lv_at hl 0 rfl) ?_
              refine fg9_19 hB hW tl139 wd5_98 dX9_count_89 ?_
              exact e_i hB hW hS hr hlk (Option.some.inj hf) rfl dX9_count_92
            · have hf := i_f hf c10
              by_cases c11 : p1 = (5 : Int32)
              · have hf := i_t hf c11
                refine lv_tableIn (tgt := 93) hx hb dX9_count_22 (by rw [c11]; decide) (by rw [c11]; decide) (by rw [c11] <;> rfl) (by decide) ?_
                refine lv_aload_n hx hb dX9_count_93 rfl (lv_at hl 0 rfl) ?_
                refine fg9_46 hB hW tl139 wd5_125 dX9_count_94 ?_
                exact e_i hB hW hS hr hlk (Option.some.inj hf) rfl dX9_count_97
              · have hf := i_f hf c11
                by_cases c12 : p1 = (6 : Int32)
                · have hf := i_t hf c12
                  refine lv_tableIn (tgt := 98) hx hb dX9_count_22 (by rw [c12]; decide) (by rw [c12]; decide) (by rw [c12] <;> rfl) (by decide) ?_
                  refine lv_aload_n hx hb dX9_count_98 rfl (lv_at hl 0 rfl) ?_
                  refine fg9_52 hB hW tl139 wd5_131 dX9_count_99 ?_
                  exact e_i hB hW hS hr hlk (Option.some.inj hf) rfl dX9_count_102
                · have hf := i_f hf c12
                  by_cases c13 : p1 = (7 : Int32)
                  · have hf := i_t hf c13
                    refine lv_tableIn (tgt := 103) hx hb dX9_count_22 (by rw [c13]; decide) (by rw [c13]; decide) (by rw [c13] <;> rfl) (by decide) ?_
                    refine lv_aload_n hx hb dX9_count_103 rfl (lv_at hl 0 rfl) ?_
                    refine fg9_36 hB hW tl139 wd5_115 dX9_count_104 ?_
                    exact e_i hB hW hS hr hlk (Option.some.inj hf) rfl dX9_count_107
                  · have hf := i_f hf c13
                    refine lv_tableOut (tgt := 108) hx hb dX9_count_22 (sw_out (lo := 0) (hi := 7) (fun v h1 h2 hv => ?_)) (by decide) ?_
                    · rcases (show v = 0 ∨ v = 1 ∨ v = 2 ∨ v = 3 ∨ v = 4 ∨ v = 5 ∨ v = 6 ∨ v = 7 by omega) with rfl | rfl | rfl | rfl | rfl | rfl | rfl | rfl
                      · exact c4 hv
                      · exact c5 hv
                      · exact c6 hv
                      · exact c9 hv
                      · exact c10 hv
                      · exact c11 hv
                      · exact c12 hv
                      · exact c13 hv
                    · skip
                      refine lv_bipush (v := (-9 : Int32)) hx hb dX9_count_108 (by decide) ?_
                      exact e_i hB hW hS hr hlk (Option.some.inj hf) rfl dX9_count_110
  · have hf := i_f hf c3
    refine lv_aload_n hx hb dX9_count_11 rfl (lv_at hl 0 rfl) ?_
    refine fg9_0 hB hW tl139 wd5_79 dX9_count_12 ?_
    refine lv_iload_n hx hb dX9_count_15 rfl (lv_at hl 1 rfl) ?_
    refine lv_bipush (v := (10 : Int32)) hx hb dX9_count_16 (by decide) ?_
    refine lv_isub hx hb dX9_count_18 ?_
    obtain ⟨h14, hf⟩ := g_o hf
    refine x_iald hB hW tl140 al140 h14 dX9_count_19 ?_
    exact e_i hB hW hS hr hlk (Option.some.inj hf) rfl dX9_count_20
