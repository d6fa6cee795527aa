def f_X8_drawBelow41 (M : Mem) : Option (Int32 × Mem) := (nmq (si M 0 10 (((gi M 0 10) * (1664525 : Int32)) + (1013904223 : Int32))) (fun (M1 : Mem) => some ((irm (((gi M1 0 10) &&& (2147483647 : Int32)) / (256 : Int32)) (41 : Int32)), M1)))
set_option maxHeartbeats 4000000 in
set_option maxRecDepth 100000 in
theorem ct_X8_drawBelow41 (l : Launch) (G : GG)  {M : Mem} {r : Int32} {Mr : Mem}  (hf : f_X8_drawBelow41 M = some (r, Mr)) : Met l yX8_drawBelow41 (wsq yX8_drawBelow41 cX8_drawBelow41 1 (some .int)) (rmq 0 0) (va_Pc [.ref (G.2.2.1 0)] (World G M)) (Qi G r Mr) 0 0 (adA G) := by
  refine x_start (plainFor_of_name (by decide)) (Nat.le_of_ble_eq_true rfl) ?_
  intro p e s m args below meth c hB hr hlk hW hS ls hl
  have hx := hB.x
  have hb := hB.b
  have hl : lv_has ls 1 [(0, .ref (G.2.2.1 0))] := hl
  unfold f_X8_drawBelow41 at hf
  refine lv_aload_n hx hb dX8_drawBelow41_0 rfl (lv_at hl 0 rfl) ?_
  refine lv_aload_n hx hb dX8_drawBelow41_1 rfl (lv_at hl 0 rfl) ?_
  refine fg8_10 hB hW tl0 wd2_101 dX8_drawBelow41_2 ?_
  refine lv_ldcw (v := (1664525 : Int32)) hx hb hB.ow (hB.w wd5_54) dX8_drawBelow41_5 ?_
  refine lv_imul hx hb dX8_drawBelow41_8 ?_
  refine lv_ldcw (v := (1013904223 : Int32)) hx hb hB.ow (hB.w wd5_55) dX8_drawBelow41_9 ?_
  refine lv_iadd hx hb dX8_drawBelow41_12 ?_
  refine fp8_10 hB hW hS tl0 wd2_101 dX8_drawBelow41_13 (fun H locs M1 eM1 hW hS => ?_)
  have hf := nm_o hf eM1
  refine lv_aload_n hx hb dX8_drawBelow41_16 rfl (lv_at hl 0 rfl) ?_
  refine fg8_10 hB hW tl0 wd2_101 dX8_drawBelow41_17 ?_
  refine lv_ldcw (v := (2147483647 : Int32)) hx hb hB.ow (hB.w wd5_56) dX8_drawBelow41_20 ?_
  refine lv_iand hx hb dX8_drawBelow41_23 ?_
  refine lv_sipush (v := (256 : Int32)) hx hb dX8_drawBelow41_24 (by decide) ?_
  refine lv_idiv hx hb dX8_drawBelow41_27 (by decide) ?_
  refine lv_bipush (v := (41 : Int32)) hx hb dX8_drawBelow41_28 (by decide) ?_
  refine lv_irem hx hb dX8_drawBelow41_30 (by decide) ?_
  exact e_i hB hW hS hr hlk (s_1 hf) (s_2 hf) dX8_drawBelow41_31
theorem cl_RX8_351 {R : Room} {s : State} {args : Array Value} (ht : ∀ w ∈ lw_all, w.before args s = true) (hR : 0 + 1 ≤ R.frames ∧ 8 + (1 + 11) + 0 ≤ R.locals) : CallW R s args RX8 RX8 351 yX8_drawBelow41 cX8_drawBelow41 1 (some .int) (wsq yX8_drawBelow41 cX8_drawBelow41 1 (some .int)) (rmq 0 0) 0 0 0 := cwV 0 ht (goodV wd5_50 wd5_52 wsel_35 wd1_1 wd5_53) rfl rfl rfl (by decide +kernel) hR
def f_X8_lots_L54 (p1 : Int32) (K14 : Int32 → Int32 → Int32 → Mem → Option (Int32 × Int32 × Mem)) (x10 : Int32) (x11 : Int32) (x12 : Int32) (M13 : Mem) : Option (Int32 × Int32 × Mem) := (if p1 ≤ x12 then (some (x10, x11, M13)) else (bq2 (f_X8_drawBelow41 M13) (fun (x25 : Int32) (M26 : Mem) => nmq (((10 : Int32) + x25)) (fun (x28 : Int32) => bq2 (f_X8_drawBelow41 M26) (fun (x29 : Int32) (M30 : Mem) => nmq (si M30 12 7 x29) (fun (M32 : Mem) => bq2 (f_X8_linesWith x28 M32) (fun (x33 : Int32) (M34 : Mem) => (if x33 = (-9 : Int32) then (nmq (x11 + (1 : Int32)) (fun (x39 : Int32) => (nmq (x12 + (1 : Int32)) (fun (x40 : Int32) => (K14 x10 x39 x40 M34))))) else (nmq ((x10 + x33)) (fun (x37 : Int32) => (nmq (x12 + (1 : Int32)) (fun (x38 : Int32) => (K14 x37 x11 x38 M34)))))))))))))
def f_X8_lots (p1 : Int32) (p2 : Int32) (p3 : Int32) (M : Mem) : Option (Int32 × Mem) := (bq1 (f_X8_outside p1 (1 : Int32) (20 : Int32)) (fun (x1 : Int32) => (if x1 = 0 then (bq1 (f_X8_isOther p3 (2 : Int32)) (fun (x4 : Int32) => (if x4 = 0 then (bq1 (f_X8_beginTrial M) (fun (M7 : Mem) => nmq (si M7 0 10 p2) (fun (M9 : Mem) => (bq3 (lq4 (f_X8_lots_L54 p1) FU (0 : Int32) (0 : Int32) (0 : Int32) M9) (fun (x16 : Int32) (x17 : Int32) (M18 : Mem) => (if p3 = 0 then some (x16, M18) else some (x17, M18))))))) else (bq2 (f_X8_refuse (-2 : Int32) M) (fun (x41 : Int32) (M42 : Mem) => some (x41, M42)))))) else (bq2 (f_X8_refuse x1 M) (fun (x44 : Int32) (M45 : Mem) => some (x44, M45))))))
set_option maxHeartbeats 4000000 in
set_option maxRecDepth 100000 in
theorem ct_X8_lots (l : Launch) (G : GG) {p1 : Int32} {p2 : Int32} {p3 : Int32} {M : Mem} {r : Int32} {Mr : Mem}  (hf : f_X8_lots p1 p2 p3 M = some (r, Mr)) : Met l yX8_lots (wsq yX8_lots cX8_lots 10 (some .int)) (rmq 6 150) (va_Pc [.ref (G.2.2.1 0), .int p1, .int p2, .int p3] (World G M)) (Qi G r Mr) 0 0 (adA G) := by
  refine x_start (plainFor_of_name (by decide)) (Nat.le_of_ble_eq_true rfl) ?_
  intro p e s m args below meth c hB hr hlk hW hS ls hl
  have hx := hB.x
  have hb := hB.b
  have hl : lv_has ls 10 [(0, .ref (G.2.2.1 0)), (1, .int p1), (2, .int p2), (3, .int p3)] := hl
  unfold f_X8_lots at hf
  refine lv_iload_n hx hb dX8_lots_0 rfl (lv_at hl 1 rfl) ?_
  refine lv_iconst (v := (1 : Int32)) hx hb dX8_lots_1 (by decide) ?_
  refine lv_bipush (v := (20 : Int32)) hx hb dX8_lots_2 (by decide) ?_
  obtain ⟨x1, hg2, hf⟩ := b_o1 hf
  refine x_ci hB (x_rs hB hW hS (As := [.int p1, .int (1 : Int32), .int (20 : Int32)]) (rest := []) (ct_X8_outside l G hg2) (cl_RX8_85 hB.2.2.2.2.1 ⟨Nat.le_of_ble_eq_true rfl, Nat.le_of_ble_eq_true rfl⟩) rfl hl.1 rfl (Nat.le_of_ble_eq_true rfl) dX8_lots_4 ⟨Nat.le_refl _, Nat.le_refl _⟩) hS (fun H locs hW hS => ?_)
  refine lv_istore (lv' := [(4, .int x1), (0, .ref (G.2.2.1 0)), (1, .int p1), (2, .int p2), (3, .int p3)]) hx hb dX8_lots_7 hl (by decide) rfl (fun ls hl => ?_)
  refine lv_iload hx hb dX8_lots_9 (lv_at hl 0 rfl) ?_
  refine lv_if_eq (tgt := 21) hx hb dX8_lots_11 (by decide) (fun c3 => ?_) (fun c3 => ?_)
  · have hf := i_t hf c3
    refine lv_iload_n hx hb dX8_lots_21 rfl (lv_at hl 4 rfl) ?_
    refine lv_iconst (v := (2 : Int32)) hx hb dX8_lots_22 (by decide) ?_
    obtain ⟨x4, hg5, hf⟩ := b_o1 hf
    refine x_ci hB (x_rs hB hW hS (As := [.int p3, .int (2 : Int32)]) (rest := []) (ct_X8_isOther l G hg5) (cl_RX8_171 hB.2.2.2.2.1 ⟨Nat.le_of_ble_eq_true rfl, Nat.le_of_ble_eq_true rfl⟩) rfl hl.1 rfl (Nat.le_of_ble_eq_true rfl) dX8_lots_23 ⟨Nat.le_refl _, Nat.le_refl _⟩) hS (fun H locs hW hS => ?_)
    refine lv_if_eq (tgt := 36) hx hb dX8_lots_26 (by decide) (fun c6 => ?_) (fun c6 => ?_)
    · have hf := i_t hf c6
      refine lv_aload_n hx hb dX8_lots_36 rfl (lv_at hl 1 rfl) ?_
      obtain ⟨M7, hg8, hf⟩ := b_o1 hf
      refine x_cv hB (x_rv hB hW hS (As := []) (rest := []) (ct_X8_beginTrial l G hg8) (cl_RX8_304 hB.2.2.2.2.1 ⟨Nat.le_of_ble_eq_true rfl, Nat.le_of_ble_eq_true rfl⟩) tl0 (by decide) rfl rfl hl.1 rfl (Nat.le_of_ble_eq_true rfl) dX8_lots_37 ⟨Nat.le_refl _, Nat.le_refl _⟩) hS (fun H locs hW hS => ?_)
      refine lv_aload_n hx hb dX8_lots_40 rfl (lv_at hl 1 rfl) ?_
      refine lv_iload_n hx hb dX8_lots_41 rfl (lv_at hl 3 rfl) ?_
      refine fp8_10 hB hW hS tl0 wd2_101 dX8_lots_42 (fun H locs M9 eM9 hW hS => ?_)
      have hf := nm_o hf eM9
      refine lv_iconst (v := (0 : Int32)) hx hb dX8_lots_45 (by decide) ?_
      refine lv_istore (lv' := [(5, .int (0 : Int32)), (4, .int x1), (0, .ref (G.2.2.1 0)), (1, .int p1), (2, .int p2), (3, .int p3)]) hx hb dX8_lots_46 hl (by decide) rfl (fun ls hl => ?_)
      refine lv_iconst (v := (0 : Int32)) hx hb dX8_lots_48 (by decide) ?_
      refine lv_istore (lv' := [(6, .int (0 : Int32)), (5, .int (0 : Int32)), (4, .int x1), (0, .ref (G.2.2.1 0)), (1, .int p1), (2, .int p2), (3, .int p3)]) hx hb dX8_lots_49 hl (by decide) rfl (fun ls hl => ?_)
      refine lv_iconst (v := (0 : Int32)) hx hb dX8_lots_51 (by decide) ?_
      refine lv_istore (lv' := [(7, .int (0 : Int32)), (6, .int (0 : Int32)), (5, .int (0 : Int32)), (4, .int x1), (0, .ref (G.2.2.1 0)), (1, .int p1), (2, .int p2), (3, .int p3)]) hx hb dX8_lots_52 hl (by decide) rfl (fun ls hl => ?_)
      obtain ⟨y20, y21, M22, hL, hf⟩ := b_o3 hf
      have main23 : ∀ (x16 : Int32) (x17 : Int32) (M18 : Mem) (H : Heap) (locs : List Loc) (ls : Array Slot), Wd G M18 H → va_S (adA G) s.heap H locs → lv_has ls 10 [(3, .int p3), (5, .int x16), (6, .int x17)] → some (x16, x17, M18) = some (y20, y21, M22) → W p l e (rmq 6 150) s m args below meth c H locs 0 0 (MQ below (Qi G r Mr) args s 0 0 (adA G)) (F0 m 114 ls []) := by
        intro x16 x17 M18 H locs ls hW hS hl hE
        cases hE
        refine lv_iload_n hx hb dX8_lots_114 rfl (lv_at hl 0 rfl) ?_
        refine lv_if_ne (tgt := 123) hx hb dX8_lots_115 (by decide) (fun c19 => ?_) (fun c19 => ?_)
        · have hf := i_f hf c19
          refine lv_iload hx hb dX8_lots_123 (lv_at hl 2 rfl) ?_
          exact e_i hB hW hS hr hlk (s_1 hf) (s_2 hf) dX8_lots_125
        · have hf := i_t hf c19
          refine lv_iload hx hb dX8_lots_118 (lv_at hl 1 rfl) ?_
          refine lv_goto (tgt := 125) hx hb dX8_lots_120 (by decide) ?_
          exact e_i hB hW hS hr hlk (s_1 hf) (s_2 hf) dX8_lots_125
      have loop15 : ∀ (n : Nat) (x10 : Int32) (x11 : Int32) (x12 : Int32) (M13 : Mem) (H : Heap) (locs : List Loc) (ls : Array Slot), Wd G M13 H → va_S (adA G) s.heap H locs → lv_has ls 10 [(0, .ref (G.2.2.1 0)), (1, .int p1), (3, .int p3), (5, .int x10), (6, .int x11), (7, .int x12)] → lq4 (f_X8_lots_L54 p1) n x10 x11 x12 M13 = some (y20, y21, M22) → W p l e (rmq 6 150) s m args below meth c H locs 0 0 (MQ below (Qi G r Mr) args s 0 0 (adA G)) (F0 m 54 ls []) := by
        intro n
        induction n with
        | zero => intro x10 x11 x12 M13 H locs ls hW hS hl hf; exact (l_z4 hf).elim
        | succ n ih =>
          intro x10 x11 x12 M13 H locs ls hW hS hl hf
          have hf := l_s4 hf
          generalize lq4 (f_X8_lots_L54 p1) n = K14 at ih hf
          unfold f_X8_lots_L54 at hf
          refine lv_iload hx hb dX8_lots_54 (lv_at hl 5 rfl) ?_
          refine lv_iload_n hx hb dX8_lots_56 rfl (lv_at hl 1 rfl) ?_
          refine lv_icmp_ge (tgt := 114) hx hb dX8_lots_57 (by decide) (fun c24 => ?_) (fun c24 => ?_)
          · have hf := i_t hf c24
            exact main23 x10 x11 M13 _ _ ls hW hS (lv_sub hl [2, 3, 4] rfl) hf
          · have hf := i_f hf c24
            refine lv_bipush (v := (10 : Int32)) hx hb dX8_lots_60 (by decide) ?_
            refine lv_aload_n hx hb dX8_lots_62 rfl (lv_at hl 0 rfl) ?_
            obtain ⟨x25, M26, hg27, hf⟩ := b_o2 hf
            refine x_ci hB (x_rv hB hW hS (As := []) (rest := [.int (10 : Int32)]) (ct_X8_drawBelow41 l G hg27) (cl_RX8_351 hB.2.2.2.2.1 ⟨Nat.le_of_ble_eq_true rfl, Nat.le_of_ble_eq_true rfl⟩) tl0 (by decide) rfl rfl hl.1 rfl (Nat.le_of_ble_eq_true rfl) dX8_lots_63 ⟨Nat.le_refl _, Nat.le_refl _⟩) hS (fun H locs hW hS => ?_)
            refine lv_iadd hx hb dX8_lots_66 ?_
            refine lv_topi (fun x28 ex28 => ?_)
            have hf := nm_o hf ex28
            refine lv_istore (lv' := [(8, .int x28), (0, .ref (G.2.2.1 0)), (1, .int p1), (3, .int p3), (5, .int x10), (6, .int x11), (7, .int x12)]) hx hb dX8_lots_67 hl (by decide) rfl (fun ls hl => ?_)
            refine lv_aload_n hx hb dX8_lots_69 rfl (lv_at hl 1 rfl) ?_
            refine fg8_1 hB hW tl0 wd2_92 dX8_lots_70 ?_
            refine lv_aload_n hx hb dX8_lots_73 rfl (lv_at hl 1 rfl) ?_
            obtain ⟨x29, M30, hg31, hf⟩ := b_o2 hf
            refine x_ci hB (x_rv hB hW hS (As := []) (rest := [.ref (G.2.2.1 12)]) (ct_X8_drawBelow41 l G hg31) (cl_RX8_351 hB.2.2.2.2.1 ⟨Nat.le_of_ble_eq_true rfl, Nat.le_of_ble_eq_true rfl⟩) tl0 (by decide) rfl rfl hl.1 rfl (Nat.le_of_ble_eq_true rfl) dX8_lots_74 ⟨Nat.le_refl _, Nat.le_refl _⟩) hS (fun H locs hW hS => ?_)
            refine fp3_7 hB hW hS tl12 wd1_113 dX8_lots_77 (fun H locs M32 eM32 hW hS => ?_)
            have hf := nm_o hf eM32
            refine lv_aload_n hx hb dX8_lots_80 rfl (lv_at hl 1 rfl) ?_
            refine lv_iload hx hb dX8_lots_81 (lv_at hl 0 rfl) ?_
            obtain ⟨x33, M34, hg35, hf⟩ := b_o2 hf
            refine x_ci hB (x_rv hB hW hS (As := [.int x28]) (rest := []) (ct_X8_linesWith l G hg35) (cl_RX8_307 hB.2.2.2.2.1 ⟨Nat.le_of_ble_eq_true rfl, Nat.le_of_ble_eq_true rfl⟩) tl0 (by decide) rfl rfl hl.1 rfl (Nat.le_of_ble_eq_true rfl) dX8_lots_83 ⟨Nat.le_refl _, Nat.le_refl _⟩) hS (fun H locs hW hS => ?_)
            refine lv_istore (lv' := [(9, .int x33), (8, .int x28), (0, .ref (G.2.2.1 0)), (1, .int p1), (3, .int p3), (5, .int x10), (6, .int x11), (7, .int x12)]) hx hb dX8_lots_86 hl (by decide) rfl (fun ls hl => ?_)
            refine lv_iload hx hb dX8_lots_88 (lv_at hl 0 rfl) ?_
            refine lv_bipush (v := (-9 : Int32)) hx hb dX8_lots_90 (by decide) ?_
            refine lv_icmp_ne (tgt := 101) hx hb dX8_lots_92 (by decide) (fun c36 => ?_) (fun c36 => ?_)
            · have hf := i_f hf c36
              refine lv_iload hx hb dX8_lots_101 (lv_at hl 5 rfl) ?_
              refine lv_iload hx hb dX8_lots_103 (lv_at hl 0 rfl) ?_
              refine lv_iadd hx hb dX8_lots_105 ?_
              refine lv_topi (fun x37 ex37 => ?_)
              have hf := nm_o hf ex37
              refine lv_istore (lv' := [(5, .int x37), (9, .int x33), (8, .int x28), (0, .ref (G.2.2.1 0)), (1, .int p1), (3, .int p3), (6, .int x11), (7, .int x12)]) hx hb dX8_lots_106 hl (by decide) rfl (fun ls hl => ?_)
              obtain ⟨x38, ex38⟩ : ∃ y : Int32, y = x12 + (1 : Int32) := ⟨_, rfl⟩
              have hf := nm_o hf ex38
              refine lv_iinc (v := x38) (lv' := [(7, .int x38), (5, .int x37), (9, .int x33), (8, .int x28), (0, .ref (G.2.2.1 0)), (1, .int p1), (3, .int p3), (6, .int x11)]) hx hb dX8_lots_108 hl (k := 7) rfl (by rw [ex38]; rfl) (by decide) rfl (fun ls hl => ?_)
              refine lv_goto (tgt := 54) hx hb dX8_lots_111 (by decide) ?_
              exact ih x37 x11 x38 M34 _ _ ls hW hS (lv_sub hl [4, 5, 6, 1, 7, 0] rfl) hf
            · have hf := i_t hf c36
              obtain ⟨x39, ex39⟩ : ∃ y : Int32, y = x11 + (1 : Int32) := ⟨_, rfl⟩
              have hf := nm_o hf ex39
              refine lv_iinc (v := x39) (lv' := [(6, .int x39), (9, .int x33), (8, .int x28), (0, .ref (G.2.2.1 0)), (1, .int p1), (3, .int p3), (5, .int x10), (7, .int x12)]) hx hb dX8_lots_95 hl (k := 6) rfl (by rw [ex39]; rfl) (by decide) rfl (fun ls hl => ?_)
              refine lv_goto (tgt := 108) hx hb dX8_lots_98 (by decide) ?_
              obtain ⟨x40, ex40⟩ : ∃ y : Int32, y = x12 + (1 : Int32) := ⟨_, rfl⟩
              have hf := nm_o hf ex40
              refine lv_iinc (v := x40) (lv' := [(7, .int x40), (6, .int x39), (9, .int x33), (8, .int x28), (0, .ref (G.2.2.1 0)), (1, .int p1), (3, .int p3), (5, .int x10)]) hx hb dX8_lots_108 hl (k := 7) rfl (by rw [ex40]; rfl) (by decide) rfl (fun ls hl => ?_)
              refine lv_goto (tgt := 54) hx hb dX8_lots_111 (by decide) ?_
              exact ih x10 x39 x40 M34 _ _ ls hW hS (lv_sub hl [4, 5, 6, 7, 1, 0] rfl) hf
      exact loop15 FU (0 : Int32) (0 : Int32) (0 : Int32) M9 _ _ ls hW hS (lv_sub hl [4, 5, 7, 2, 1, 0] rfl) hL
    · have hf := i_f hf c6
      refine lv_aload_n hx hb dX8_lots_29 rfl (lv_at hl 1 rfl) ?_
      refine lv_bipush (v := (-2 : Int32)) hx hb dX8_lots_30 (by decide) ?_
      obtain ⟨x41, M42, hg43, hf⟩ := b_o2 hf
      refine x_ci hB (x_rv hB hW hS (As := [.int (-2 : Int32)]) (rest := []) (ct_X8_refuse l G hg43) (cl_RX8_50 hB.2.2.2.2.1 ⟨Nat.le_of_ble_eq_true rfl, Nat.le_of_ble_eq_true rfl⟩) tl0 (by decide) rfl rfl hl.1 rfl (Nat.le_of_ble_eq_true rfl) dX8_lots_32 ⟨Nat.le_refl _, Nat.le_refl _⟩) hS (fun H locs hW hS => ?_)
      exact e_i hB hW hS hr hlk (s_1 hf) (s_2 hf) dX8_lots_35
  · have hf := i_f hf c3
    refine lv_aload_n hx hb dX8_lots_14 rfl (lv_at hl 1 rfl) ?_
    refine lv_iload hx hb dX8_lots_15 (lv_at hl 0 rfl) ?_
    obtain ⟨x44, M45, hg46, hf⟩ := b_o2 hf
    refine x_ci hB (x_rv hB hW hS (As := [.int x1]) (rest := []) (ct_X8_refuse l G hg46) (cl_RX8_50 hB.2.2.2.2.1 ⟨Nat.le_of_ble_eq_true rfl, Nat.le_of_ble_eq_true rfl⟩) tl0 (by decide) rfl rfl hl.1 rfl (Nat.le_of_ble_eq_true rfl) dX8_lots_17 ⟨Nat.le_refl _, Nat.le_refl _⟩) hS (fun H locs hW hS => ?_)
    exact e_i hB hW hS hr hlk (s_1 hf) (s_2 hf) dX8_lots_20
def f_X8_image (M : Mem) : Option (Int32 × Mem) := (bq1 (f_X3_become 23 1 M) (fun (M1 : Mem) => nmq (si M1 0 9 (1 : Int32)) (fun (M3 : Mem) => some ((gi M3 3 3), M3))))
set_option maxHeartbeats 4000000 in
set_option maxRecDepth 100000 in
theorem ct_X8_image (l : Launch) (G : GG)  {M : Mem} {r : Int32} {Mr : Mem}  (hf : f_X8_image M = some (r, Mr)) : Met l yX8_image (wsq yX8_image cX8_image 1 (some .int)) (rmq 4 84) (va_Pc [.ref (G.2.2.1 0)] (World G M)) (Qi G r Mr) 0 0 (adA G) := by
  refine x_start (plainFor_of_name (by decide)) (Nat.le_of_ble_eq_true rfl) ?_
  intro p e s m args below meth c hB hr hlk hW hS ls hl
  have hx := hB.x
  have hb := hB.b
  have hl : lv_has ls 1 [(0, .ref (G.2.2.1 0))] := hl
  unfold f_X8_image at hf
  refine lv_aload_n hx hb dX8_image_0 rfl (lv_at hl 0 rfl) ?_
  refine fg8_2 hB hW tl0 wd2_93 dX8_image_1 ?_
  refine lv_aload_n hx hb dX8_image_4 rfl (lv_at hl 0 rfl) ?_
  refine fg8_0 hB hW tl0 wd2_91 dX8_image_5 ?_
  obtain ⟨M1, hg2, hf⟩ := b_o1 hf
  refine x_cv hB (x_rv hB hW hS (As := [.ref (G.2.2.1 1)]) (rest := []) (ct_X3_become l G tl23 tl1 hg2) (cl_RX8_65 hB.2.2.2.2.1 ⟨Nat.le_of_ble_eq_true rfl, Nat.le_of_ble_eq_true rfl⟩) tl23 (by decide) rfl rfl hl.1 rfl (Nat.le_of_ble_eq_true rfl) dX8_image_8 ⟨Nat.le_refl _, Nat.le_refl _⟩) hS (fun H locs hW hS => ?_)
  refine lv_aload_n hx hb dX8_image_11 rfl (lv_at hl 0 rfl) ?_
  refine lv_iconst (v := (1 : Int32)) hx hb dX8_image_12 (by decide) ?_
  refine fp8_9 hB hW hS tl0 (by decide) wd2_100 dX8_image_13 (fun H locs M3 eM3 hW hS => ?_)
  have hf := nm_o hf eM3
  refine lv_aload_n hx hb dX8_image_16 rfl (lv_at hl 0 rfl) ?_
  refine fg8_0 hB hW tl0 wd2_91 dX8_image_17 ?_
  refine fg3_1 hB hW tl1 wd1_95 dX8_image_20 ?_
  refine fg7_3 hB hW tl3 wd1_52 dX8_image_23 ?_
  exact e_i hB hW hS hr hlk (s_1 hf) (s_2 hf) dX8_image_26
def f_X8_on (M : Mem) : Option (Int32 × Mem) := (if (gi M 0 9) = 0 then (bq2 (f_X8_refuse (-3 : Int32) M) (fun (x6 : Int32) (M7 : Mem) => some (x6, M7))) else (bq1 (f_X3_become 1 23 M) (fun (M2 : Mem) => bq1 (f_X1_forget M2) (fun (M4 : Mem) => some ((gi M4 3 3), M4)))))
set_option maxHeartbeats 4000000 in
set_option maxRecDepth 100000 in
theorem ct_X8_on (l : Launch) (G : GG)  {M : Mem} {r : Int32} {Mr : Mem}  (hf : f_X8_on M = some (r, Mr)) : Met l yX8_on (wsq yX8_on cX8_on 1 (some .int)) (rmq 4 84) (va_Pc [.ref (G.2.2.1 0)] (World G M)) (Qi G r Mr) 0 0 (adA G) := by
  refine x_start (plainFor_of_name (by decide)) (Nat.le_of_ble_eq_true rfl) ?_
  intro p e s m args below meth c hB hr hlk hW hS ls hl
  have hx := hB.x
  have hb := hB.b
  have hl : lv_has ls 1 [(0, .ref (G.2.2.1 0))] := hl
  unfold f_X8_on at hf
  refine lv_aload_n hx hb dX8_on_0 rfl (lv_at hl 0 rfl) ?_
  refine fg8_9 hB hW tl0 wd2_100 dX8_on_1 ?_
  refine lv_if_ne (tgt := 14) hx hb dX8_on_4 (by decide) (fun c1 => ?_) (fun c1 => ?_)
  · have hf := i_f hf c1
    refine lv_aload_n hx hb dX8_on_14 rfl (lv_at hl 0 rfl) ?_
    refine fg8_0 hB hW tl0 wd2_91 dX8_on_15 ?_
    refine lv_aload_n hx hb dX8_on_18 rfl (lv_at hl 0 rfl) ?_
    refine fg8_2 hB hW tl0 wd2_93 dX8_on_19 ?_
    obtain ⟨M2, hg3, hf⟩ := b_o1 hf
    refine x_cv hB (x_rv hB hW hS (As := [.ref (G.2.2.1 23)]) (rest := []) (ct_X3_become l G tl1 tl23 hg3) (cl_RX8_65 hB.2.2.2.2.1 ⟨Nat.le_of_ble_eq_true rfl, Nat.le_of_ble_eq_true rfl⟩) tl1 (by decide) rfl rfl hl.1 rfl (Nat.le_of_ble_eq_true rfl) dX8_on_22 ⟨Nat.le_refl _, Nat.le_refl _⟩) hS (fun H locs hW hS => ?_)
    refine lv_aload_n hx hb dX8_on_25 rfl (lv_at hl 0 rfl) ?_
    refine fg8_3 hB hW tl0 wd2_94 dX8_on_26 ?_
    obtain ⟨M4, hg5, hf⟩ := b_o1 hf
    refine x_cv hB (x_rv hB hW hS (As := []) (rest := []) (ct_X1_forget l G hg5) (cl_RX8_76 hB.2.2.2.2.1 ⟨Nat.le_of_ble_eq_true rfl, Nat.le_of_ble_eq_true rfl⟩) tl34 (by decide) rfl rfl hl.1 rfl (Nat.le_of_ble_eq_true rfl) dX8_on_29 ⟨Nat.le_refl _, Nat.le_refl _⟩) hS (fun H locs hW hS => ?_)
    refine lv_aload_n hx hb dX8_on_32 rfl (lv_at hl 0 rfl) ?_
    refine fg8_0 hB hW tl0 wd2_91 dX8_on_33 ?_
    refine fg3_1 hB hW tl1 wd1_95 dX8_on_36 ?_
    refine fg7_3 hB hW tl3 wd1_52 dX8_on_39 ?_
    exact e_i hB hW hS hr hlk (s_1 hf) (s_2 hf) dX8_on_42
  · have hf := i_t hf c1
    refine lv_aload_n hx hb dX8_on_7 rfl (lv_at hl 0 rfl) ?_
    refine lv_bipush (v := (-3 : Int32)) hx hb dX8_on_8 (by decide) ?_
    obtain ⟨x6, M7, hg8, hf⟩ := b_o2 hf
    refine x_ci hB (x_rv hB hW hS (As := [.int (-3 : Int32)]) (rest := []) (ct_X8_refuse l G hg8) (cl_RX8_50 hB.2.2.2.2.1 ⟨Nat.le_of_ble_eq_true rfl, Nat.le_of_ble_eq_true rfl⟩) tl0 (by decide) rfl rfl hl.1 rfl (Nat.le_of_ble_eq_true rfl) dX8_on_10 ⟨Nat.le_refl _, Nat.le_refl _⟩) hS (fun H locs hW hS => ?_)
    exact e_i hB hW hS hr hlk (s_1 hf) (s_2 hf) dX8_on_13
def f_X7_letterCount_L4 (k0 : Nat) (M : Mem) (K3 : Int32 → Int32 → Option (Int32)) (x1 : Int32) (x2 : Int32) : Option (Int32) := (if (gi M k0 3) ≤ x2 then (some (x1)) else (bq1 (f_X8_at (k0 + 2) x2 M) (fun (x9 : Int32) => nmq ((x1 + x9)) (fun (x11 : Int32) => nmq (x2 + (1 : Int32)) (fun (x12 : Int32) => (K3 x11 x12))))))
def f_X7_letterCount (k0 : Nat) (M : Mem) : Option Int32 := (bq1 (lq2 (f_X7_letterCount_L4 k0 M) FU (0 : Int32) (0 : Int32)) (fun (x5 : Int32) => some x5))
set_option maxHeartbeats 4000000 in
set_option maxRecDepth 100000 in
theorem ct_X7_letterCount (l : Launch) (G : GG) {k0 : Nat} {M : Mem} {r : Int32} (hk0 : isT 7 k0) (hf : f_X7_letterCount k0 M = some r) : Met l yX7_letterCount (wsq yX7_letterCount cX7_letterCount 3 (some .int)) (rmq 1 21) (va_Pc [.ref (G.2.2.1 k0)] (World G M)) (Qi G r M) 0 0 (adA G) := by
  refine x_start (plainFor_of_name (by decide)) (Nat.le_of_ble_eq_true rfl) ?_
  intro p e s m args below meth c hB hr hlk hW hS ls hl
  have hx := hB.x
  have hb := hB.b
  have hl : lv_has ls 3 [(0, .ref (G.2.2.1 k0))] := hl
  unfold f_X7_letterCount at hf
  refine lv_iconst (v := (0 : Int32)) hx hb dX7_letterCount_0 (by decide) ?_
  refine lv_istore_n (lv' := [(1, .int (0 : Int32)), (0, .ref (G.2.2.1 k0))]) hx hb dX7_letterCount_1 rfl hl (by decide) rfl (fun ls hl => ?_)
  refine lv_iconst (v := (0 : Int32)) hx hb dX7_letterCount_2 (by decide) ?_
  refine lv_istore_n (lv' := [(2, .int (0 : Int32)), (1, .int (0 : Int32)), (0, .ref (G.2.2.1 k0))]) hx hb dX7_letterCount_3 rfl hl (by decide) rfl (fun ls hl => ?_)
  obtain ⟨y6, hL, hf⟩ := b_o1 hf
  have main7 : ∀ (x5 : Int32) (H : Heap) (locs : List Loc) (ls : Array Slot), Wd G M H → va_S (adA G) s.heap H locs → lv_has ls 3 [(1, .int x5)] → some (x5) = some (y6) → W p l e (rmq 1 21) s m args below meth c H locs 0 0 (MQ below (Qi G r M) args s 0 0 (adA G)) (F0 m 29 ls []) := by
    intro x5 H locs ls hW hS hl hE
    cases hE
    refine lv_iload_n hx hb dX7_letterCount_29 rfl (lv_at hl 0 rfl) ?_
    exact e_i hB hW hS hr hlk (Option.some.inj hf) rfl dX7_letterCount_30
  have loop4 : ∀ (n : Nat) (x1 : Int32) (x2 : Int32) (H : Heap) (locs : List Loc) (ls : Array Slot), Wd G M H → va_S (adA G) s.heap H locs → lv_has ls 3 [(0, .ref (G.2.2.1 k0)), (1, .int x1), (2, .int x2)] → lq2 (f_X7_letterCount_L4 k0 M) n x1 x2 = some (y6) → W p l e (rmq 1 21) s m args below meth c H locs 0 0 (MQ below (Qi G r M) args s 0 0 (adA G)) (F0 m 4 ls []) := by
    intro n
    induction n with
    | zero => intro x1 x2 H locs ls hW hS hl hf; exact (l_z2 hf).elim
    | succ n ih =>
      intro x1 x2 H locs ls hW hS hl hf
      have hf := l_s2 hf
      generalize lq2 (f_X7_letterCount_L4 k0 M) n = K3 at ih hf
      unfold f_X7_letterCount_L4 at hf
      refine lv_iload_n hx hb dX7_letterCount_4 rfl (lv_at hl 2 rfl) ?_
      refine lv_aload_n hx hb dX7_letterCount_5 rfl (lv_at hl 0 rfl) ?_
      refine fg7_3 hB hW hk0 wd1_50 dX7_letterCount_6 ?_
      refine lv_icmp_ge (tgt := 29) hx hb dX7_letterCount_9 (by decide) (fun c8 => ?_) (fun c8 => ?_)
      · have hf := i_t hf c8
        exact main7 x1 _ _ ls hW hS (lv_sub hl [1] rfl) hf
      · have hf := i_f hf c8
        refine lv_iload_n hx hb dX7_letterCount_12 rfl (lv_at hl 1 rfl) ?_
        refine lv_aload_n hx hb dX7_letterCount_13 rfl (lv_at hl 0 rfl) ?_
        refine fg7_1 hB hW hk0 wd1_47 dX7_letterCount_14 ?_
        refine lv_iload_n hx hb dX7_letterCount_17 rfl (lv_at hl 2 rfl) ?_
        obtain ⟨x9, hg10, hf⟩ := b_o1 hf
        refine x_ci hB (x_rn hB hW hS (As := [.ref (G.2.2.1 (k0 + 2)), .int x2]) (rest := [.int x1]) (ct_X8_at l G (rf7_1 hk0) hg10) (cl_RX7_34 hB.nst hB.2.2.2.2.1 ⟨Nat.le_of_ble_eq_true rfl, Nat.le_of_ble_eq_true rfl⟩) rfl hl.1 rfl (Nat.le_of_ble_eq_true rfl) dX7_letterCount_18 ⟨Nat.le_refl _, Nat.le_refl _⟩) hS (fun H locs hW hS => ?_)
        refine lv_iadd hx hb dX7_letterCount_21 ?_
        refine lv_topi (fun x11 ex11 => ?_)
        have hf := nm_o hf ex11
        refine lv_istore_n (lv' := [(1, .int x11), (0, .ref (G.2.2.1 k0)), (2, .int x2)]) hx hb dX7_letterCount_22 rfl hl (by decide) rfl (fun ls hl => ?_)
        obtain ⟨x12, ex12⟩ : ∃ y : Int32, y = x2 + (1 : Int32) := ⟨_, rfl⟩
        have hf := nm_o hf ex12
        refine lv_iinc (v := x12) (lv' := [(2, .int x12), (1, .int x11), (0, .ref (G.2.2.1 k0))]) hx hb dX7_letterCount_23 hl (k := 2) rfl (by rw [ex12]; rfl) (by decide) rfl (fun ls hl => ?_)
        refine lv_goto (tgt := 4) hx hb dX7_letterCount_26 (by decide) ?_
        exact ih x11 x12 _ _ ls hW hS (lv_sub hl [2, 1, 0] rfl) hf
  exact loop4 FU (0 : Int32) (0 : Int32) _ _ ls hW hS (lv_sub hl [2, 1, 0] rfl) hL
theorem cl_RX8_359 {R : Room} {s : State} {args : Array Value} (ht : ∀ w ∈ lw_all, w.before args s = true) (hR : 1 + 1 ≤ R.frames ∧ 8 + (3 + 11) + 21 ≤ R.locals) : CallW R s args RX8 RX7 359 yX7_letterCount cX7_letterCount 3 (some .int) (wsq yX7_letterCount cX7_letterCount 3 (some .int)) (rmq 1 21) 0 0 0 := cwV 0 ht (goodV wd5_69 wd5_70 wd5_71 wd1_3 wd5_72) rfl rfl rfl (by decide +kernel) hR
def f_X8_count (p1 : Int32) (M : Mem) : Option Int32 := (jq (fun (_ : Unit) => (if p1 = (0 : Int32) then some (gi M 3 3) else if p1 = (1 : Int32) then some (gi M 7 4) else if p1 = (2 : Int32) then (bq1 (f_X7_letterCount 3 M) (fun (x6 : Int32) => some x6)) else if p1 = (3 : Int32) then some (gi M 1 3) else if p1 = (4 : Int32) then some (gi M 1 11) else if p1 = (5 : Int32) then some (gi M 34 2) else if p1 = (6 : Int32) then some (gi M 0 8) else if p1 = (7 : Int32) then some (gi M 124 1) else some (-9 : Int32))) (fun (K2 : Unit → Option Int32) => (if p1 < (11 : Int32) then (K2 ()) else (if (16 : Int32) < p1 then (K2 ()) else (bq1 (f_X8_at 138 (p1 - (10 : Int32)) M) (fun (x15 : Int32) => some x15))))))
set_option maxHeartbeats 4000000 in
set_option maxRecDepth 100000 in
theorem ct_X8_count (l : Launch) (G : GG) {p1 : Int32} {M : Mem} {r : Int32}  (hf : f_X8_count p1 M = some r) : Met l yX8_count (wsq yX8_count cX8_count 2 (some .int)) (rmq 2 43) (va_Pc [.ref (G.2.2.1 0), .int p1] (World G M)) (Qi G r M) 0 0 (adA G) := by
  refine x_start (plainFor_of_name (by decide)) (Nat.le_of_ble_eq_true rfl) ?_
  intro p e s m args below meth c hB hr hlk hW hS ls hl
  have hx := hB.x
  have hb := hB.b
  have hl : lv_has ls 2 [(0, .ref (G.2.2.1 0)), (1, .int p1)] := hl
  unfold f_X8_count at hf
  refine lv_iload_n hx hb dX8_count_0 rfl (lv_at hl 1 rfl) ?_
  refine lv_bipush (v := (11 : Int32)) hx hb dX8_count_1 (by decide) ?_
  obtain ⟨K2, eK2, hf⟩ := j_o hf
  have main1 : ∀ (_ : Unit) (H : Heap) (locs : List Loc) (ls : Array Slot), Wd G M H → va_S (adA G) s.heap H locs → lv_has ls 2 [(0, .ref (G.2.2.1 0)), (1, .int p1)] → K2 () = some r → W p l e (rmq 2 43) s m args below meth c H locs 0 0 (MQ below (Qi G r M) args s 0 0 (adA G)) (F0 m 24 ls []) := by
    intro _ H locs ls hW hS hl hf
    subst eK2
    refine lv_iload_n hx hb dX8_count_24 rfl (lv_at hl 1 rfl) ?_
    by_cases c3 : p1 = (0 : Int32)
    · have hf := i_t hf c3
      refine lv_tableIn (tgt := 72) hx hb dX8_count_25 (by rw [c3]; decide) (by rw [c3]; decide) (by rw [c3] <;> rfl) (by decide) ?_
      refine lv_aload_n hx hb dX8_count_72 rfl (lv_at hl 0 rfl) ?_
      refine fg8_0 hB hW tl0 wd2_91 dX8_count_73 ?_
      refine fg3_1 hB hW tl1 wd1_95 dX8_count_76 ?_
      refine fg7_3 hB hW tl3 wd1_52 dX8_count_79 ?_
      exact e_i hB hW hS hr hlk (Option.some.inj hf) rfl dX8_count_82
    · have hf := i_f hf c3
      by_cases c4 : p1 = (1 : Int32)
      · have hf := i_t hf c4
        refine lv_tableIn (tgt := 83) hx hb dX8_count_25 (by rw [c4]; decide) (by rw [c4]; decide) (by rw [c4] <;> rfl) (by decide) ?_
        refine lv_aload_n hx hb dX8_count_83 rfl (lv_at hl 0 rfl) ?_
        refine fg8_0 hB hW tl0 wd2_91 dX8_count_84 ?_
        refine fg3_2 hB hW tl1 wd1_98 dX8_count_87 ?_
        refine fg4_4 hB hW tl7 wd1_78 dX8_count_90 ?_
        exact e_i hB hW hS hr hlk (Option.some.inj hf) rfl dX8_count_93
      · have hf := i_f hf c4
        by_cases c5 : p1 = (2 : Int32)
        · have hf := i_t hf c5
          refine lv_tableIn (tgt := 94) hx hb dX8_count_25 (by rw [c5]; decide) (by rw [c5]; decide) (by rw [c5] <;> rfl) (by decide) ?_
          refine lv_aload_n hx hb dX8_count_94 rfl (lv_at hl 0 rfl) ?_
          refine fg8_0 hB hW tl0 wd2_91 dX8_count_95 ?_
          refine fg3_1 hB hW tl1 wd1_95 dX8_count_98 ?_
          obtain ⟨x6, hg7, hf⟩ := b_o1 hf
          refine x_ci hB (x_rv hB hW hS (As := []) (rest := []) (ct_X7_letterCount l G tl3 hg7) (cl_RX8_359 hB.2.2.2.2.1 ⟨Nat.le_of_ble_eq_true rfl, Nat.le_of_ble_eq_true rfl⟩) tl3 (by decide) rfl rfl hl.1 rfl (Nat.le_of_ble_eq_true rfl) dX8_count_101 ⟨Nat.le_refl _, Nat.le_refl _⟩) hS (fun H locs hW hS => ?_)
          exact e_i hB hW hS hr hlk (Option.some.inj hf) rfl dX8_count_104
        · have hf := i_f hf c5
          by_cases c8 : p1 = (3 : Int32)
          · have hf := i_t hf c8
            refine lv_tableIn (tgt := 105) hx hb dX8_count_25 (by rw [c8]; decide) (by rw [c8]; decide) (by rw [c8] <;> rfl) (by decide) ?_
            refine lv_aload_n hx hb dX8_count_105 rfl (lv_at hl 0 rfl) ?_
            refine fg8_0 hB hW tl0 wd2_91 dX8_count_106 ?_
            refine fg3_3 hB hW tl1 wd1_102 dX8_count_109 ?_
            exact e_i hB hW hS hr hlk (Option.some.inj hf) rfl dX8_count_112
          · have hf := i_f hf c8
            by_cases c9 : p1 = (4 : Int32)
            · have hf := i_t hf c9
              refine lv_tableIn (tgt := 113) hx hb dX8_count_25 (by rw [c9]; decide) (by rw [c9]; decide) (by rw [c9] <;> rfl) (by decide) ?_
              refine lv_aload_n hx hb dX8_count_113 rfl (lv_at hl 0 rfl) ?_
              refine fg8_0 hB hW tl0 wd2_91 dX8_count_114 ?_
              refine fg3_11 hB hW tl1 wd1_127 dX8_count_117 ?_
              exact e_i hB hW hS hr hlk (Option.some.inj hf) rfl dX8_count_120
            · have hf := i_f hf c9
              by_cases c10 : p1 = (5 : Int32)
              · have hf := i_t hf c10
                refine lv_tableIn (tgt := 121) hx hb dX8_count_25 (by rw [c10]; decide) (by rw [c10]; decide) (by rw [c10] <;> rfl) (by decide) ?_
                refine lv_aload_n hx hb dX8_count_121 rfl (lv_at hl 0 rfl) ?_
                refine fg8_3 hB hW tl0 wd2_94 dX8_count_122 ?_
                refine fg1_2 hB hW tl34 wd1_171 dX8_count_125 ?_
                exact e_i hB hW hS hr hlk (Option.some.inj hf) rfl dX8_count_128
              · have hf := i_f hf c10
                by_cases c11 : p1 = (6 : Int32)
                · have hf := i_t hf c11
                  refine lv_tableIn (tgt := 129) hx hb dX8_count_25 (by rw [c11]; decide) (by rw [c11]; decide) (by rw [c11] <;> rfl) (by decide) ?_
                  refine lv_aload_n hx hb dX8_count_129 rfl (lv_at hl 0 rfl) ?_
                  refine fg8_8 hB hW tl0 wd2_99 dX8_count_130 ?_
                  exact e_i hB hW hS hr hlk (Option.some.inj hf) rfl dX8_count_133
                · have hf := i_f hf c11
                  by_cases c12 : p1 = (7 : Int32)
                  · have hf := i_t hf c12
                    refine lv_tableIn (tgt := 134) hx hb dX8_count_25 (by rw [c12]; decide) (by rw [c12]; decide) (by rw [c12] <;> rfl) (by decide) ?_
                    refine lv_aload_n hx hb dX8_count_134 rfl (lv_at hl 0 rfl) ?_
                    refine fg8_4 hB hW tl0 wd2_95 dX8_count_135 ?_
                    refine fg5_1 hB hW tl124 wd1_187 dX8_count_138 ?_
                    exact e_i hB hW hS hr hlk (Option.some.inj hf) rfl dX8_count_141
                  · have hf := i_f hf c12
                    refine lv_tableOut (tgt := 142) hx hb dX8_count_25 (sw_out (lo := 0) (hi := 7) (fun v h1 h2 hv => ?_)) (by decide) ?_
                    · rcases (show v = 0 ∨ v = 1 ∨ v = 2 ∨ v = 3 ∨ v = 4 ∨ v = 5 ∨ v = 6 ∨ v = 7 by omega) with rfl | rfl | rfl | rfl | rfl | rfl | rfl | rfl
                      · exact c3 hv
                      · exact c4 hv
                      · exact c5 hv
                      · exact c8 hv
                      · exact c9 hv
                      · exact c10 hv
                      · exact c11 hv
                      · exact c12 hv
                    · skip
                      refine lv_bipush (v := (-9 : Int32)) hx hb dX8_count_142 (by decide) ?_
                      exact e_i hB hW hS hr hlk (Option.some.inj hf) rfl dX8_count_144
  refine lv_icmp_lt (tgt := 24) hx hb dX8_count_3 (by decide) (fun c13 => ?_) (fun c13 => ?_)
  · have hf := i_t hf c13
    exact main1 () _ _ ls hW hS (lv_sub hl [0, 1] rfl) hf
  · have hf := i_f hf c13
    refine lv_iload_n hx hb dX8_count_6 rfl (lv_at hl 1 rfl) ?_
    refine lv_bipush (v := (16 : Int32)) hx hb dX8_count_7 (by decide) ?_
    refine lv_icmp_gt (tgt := 24) hx hb dX8_count_9 (by decide) (fun c14 => ?_) (fun c14 => ?_)
    · have hf := i_t hf c14
      exact main1 () _ _ ls hW hS (lv_sub hl [0, 1] rfl) hf
    · have hf := i_f hf c14
      refine lv_aload_n hx hb dX8_count_12 rfl (lv_at hl 0 rfl) ?_
      refine fg8_7 hB hW tl0 wd2_98 dX8_count_13 ?_
      refine lv_iload_n hx hb dX8_count_16 rfl (lv_at hl 1 rfl) ?_
      refine lv_bipush (v := (10 : Int32)) hx hb dX8_count_17 (by decide) ?_
      refine lv_isub hx hb dX8_count_19 ?_
      obtain ⟨x15, hg16, hf⟩ := b_o1 hf
      refine x_ci hB (x_rs hB hW hS (As := [.ref (G.2.2.1 138), .int (p1 - (10 : Int32))]) (rest := []) (ct_X8_at l G tl138 hg16) (cl_RX8_95 hB.2.2.2.2.1 ⟨Nat.le_of_ble_eq_true rfl, Nat.le_of_ble_eq_true rfl⟩) rfl hl.1 rfl (Nat.le_of_ble_eq_true rfl) dX8_count_20 ⟨Nat.le_refl _, Nat.le_refl _⟩) hS (fun H locs hW hS => ?_)
      exact e_i hB hW hS hr hlk (Option.some.inj hf) rfl dX8_count_23
def f_X9_no (p1 : Int32) (M : Mem) : Option (Int32 × Mem) := (nmq ((-p1)) (fun (x1 : Int32) => gq (inB x1 7) (gq (inB x1 7) (nmq (si M 140 ((x1 : Int32).toNatClampNeg) ((gi M 140 ((x1 : Int32).toNatClampNeg)) + (1 : Int32))) (fun (M4 : Mem) => some (p1, M4))))))
set_option maxHeartbeats 4000000 in
set_option maxRecDepth 100000 in
theorem ct_X9_no (l : Launch) (G : GG) {p1 : Int32} {M : Mem} {r : Int32} {Mr : Mem}  (hf : f_X9_no p1 M = some (r, Mr)) : Met l yX9_no (wsq yX9_no cX9_no 2 (some .int)) (rmq 0 0) (va_Pc [.ref (G.2.2.1 139), .int p1] (World G M)) (Qi G r Mr) 0 0 (adA G) := by
  refine x_start (plainFor_of_name (by decide)) (Nat.le_of_ble_eq_true rfl) ?_
  intro p e s m args below meth c hB hr hlk hW hS ls hl
  have hx := hB.x
  have hb := hB.b
  have hl : lv_has ls 2 [(0, .ref (G.2.2.1 139)), (1, .int p1)] := hl
  unfold f_X9_no at hf
  refine lv_aload_n hx hb dX9_no_0 rfl (lv_at hl 0 rfl) ?_
  refine fg9_0 hB hW tl139 wd5_79 dX9_no_1 ?_
  refine lv_iload_n hx hb dX9_no_4 rfl (lv_at hl 1 rfl) ?_
  refine lv_ineg hx hb dX9_no_5 ?_
  refine lv_topi (fun x1 ex1 => ?_)
  have hf := nm_o hf ex1
  refine lv_dup2_11 hx hb dX9_no_6 rfl rfl ?_
  obtain ⟨h2, hf⟩ := g_o hf
  refine x_iald hB hW tl140 al140 h2 dX9_no_7 ?_
  refine lv_iconst (v := (1 : Int32)) hx hb dX9_no_8 (by decide) ?_
  refine lv_iadd hx hb dX9_no_9 ?_
  obtain ⟨h3, hf⟩ := g_o hf
  refine x_i hB hW hS tl140 al140 h3 dX9_no_10 (fun H locs M4 eM4 hW hS => ?_)
  have hf := nm_o hf eM4
  refine lv_iload_n hx hb dX9_no_11 rfl (lv_at hl 1 rfl) ?_
  exact e_i hB hW hS hr hlk (s_1 hf) (s_2 hf) dX9_no_12
def f_X9_lowestOf (p1 : Int32) (M : Mem) : Option (Int64 × Mem) := (nmq ((-p1)) (fun (x1 : Int32) => gq (inB x1 7) (gq (inB x1 7) (nmq (si M 140 ((x1 : Int32).toNatClampNeg) ((gi M 140 ((x1 : Int32).toNatClampNeg)) + (1 : Int32))) (fun (M4 : Mem) => some (((4000000000000000000 : Int64) - (p1 : Int32).toInt64), M4))))))
set_option maxHeartbeats 4000000 in
set_option maxRecDepth 100000 in
theorem ct_X9_lowestOf (l : Launch) (G : GG) {p1 : Int32} {M : Mem} {r : Int64} {Mr : Mem}  (hf : f_X9_lowestOf p1 M = some (r, Mr)) : Met l yX9_lowestOf (wsq yX9_lowestOf cX9_lowestOf 2 (some .long)) (rmq 0 0) (va_Pc [.ref (G.2.2.1 139), .int p1] (World G M)) (Ql G r Mr) 0 0 (adA G) := by
  refine x_start (plainFor_of_name (by decide)) (Nat.le_of_ble_eq_true rfl) ?_
  intro p e s m args below meth c hB hr hlk hW hS ls hl
  have hx := hB.x
  have hb := hB.b
  have hl : lv_has ls 2 [(0, .ref (G.2.2.1 139)), (1, .int p1)] := hl
  unfold f_X9_lowestOf at hf
  refine lv_aload_n hx hb dX9_lowestOf_0 rfl (lv_at hl 0 rfl) ?_
  refine fg9_0 hB hW tl139 wd5_79 dX9_lowestOf_1 ?_
  refine lv_iload_n hx hb dX9_lowestOf_4 rfl (lv_at hl 1 rfl) ?_
  refine lv_ineg hx hb dX9_lowestOf_5 ?_
  refine lv_topi (fun x1 ex1 => ?_)
  have hf := nm_o hf ex1
  refine lv_dup2_11 hx hb dX9_lowestOf_6 rfl rfl ?_
  obtain ⟨h2, hf⟩ := g_o hf
  refine x_iald hB hW tl140 al140 h2 dX9_lowestOf_7 ?_
  refine lv_iconst (v := (1 : Int32)) hx hb dX9_lowestOf_8 (by decide) ?_
  refine lv_iadd hx hb dX9_lowestOf_9 ?_
  obtain ⟨h3, hf⟩ := g_o hf
  refine x_i hB hW hS tl140 al140 h3 dX9_lowestOf_10 (fun H locs M4 eM4 hW hS => ?_)
  have hf := nm_o hf eM4
  refine lv_ldc2 (v := (4000000000000000000 : Int64)) hx hb hB.ow (hB.w wd7_165) dX9_lowestOf_11 ?_
  refine lv_iload_n hx hb dX9_lowestOf_14 rfl (lv_at hl 1 rfl) ?_
  refine lv_i2l hx hb dX9_lowestOf_15 rfl ?_
  refine lv_lsub hx hb dX9_lowestOf_16 ?_
  exact e_l hB hW hS hr hlk (s_1 hf) (s_2 hf) dX9_lowestOf_17
def f_X9_isIn (p1 : Int32) (p2 : Int32) (p3 : Int32) : Option Int32 := (if p1 < p2 then some (0 : Int32) else (if p3 < p1 then some (0 : Int32) else some (1 : Int32)))
set_option maxHeartbeats 4000000 in
set_option maxRecDepth 100000 in
theorem ct_X9_isIn (l : Launch) (G : GG) {p1 : Int32} {p2 : Int32} {p3 : Int32} {M : Mem} {r : Int32}  (hf : f_X9_isIn p1 p2 p3 = some r) : Met l yX9_isIn (wsq yX9_isIn cX9_isIn 3 (some .boolean)) (rmq 0 0) (va_Pc [.int p1, .int p2, .int p3] (World G M)) (Qi G r M) 0 0 (adA G) := by
  refine x_start (plainFor_of_name (by decide)) (Nat.le_of_ble_eq_true rfl) ?_
  intro p e s m args below meth c hB hr hlk hW hS ls hl
  have hx := hB.x
  have hb := hB.b
  have hl : lv_has ls 3 [(0, .int p1), (1, .int p2), (2, .int p3)] := hl
  unfold f_X9_isIn at hf
  refine lv_iload_n hx hb dX9_isIn_0 rfl (lv_at hl 0 rfl) ?_
  refine lv_iload_n hx hb dX9_isIn_1 rfl (lv_at hl 1 rfl) ?_
  refine lv_icmp_lt (tgt := 14) hx hb dX9_isIn_2 (by decide) (fun c1 => ?_) (fun c1 => ?_)
  · have hf := i_t hf c1
    refine lv_iconst (v := (0 : Int32)) hx hb dX9_isIn_14 (by decide) ?_
    exact e_z (by decide) hB hW hS hr hlk (Option.some.inj hf) rfl dX9_isIn_15
  · have hf := i_f hf c1
    refine lv_iload_n hx hb dX9_isIn_5 rfl (lv_at hl 0 rfl) ?_
    refine lv_iload_n hx hb dX9_isIn_6 rfl (lv_at hl 2 rfl) ?_
    refine lv_icmp_gt (tgt := 14) hx hb dX9_isIn_7 (by decide) (fun c2 => ?_) (fun c2 => ?_)
    · have hf := i_t hf c2
      refine lv_iconst (v := (0 : Int32)) hx hb dX9_isIn_14 (by decide) ?_
      exact e_z (by decide) hB hW hS hr hlk (Option.some.inj hf) rfl dX9_isIn_15
    · have hf := i_f hf c2
      refine lv_iconst (v := (1 : Int32)) hx hb dX9_isIn_10 (by decide) ?_
      refine lv_goto (tgt := 15) hx hb dX9_isIn_11 (by decide) ?_
      exact e_z (by decide) hB hW hS hr hlk (Option.some.inj hf) rfl dX9_isIn_15
def f_X9_bound (p1 : Int32) (p2 : Int32) (p3 : Int32) : Option Int32 := (if p2 ≤ p1 then (if p1 ≤ p3 then some (0 : Int32) else some (-6 : Int32)) else some (-4 : Int32))
set_option maxHeartbeats 4000000 in
set_option maxRecDepth 100000 in
theorem ct_X9_bound (l : Launch) (G : GG) {p1 : Int32} {p2 : Int32} {p3 : Int32} {M : Mem} {r : Int32}  (hf : f_X9_bound p1 p2 p3 = some r) : Met l yX9_bound (wsq yX9_bound cX9_bound 3 (some .int)) (rmq 0 0) (va_Pc [.int p1, .int p2, .int p3] (World G M)) (Qi G r M) 0 0 (adA G) := by
  refine x_start (plainFor_of_name (by decide)) (Nat.le_of_ble_eq_true rfl) ?_
  intro p e s m args below meth c hB hr hlk hW hS ls hl
  have hx := hB.x
  have hb := hB.b
  have hl : lv_has ls 3 [(0, .int p1), (1, .int p2), (2, .int p3)] := hl
  unfold f_X9_bound at hf
  refine lv_iload_n hx hb dX9_bound_0 rfl (lv_at hl 0 rfl) ?_
  refine lv_iload_n hx hb dX9_bound_1 rfl (lv_at hl 1 rfl) ?_
  refine lv_icmp_ge (tgt := 10) hx hb dX9_bound_2 (by decide) (fun c1 => ?_) (fun c1 => ?_)
  · have hf := i_t hf c1
    refine lv_iload_n hx hb dX9_bound_10 rfl (lv_at hl 0 rfl) ?_
    refine lv_iload_n hx hb dX9_bound_11 rfl (lv_at hl 2 rfl) ?_
    refine lv_icmp_le (tgt := 20) hx hb dX9_bound_12 (by decide) (fun c2 => ?_) (fun c2 => ?_)
    · have hf := i_t hf c2
      refine lv_iconst (v := (0 : Int32)) hx hb dX9_bound_20 (by decide) ?_
      exact e_i hB hW hS hr hlk (Option.some.inj hf) rfl dX9_bound_21
    · have hf := i_f hf c2
      refine lv_bipush (v := (-6 : Int32)) hx hb dX9_bound_15 (by decide) ?_
      refine lv_goto (tgt := 21) hx hb dX9_bound_17 (by decide) ?_
      exact e_i hB hW hS hr hlk (Option.some.inj hf) rfl dX9_bound_21
  · have hf := i_f hf c1
    refine lv_bipush (v := (-4 : Int32)) hx hb dX9_bound_5 (by decide) ?_
    refine lv_goto (tgt := 21) hx hb dX9_bound_7 (by decide) ?_
    exact e_i hB hW hS hr hlk (Option.some.inj hf) rfl dX9_bound_21
theorem cl_RX9_125 {R : Room} {s : State} {args : Array Value} (ht : ∀ w ∈ lw_all, w.before args s = true) (hR : 0 + 1 ≤ R.frames ∧ 8 + (3 + 11) + 0 ≤ R.locals) : CallB R s args RX9 125 yX9_isIn cX9_isIn 3 (some .boolean) (wsq yX9_isIn cX9_isIn 3 (some .boolean)) (rmq 0 0) 0 0 3 ∧ (Cond.static yX9_isIn).before args s = true := va_cwS 3 ht (goodS wd6_33 wd6_34 wd1_10 wd6_35) rfl rfl rfl (by decide +kernel) hR
def f_X9_isWord (p1 : Int32) (M : Mem) : Option Int32 := (bq1 (f_X9_isIn p1 (0 : Int32) ((gi M 139 9) - (1 : Int32))) (fun (x1 : Int32) => gq (zB x1) (some x1)))
set_option maxHeartbeats 4000000 in
set_option maxRecDepth 100000 in
theorem ct_X9_isWord (l : Launch) (G : GG) {p1 : Int32} {M : Mem} {r : Int32}  (hf : f_X9_isWord p1 M = some r) : Met l yX9_isWord (wsq yX9_isWord cX9_isWord 2 (some .boolean)) (rmq 1 22) (va_Pc [.ref (G.2.2.1 139), .int p1] (World G M)) (Qi G r M) 0 0 (adA G) := by
  refine x_start (plainFor_of_name (by decide)) (Nat.le_of_ble_eq_true rfl) ?_
  intro p e s m args below meth c hB hr hlk hW hS ls hl
  have hx := hB.x
  have hb := hB.b
  have hl : lv_has ls 2 [(0, .ref (G.2.2.1 139)), (1, .int p1)] := hl
  unfold f_X9_isWord at hf
  refine lv_iload_n hx hb dX9_isWord_0 rfl (lv_at hl 1 rfl) ?_
  refine lv_iconst (v := (0 : Int32)) hx hb dX9_isWord_1 (by decide) ?_
  refine lv_aload_n hx hb dX9_isWord_2 rfl (lv_at hl 0 rfl) ?_
  refine fg9_9 hB hW tl139 wd5_88 dX9_isWord_3 ?_
  refine lv_iconst (v := (1 : Int32)) hx hb dX9_isWord_6 (by decide) ?_
  refine lv_isub hx hb dX9_isWord_7 ?_
  obtain ⟨x1, hg2, hf⟩ := b_o1 hf
  refine x_ci hB (x_rs hB hW hS (As := [.int p1, .int (0 : Int32), .int ((gi M 139 9) - (1 : Int32))]) (rest := []) (ct_X9_isIn l G hg2) (cl_RX9_125 hB.2.2.2.2.1 ⟨Nat.le_of_ble_eq_true rfl, Nat.le_of_ble_eq_true rfl⟩) rfl hl.1 rfl (Nat.le_of_ble_eq_true rfl) dX9_isWord_8 ⟨Nat.le_refl _, Nat.le_refl _⟩) hS (fun H locs hW hS => ?_)
  obtain ⟨h3, hf⟩ := g_o hf
  exact e_z h3 hB hW hS hr hlk (Option.some.inj hf) rfl dX9_isWord_11
def f_X9_isLetter (p1 : Int32) : Option Int32 := (bq1 (f_X9_isIn p1 (0 : Int32) (7 : Int32)) (fun (x1 : Int32) => gq (zB x1) (some x1)))
set_option maxHeartbeats 4000000 in
set_option maxRecDepth 100000 in
theorem ct_X9_isLetter (l : Launch) (G : GG) {p1 : Int32} {M : Mem} {r : Int32}  (hf : f_X9_isLetter p1 = some r) : Met l yX9_isLetter (wsq yX9_isLetter cX9_isLetter 1 (some .boolean)) (rmq 1 22) (va_Pc [.int p1] (World G M)) (Qi G r M) 0 0 (adA G) := by
  refine x_start (plainFor_of_name (by decide)) (Nat.le_of_ble_eq_true rfl) ?_
  intro p e s m args below meth c hB hr hlk hW hS ls hl
  have hx := hB.x
  have hb := hB.b
  have hl : lv_has ls 1 [(0, .int p1)] := hl
  unfold f_X9_isLetter at hf
  refine lv_iload_n hx hb dX9_isLetter_0 rfl (lv_at hl 0 rfl) ?_
  refine lv_iconst (v := (0 : Int32)) hx hb dX9_isLetter_1 (by decide) ?_
  refine lv_bipush (v := (7 : Int32)) hx hb dX9_isLetter_2 (by decide) ?_
  obtain ⟨x1, hg2, hf⟩ := b_o1 hf
  refine x_ci hB (x_rs hB hW hS (As := [.int p1, .int (0 : Int32), .int (7 : Int32)]) (rest := []) (ct_X9_isIn l G hg2) (cl_RX9_125 hB.2.2.2.2.1 ⟨Nat.le_of_ble_eq_true rfl, Nat.le_of_ble_eq_true rfl⟩) rfl hl.1 rfl (Nat.le_of_ble_eq_true rfl) dX9_isLetter_4 ⟨Nat.le_refl _, Nat.le_refl _⟩) hS (fun H locs hW hS => ?_)
  obtain ⟨h3, hf⟩ := g_o hf
  exact e_z h3 hB hW hS hr hlk (Option.some.inj hf) rfl dX9_isLetter_7
def f_X9_stretches (M : Mem) : Option Int32 := (jq (fun (_ : Unit) => some ((gi M 139 13) + (gi M 139 20))) (fun (K2 : Unit → Option Int32) => (if (gi M 139 19) = (1 : Int32) then (K2 ()) else (if (gi M 139 19) = (3 : Int32) then (K2 ()) else (if (gi M 139 19) = (5 : Int32) then some ((2 : Int32) * ((gi M 139 13) + (gi M 139 20))) else some (gi M 139 13))))))
set_option maxHeartbeats 4000000 in
set_option maxRecDepth 100000 in
theorem ct_X9_stretches (l : Launch) (G : GG)  {M : Mem} {r : Int32}  (hf : f_X9_stretches M = some r) : Met l yX9_stretches (wsq yX9_stretches cX9_stretches 1 (some .int)) (rmq 0 0) (va_Pc [.ref (G.2.2.1 139)] (World G M)) (Qi G r M) 0 0 (adA G) := by
  refine x_start (plainFor_of_name (by decide)) (Nat.le_of_ble_eq_true rfl) ?_
  intro p e s m args below meth c hB hr hlk hW hS ls hl
  have hx := hB.x
  have hb := hB.b
  have hl : lv_has ls 1 [(0, .ref (G.2.2.1 139))] := hl
  unfold f_X9_stretches at hf
  refine lv_aload_n hx hb dX9_stretches_0 rfl (lv_at hl 0 rfl) ?_
  refine fg9_19 hB hW tl139 wd5_98 dX9_stretches_1 ?_
  refine lv_iconst (v := (1 : Int32)) hx hb dX9_stretches_4 (by decide) ?_
  obtain ⟨K2, eK2, hf⟩ := j_o hf
  have main1 : ∀ (_ : Unit) (H : Heap) (locs : List Loc) (ls : Array Slot), Wd G M H → va_S (adA G) s.heap H locs → lv_has ls 1 [(0, .ref (G.2.2.1 139))] → K2 () = some r → W p l e (rmq 0 0) s m args below meth c H locs 0 0 (MQ below (Qi G r M) args s 0 0 (adA G)) (F0 m 16 ls []) := by
    intro _ H locs ls hW hS hl hf
    subst eK2
    refine lv_aload_n hx hb dX9_stretches_16 rfl (lv_at hl 0 rfl) ?_
    refine fg9_13 hB hW tl139 wd5_92 dX9_stretches_17 ?_
    refine lv_aload_n hx hb dX9_stretches_20 rfl (lv_at hl 0 rfl) ?_
    refine fg9_20 hB hW tl139 wd5_99 dX9_stretches_21 ?_
    refine lv_iadd hx hb dX9_stretches_24 ?_
    exact e_i hB hW hS hr hlk (Option.some.inj hf) rfl dX9_stretches_25
  refine lv_icmp_eq (tgt := 16) hx hb dX9_stretches_5 (by decide) (fun c3 => ?_) (fun c3 => ?_)
  · have hf := i_t hf c3
    exact main1 () _ _ ls hW hS (lv_sub hl [0] rfl) hf
  · have hf := i_f hf c3
    refine lv_aload_n hx hb dX9_stretches_8 rfl (lv_at hl 0 rfl) ?_
    refine fg9_19 hB hW tl139 wd5_98 dX9_stretches_9 ?_
    refine lv_iconst (v := (3 : Int32)) hx hb dX9_stretches_12 (by decide) ?_
    refine lv_icmp_ne (tgt := 26) hx hb dX9_stretches_13 (by decide) (fun c4 => ?_) (fun c4 => ?_)
    · have hf := i_f hf c4
      refine lv_aload_n hx hb dX9_stretches_26 rfl (lv_at hl 0 rfl) ?_
      refine fg9_19 hB hW tl139 wd5_98 dX9_stretches_27 ?_
      refine lv_iconst (v := (5 : Int32)) hx hb dX9_stretches_30 (by decide) ?_
      refine lv_icmp_ne (tgt := 48) hx hb dX9_stretches_31 (by decide) (fun c5 => ?_) (fun c5 => ?_)
      · have hf := i_f hf c5
        refine lv_aload_n hx hb dX9_stretches_48 rfl (lv_at hl 0 rfl) ?_
        refine fg9_13 hB hW tl139 wd5_92 dX9_stretches_49 ?_
        exact e_i hB hW hS hr hlk (Option.some.inj hf) rfl dX9_stretches_52
      · have hf := i_t hf c5
        refine lv_iconst (v := (2 : Int32)) hx hb dX9_stretches_34 (by decide) ?_
        refine lv_aload_n hx hb dX9_stretches_35 rfl (lv_at hl 0 rfl) ?_
        refine fg9_13 hB hW tl139 wd5_92 dX9_stretches_36 ?_
        refine lv_aload_n hx hb dX9_stretches_39 rfl (lv_at hl 0 rfl) ?_
        refine fg9_20 hB hW tl139 wd5_99 dX9_stretches_40 ?_
        refine lv_iadd hx hb dX9_stretches_43 ?_
        refine lv_imul hx hb dX9_stretches_44 ?_
        refine lv_goto (tgt := 52) hx hb dX9_stretches_45 (by decide) ?_
        exact e_i hB hW hS hr hlk (Option.some.inj hf) rfl dX9_stretches_52
    · have hf := i_t hf c4
      exact main1 () _ _ ls hW hS (lv_sub hl [0] rfl) hf
def f_X9_shrinks (M : Mem) : Option Int32 := (jq (fun (_ : Unit) => (if (gi M 139 12) ≤ (gi M 139 14) then some (gi M 139 12) else some ((gi M 139 14) + (1 : Int32)))) (fun (K2 : Unit → Option Int32) => (if (gi M 139 19) = (2 : Int32) then (K2 ()) else (if (gi M 139 19) = (4 : Int32) then (K2 ()) else some (gi M 139 14)))))
set_option maxHeartbeats 4000000 in
set_option maxRecDepth 100000 in
theorem ct_X9_shrinks (l : Launch) (G : GG)  {M : Mem} {r : Int32}  (hf : f_X9_shrinks M = some r) : Met l yX9_shrinks (wsq yX9_shrinks cX9_shrinks 1 (some .int)) (rmq 0 0) (va_Pc [.ref (G.2.2.1 139)] (World G M)) (Qi G r M) 0 0 (adA G) := by
  refine x_start (plainFor_of_name (by decide)) (Nat.le_of_ble_eq_true rfl) ?_
  intro p e s m args below meth c hB hr hlk hW hS ls hl
  have hx := hB.x
  have hb := hB.b
  have hl : lv_has ls 1 [(0, .ref (G.2.2.1 139))] := hl
  unfold f_X9_shrinks at hf
  refine lv_aload_n hx hb dX9_shrinks_0 rfl (lv_at hl 0 rfl) ?_
  refine fg9_19 hB hW tl139 wd5_98 dX9_shrinks_1 ?_
  refine lv_iconst (v := (2 : Int32)) hx hb dX9_shrinks_4 (by decide) ?_
  obtain ⟨K2, eK2, hf⟩ := j_o hf
  have main1 : ∀ (_ : Unit) (H : Heap) (locs : List Loc) (ls : Array Slot), Wd G M H → va_S (adA G) s.heap H locs → lv_has ls 1 [(0, .ref (G.2.2.1 139))] → K2 () = some r → W p l e (rmq 0 0) s m args below meth c H locs 0 0 (MQ below (Qi G r M) args s 0 0 (adA G)) (F0 m 21 ls []) := by
    intro _ H locs ls hW hS hl hf
    subst eK2
    refine lv_aload_n hx hb dX9_shrinks_21 rfl (lv_at hl 0 rfl) ?_
    refine fg9_14 hB hW tl139 wd5_93 dX9_shrinks_22 ?_
    refine lv_aload_n hx hb dX9_shrinks_25 rfl (lv_at hl 0 rfl) ?_
    refine fg9_12 hB hW tl139 wd5_91 dX9_shrinks_26 ?_
    refine lv_icmp_ge (tgt := 41) hx hb dX9_shrinks_29 (by decide) (fun c3 => ?_) (fun c3 => ?_)
    · have hf := i_t hf c3
      refine lv_aload_n hx hb dX9_shrinks_41 rfl (lv_at hl 0 rfl) ?_
      refine fg9_12 hB hW tl139 wd5_91 dX9_shrinks_42 ?_
      exact e_i hB hW hS hr hlk (Option.some.inj hf) rfl dX9_shrinks_45
    · have hf := i_f hf c3
      refine lv_aload_n hx hb dX9_shrinks_32 rfl (lv_at hl 0 rfl) ?_
      refine fg9_14 hB hW tl139 wd5_93 dX9_shrinks_33 ?_
      refine lv_iconst (v := (1 : Int32)) hx hb dX9_shrinks_36 (by decide) ?_
      refine lv_iadd hx hb dX9_shrinks_37 ?_
      refine lv_goto (tgt := 45) hx hb dX9_shrinks_38 (by decide) ?_
      exact e_i hB hW hS hr hlk (Option.some.inj hf) rfl dX9_shrinks_45
  refine lv_icmp_eq (tgt := 21) hx hb dX9_shrinks_5 (by decide) (fun c4 => ?_) (fun c4 => ?_)
  · have hf := i_t hf c4
    exact main1 () _ _ ls hW hS (lv_sub hl [0] rfl) hf
  · have hf := i_f hf c4
    refine lv_aload_n hx hb dX9_shrinks_8 rfl (lv_at hl 0 rfl) ?_
    refine fg9_19 hB hW tl139 wd5_98 dX9_shrinks_9 ?_
    refine lv_iconst (v := (4 : Int32)) hx hb dX9_shrinks_12 (by decide) ?_
    refine lv_icmp_eq (tgt := 21) hx hb dX9_shrinks_13 (by decide) (fun c5 => ?_) (fun c5 => ?_)
    · have hf := i_t hf c5
      exact main1 () _ _ ls hW hS (lv_sub hl [0] rfl) hf
    · have hf := i_f hf c5
      refine lv_aload_n hx hb dX9_shrinks_16 rfl (lv_at hl 0 rfl) ?_
      refine fg9_14 hB hW tl139 wd5_93 dX9_shrinks_17 ?_
      exact e_i hB hW hS hr hlk (Option.some.inj hf) rfl dX9_shrinks_20
def f_X9_penalty (M : Mem) : Option Int32 := (jq (fun (_ : Unit) => some ((gi M 139 16) / (2 : Int32))) (fun (K2 : Unit → Option Int32) => (if (gi M 139 19) = (2 : Int32) then (K2 ()) else (if (gi M 139 19) = (4 : Int32) then (K2 ()) else (if (gi M 139 19) = (5 : Int32) then some ((gi M 139 16) + (gi M 139 20)) else some (gi M 139 16))))))
set_option maxHeartbeats 4000000 in
set_option maxRecDepth 100000 in
theorem ct_X9_penalty (l : Launch) (G : GG)  {M : Mem} {r : Int32}  (hf : f_X9_penalty M = some r) : Met l yX9_penalty (wsq yX9_penalty cX9_penalty 1 (some .int)) (rmq 0 0) (va_Pc [.ref (G.2.2.1 139)] (World G M)) (Qi G r M) 0 0 (adA G) := by
  refine x_start (plainFor_of_name (by decide)) (Nat.le_of_ble_eq_true rfl) ?_
  intro p e s m args below meth c hB hr hlk hW hS ls hl
  have hx := hB.x
  have hb := hB.b
  have hl : lv_has ls 1 [(0, .ref (G.2.2.1 139))] := hl
  unfold f_X9_penalty at hf
  refine lv_aload_n hx hb dX9_penalty_0 rfl (lv_at hl 0 rfl) ?_
  refine fg9_19 hB hW tl139 wd5_98 dX9_penalty_1 ?_
  refine lv_iconst (v := (2 : Int32)) hx hb dX9_penalty_4 (by decide) ?_
  obtain ⟨K2, eK2, hf⟩ := j_o hf
  have main1 : ∀ (_ : Unit) (H : Heap) (locs : List Loc) (ls : Array Slot), Wd G M H → va_S (adA G) s.heap H locs → lv_has ls 1 [(0, .ref (G.2.2.1 139))] → K2 () = some r → W p l e (rmq 0 0) s m args below meth c H locs 0 0 (MQ below (Qi G r M) args s 0 0 (adA G)) (F0 m 16 ls []) := by
    intro _ H locs ls hW hS hl hf
    subst eK2
    refine lv_aload_n hx hb dX9_penalty_16 rfl (lv_at hl 0 rfl) ?_
    refine fg9_16 hB hW tl139 wd5_95 dX9_penalty_17 ?_
    refine lv_iconst (v := (2 : Int32)) hx hb dX9_penalty_20 (by decide) ?_
    refine lv_idiv hx hb dX9_penalty_21 (by decide) ?_
    exact e_i hB hW hS hr hlk (Option.some.inj hf) rfl dX9_penalty_22
  refine lv_icmp_eq (tgt := 16) hx hb dX9_penalty_5 (by decide) (fun c3 => ?_) (fun c3 => ?_)
  · have hf := i_t hf c3
    exact main1 () _ _ ls hW hS (lv_sub hl [0] rfl) hf
  · have hf := i_f hf c3
    refine lv_aload_n hx hb dX9_penalty_8 rfl (lv_at hl 0 rfl) ?_
    refine fg9_19 hB hW tl139 wd5_98 dX9_penalty_9 ?_
    refine lv_iconst (v := (4 : Int32)) hx hb dX9_penalty_12 (by decide) ?_
    refine lv_icmp_ne (tgt := 23) hx hb dX9_penalty_13 (by decide) (fun c4 => ?_) (fun c4 => ?_)
    · have hf := i_f hf c4
      refine lv_aload_n hx hb dX9_penalty_23 rfl (lv_at hl 0 rfl) ?_
      refine fg9_19 hB hW tl139 wd5_98 dX9_penalty_24 ?_
      refine lv_iconst (v := (5 : Int32)) hx hb dX9_penalty_27 (by decide) ?_
      refine lv_icmp_ne (tgt := 43) hx hb dX9_penalty_28 (by decide) (fun c5 => ?_) (fun c5 => ?_)
      · have hf := i_f hf c5
        refine lv_aload_n hx hb dX9_penalty_43 rfl (lv_at hl 0 rfl) ?_
        refine fg9_16 hB hW tl139 wd5_95 dX9_penalty_44 ?_
        exact e_i hB hW hS hr hlk (Option.some.inj hf) rfl dX9_penalty_47
      · have hf := i_t hf c5
        refine lv_aload_n hx hb dX9_penalty_31 rfl (lv_at hl 0 rfl) ?_
        refine fg9_16 hB hW tl139 wd5_95 dX9_penalty_32 ?_
        refine lv_aload_n hx hb dX9_penalty_35 rfl (lv_at hl 0 rfl) ?_
        refine fg9_20 hB hW tl139 wd5_99 dX9_penalty_36 ?_
        refine lv_iadd hx hb dX9_penalty_39 ?_
        refine lv_goto (tgt := 47) hx hb dX9_penalty_40 (by decide) ?_
        exact e_i hB hW hS hr hlk (Option.some.inj hf) rfl dX9_penalty_47
    · have hf := i_t hf c4
      exact main1 () _ _ ls hW hS (lv_sub hl [0] rfl) hf
def f_X9_standsAt_L3 (p1 : Int32) (p2 : Int32) (p3 : Int32) (M : Mem) (K2 : Int32 → Option Int32) (x1 : Int32) : Option Int32 := (gq (inB p1 8) ((if (gi M 145 ((p1 : Int32).toNatClampNeg)) ≤ x1 then some (1 : Int32) else (gq (inB ((((12 : Int32) * p2) + p3) + x1) 192) (gq (inB (((3 : Int32) * p1) + x1) 24) ((if (gi M 143 ((((((12 : Int32) * p2) + p3) + x1) : Int32).toNatClampNeg)) = (gi M 146 (((((3 : Int32) * p1) + x1) : Int32).toNatClampNeg)) then (nmq (x1 + (1 : Int32)) (fun (x9 : Int32) => (K2 x9))) else some (0 : Int32))))))))
def f_X9_standsAt (p1 : Int32) (p2 : Int32) (p3 : Int32) (M : Mem) : Option Int32 := (lq1 (f_X9_standsAt_L3 p1 p2 p3 M) FU (0 : Int32))
set_option maxHeartbeats 4000000 in
set_option maxRecDepth 100000 in
theorem ct_X9_standsAt (l : Launch) (G : GG) {p1 : Int32} {p2 : Int32} {p3 : Int32} {M : Mem} {r : Int32}  (hf : f_X9_standsAt p1 p2 p3 M = some r) : Met l yX9_standsAt (wsq yX9_standsAt cX9_standsAt 5 (some .boolean)) (rmq 0 0) (va_Pc [.ref (G.2.2.1 139), .int p1, .int p2, .int p3] (World G M)) (Qi G r M) 0 0 (adA G) := by
  refine x_start (plainFor_of_name (by decide)) (Nat.le_of_ble_eq_true rfl) ?_
  intro p e s m args below meth c hB hr hlk hW hS ls hl
  have hx := hB.x
  have hb := hB.b
  have hl : lv_has ls 5 [(0, .ref (G.2.2.1 139)), (1, .int p1), (2, .int p2), (3, .int p3)] := hl
  unfold f_X9_standsAt at hf
  refine lv_iconst (v := (0 : Int32)) hx hb dX9_standsAt_0 (by decide) ?_
  refine lv_istore (lv' := [(4, .int (0 : Int32)), (0, .ref (G.2.2.1 139)), (1, .int p1), (2, .int p2), (3, .int p3)]) hx hb dX9_standsAt_1 hl (by decide) rfl (fun ls hl => ?_)
  have loop3 : ∀ (n : Nat) (x1 : Int32) (H : Heap) (locs : List Loc) (ls : Array Slot), Wd G M H → va_S (adA G) s.heap H locs → lv_has ls 5 [(0, .ref (G.2.2.1 139)), (1, .int p1), (2, .int p2), (3, .int p3), (4, .int x1)] → lq1 (f_X9_standsAt_L3 p1 p2 p3 M) n x1 = some r → W p l e (rmq 0 0) s m args below meth c H locs 0 0 (MQ below (Qi G r M) args s 0 0 (adA G)) (F0 m 3 ls []) := by
    intro n
    induction n with
    | zero => intro x1 H locs ls hW hS hl hf; exact (l_z1 hf).elim
    | succ n ih =>
      intro x1 H locs ls hW hS hl hf
      have hf := l_s1 hf
      generalize lq1 (f_X9_standsAt_L3 p1 p2 p3 M) n = K2 at ih hf
      unfold f_X9_standsAt_L3 at hf
      refine lv_iload hx hb dX9_standsAt_3 (lv_at hl 4 rfl) ?_
      refine lv_aload_n hx hb dX9_standsAt_5 rfl (lv_at hl 0 rfl) ?_
      refine fg9_5 hB hW tl139 wd5_84 dX9_standsAt_6 ?_
      refine lv_iload_n hx hb dX9_standsAt_9 rfl (lv_at hl 1 rfl) ?_
      obtain ⟨h4, hf⟩ := g_o hf
      refine x_iald hB hW tl145 al145 h4 dX9_standsAt_10 ?_
      refine lv_icmp_ge (tgt := 50) hx hb dX9_standsAt_11 (by decide) (fun c5 => ?_) (fun c5 => ?_)
      · have hf := i_t hf c5
        refine lv_iconst (v := (1 : Int32)) hx hb dX9_standsAt_50 (by decide) ?_
        exact e_z (by decide) hB hW hS hr hlk (Option.some.inj hf) rfl dX9_standsAt_51
      · have hf := i_f hf c5
        refine lv_aload_n hx hb dX9_standsAt_14 rfl (lv_at hl 0 rfl) ?_
        refine fg9_3 hB hW tl139 wd5_82 dX9_standsAt_15 ?_
        refine lv_bipush (v := (12 : Int32)) hx hb dX9_standsAt_18 (by decide) ?_
        refine lv_iload_n hx hb dX9_standsAt_20 rfl (lv_at hl 2 rfl) ?_
        refine lv_imul hx hb dX9_standsAt_21 ?_
        refine lv_iload_n hx hb dX9_standsAt_22 rfl (lv_at hl 3 rfl) ?_
        refine lv_iadd hx hb dX9_standsAt_23 ?_
        refine lv_iload hx hb dX9_standsAt_24 (lv_at hl 4 rfl) ?_
        refine lv_iadd hx hb dX9_standsAt_26 ?_
        obtain ⟨h6, hf⟩ := g_o hf
        refine x_iald hB hW tl143 al143 h6 dX9_standsAt_27 ?_
        refine lv_aload_n hx hb dX9_standsAt_28 rfl (lv_at hl 0 rfl) ?_
        refine fg9_6 hB hW tl139 wd5_85 dX9_standsAt_29 ?_
        refine lv_iconst (v := (3 : Int32)) hx hb dX9_standsAt_32 (by decide) ?_
        refine lv_iload_n hx hb dX9_standsAt_33 rfl (lv_at hl 1 rfl) ?_
        refine lv_imul hx hb dX9_standsAt_34 ?_
        refine lv_iload hx hb dX9_standsAt_35 (lv_at hl 4 rfl) ?_
        refine lv_iadd hx hb dX9_standsAt_37 ?_
        obtain ⟨h7, hf⟩ := g_o hf
        refine x_iald hB hW tl146 al146 h7 dX9_standsAt_38 ?_
        refine lv_icmp_eq (tgt := 44) hx hb dX9_standsAt_39 (by decide) (fun c8 => ?_) (fun c8 => ?_)
        · have hf := i_t hf c8
          obtain ⟨x9, ex9⟩ : ∃ y : Int32, y = x1 + (1 : Int32) := ⟨_, rfl⟩
          have hf := nm_o hf ex9
          refine lv_iinc (v := x9) (lv' := [(4, .int x9), (0, .ref (G.2.2.1 139)), (1, .int p1), (2, .int p2), (3, .int p3)]) hx hb dX9_standsAt_44 hl (k := 4) rfl (by rw [ex9]; rfl) (by decide) rfl (fun ls hl => ?_)
          refine lv_goto (tgt := 3) hx hb dX9_standsAt_47 (by decide) ?_
          exact ih x9 _ _ ls hW hS (lv_sub hl [1, 2, 3, 4, 0] rfl) hf
        · have hf := i_f hf c8
          refine lv_iconst (v := (0 : Int32)) hx hb dX9_standsAt_42 (by decide) ?_
          exact e_z (by decide) hB hW hS hr hlk (Option.some.inj hf) rfl dX9_standsAt_43
  exact loop3 FU (0 : Int32) _ _ ls hW hS (lv_sub hl [1, 2, 3, 4, 0] rfl) hf
theorem cl_RX9_138 {R : Room} {s : State} {args : Array Value} (ht : ∀ w ∈ lw_all, w.before args s = true) (hR : 0 + 1 ≤ R.frames ∧ 8 + (5 + 11) + 0 ≤ R.locals) : CallW R s args RX9 RX9 138 yX9_standsAt cX9_standsAt 5 (some .boolean) (wsq yX9_standsAt cX9_standsAt 5 (some .boolean)) (rmq 0 0) 0 0 3 := cwV 3 ht (goodV wd6_190 wd6_192 wsel_62 wd1_10 wd6_193) rfl rfl rfl (by decide +kernel) hR
def f_X9_valueOf_L5 (p1 : Int32) (p2 : Int32) (M : Mem) (K3 : Int32 → Int32 → Option (Int32)) (x1 : Int32) (x2 : Int32) : Option (Int32) := (if (gi M 139 10) ≤ x2 then (some (x1)) else (gq (inB x2 8) (nmq ((p2 - (gi M 147 ((x2 : Int32).toNatClampNeg)))) (fun (x10 : Int32) => (bq1 ((if x10 < 0 then (some ((0 : Int32))) else (gq (inB x2 8) (gq (inB p1 16) ((if (gi M 142 ((p1 : Int32).toNatClampNeg)) < (x10 + (gi M 145 ((x2 : Int32).toNatClampNeg))) then (some ((0 : Int32))) else (bq1 (f_X9_standsAt x2 p1 x10 M) (fun (x26 : Int32) => (if x26 = 0 then (some ((0 : Int32))) else (some ((1 : Int32))))))))))) : Option (Int32)) (fun (x11 : Int32) => (if x11 = 0 then (nmq (x2 + (1 : Int32)) (fun (x14 : Int32) => (K3 x1 x14))) else (gq (inB x2 8) ((if (gi M 148 ((x2 : Int32).toNatClampNeg)) ≤ x1 then (nmq (x2 + (1 : Int32)) (fun (x17 : Int32) => (K3 x1 x17))) else (gq (inB x2 8) ((nmq ((gi M 148 ((x2 : Int32).toNatClampNeg))) (fun (x19 : Int32) => nmq (x2 + (1 : Int32)) (fun (x20 : Int32) => (K3 x19 x20))))))))))))))))
def f_X9_valueOf (p1 : Int32) (p2 : Int32) (M : Mem) : Option Int32 := (bq1 (lq2 (f_X9_valueOf_L5 p1 p2 M) FU (0 : Int32) (0 : Int32)) (fun (x5 : Int32) => some x5))
set_option maxHeartbeats 4000000 in
set_option maxRecDepth 100000 in
theorem ct_X9_valueOf (l : Launch) (G : GG) {p1 : Int32} {p2 : Int32} {M : Mem} {r : Int32}  (hf : f_X9_valueOf p1 p2 M = some r) : Met l yX9_valueOf (wsq yX9_valueOf cX9_valueOf 7 (some .int)) (rmq 1 24) (va_Pc [.ref (G.2.2.1 139), .int p1, .int p2] (World G M)) (Qi G r M) 0 0 (adA G) := by
  refine x_start (plainFor_of_name (by decide)) (Nat.le_of_ble_eq_true rfl) ?_
  intro p e s m args below meth c hB hr hlk hW hS ls hl
  have hx := hB.x
  have hb := hB.b
  have hl : lv_has ls 7 [(0, .ref (G.2.2.1 139)), (1, .int p1), (2, .int p2)] := hl
  unfold f_X9_valueOf at hf
  refine lv_iconst (v := (0 : Int32)) hx hb dX9_valueOf_0 (by decide) ?_
  refine lv_istore_n (lv' := [(3, .int (0 : Int32)), (0, .ref (G.2.2.1 139)), (1, .int p1), (2, .int p2)]) hx hb dX9_valueOf_1 rfl hl (by decide) rfl (fun ls hl => ?_)
  refine lv_iconst (v := (0 : Int32)) hx hb dX9_valueOf_2 (by decide) ?_
  refine lv_istore (lv' := [(4, .int (0 : Int32)), (3, .int (0 : Int32)), (0, .ref (G.2.2.1 139)), (1, .int p1), (2, .int p2)]) hx hb dX9_valueOf_3 hl (by decide) rfl (fun ls hl => ?_)
  obtain ⟨y6, hL, hf⟩ := b_o1 hf
  have main7 : ∀ (x5 : Int32) (H : Heap) (locs : List Loc) (ls : Array Slot), Wd G M H → va_S (adA G) s.heap H locs → lv_has ls 7 [(3, .int x5)] → some (x5) = some (y6) → W p l e (rmq 1 24) s m args below meth c H locs 0 0 (MQ below (Qi G r M) args s 0 0 (adA G)) (F0 m 102 ls []) := by
    intro x5 H locs ls hW hS hl hE
    cases hE
    refine lv_iload_n hx hb dX9_valueOf_102 rfl (lv_at hl 0 rfl) ?_
    exact e_i hB hW hS hr hlk (Option.some.inj hf) rfl dX9_valueOf_103
  have loop4 : ∀ (n : Nat) (x1 : Int32) (x2 : Int32) (H : Heap) (locs : List Loc) (ls : Array Slot), Wd G M H → va_S (adA G) s.heap H locs → lv_has ls 7 [(0, .ref (G.2.2.1 139)), (1, .int p1), (2, .int p2), (3, .int x1), (4, .int x2)] → lq2 (f_X9_valueOf_L5 p1 p2 M) n x1 x2 = some (y6) → W p l e (rmq 1 24) s m args below meth c H locs 0 0 (MQ below (Qi G r M) args s 0 0 (adA G)) (F0 m 5 ls []) := by
    intro n
    induction n with
    | zero => intro x1 x2 H locs ls hW hS hl hf; exact (l_z2 hf).elim
    | succ n ih =>
      intro x1 x2 H locs ls hW hS hl hf
      have hf := l_s2 hf
      generalize lq2 (f_X9_valueOf_L5 p1 p2 M) n = K3 at ih hf
      unfold f_X9_valueOf_L5 at hf
      refine lv_iload hx hb dX9_valueOf_5 (lv_at hl 4 rfl) ?_
      refine lv_aload_n hx hb dX9_valueOf_7 rfl (lv_at hl 0 rfl) ?_
      refine fg9_10 hB hW tl139 wd5_89 dX9_valueOf_8 ?_
      refine lv_icmp_ge (tgt := 102) hx hb dX9_valueOf_11 (by decide) (fun c8 => ?_) (fun c8 => ?_)
      · have hf := i_t hf c8
        exact main7 x1 _ _ ls hW hS (lv_sub hl [3] rfl) hf
      · have hf := i_f hf c8
        refine lv_iload_n hx hb dX9_valueOf_14 rfl (lv_at hl 2 rfl) ?_
        refine lv_aload_n hx hb dX9_valueOf_15 rfl (lv_at hl 0 rfl) ?_
        refine fg9_7 hB hW tl139 wd5_86 dX9_valueOf_16 ?_
        refine lv_iload hx hb dX9_valueOf_19 (lv_at hl 4 rfl) ?_
        obtain ⟨h9, hf⟩ := g_o hf
        refine x_iald hB hW tl147 al147 h9 dX9_valueOf_21 ?_
        refine lv_isub hx hb dX9_valueOf_22 ?_
        refine lv_topi (fun x10 ex10 => ?_)
        have hf := nm_o hf ex10
        refine lv_istore (lv' := [(5, .int x10), (0, .ref (G.2.2.1 139)), (1, .int p1), (2, .int p2), (3, .int x1), (4, .int x2)]) hx hb dX9_valueOf_23 hl (by decide) rfl (fun ls hl => ?_)
        refine lv_iload hx hb dX9_valueOf_25 (lv_at hl 0 rfl) ?_
        obtain ⟨y21, hR, hf⟩ := b_o1 hf
        have main12 : ∀ (x11 : Int32) (H : Heap) (locs : List Loc) (ls : Array Slot), Wd G M H → va_S (adA G) s.heap H locs → lv_has ls 7 [(0, .ref (G.2.2.1 139)), (1, .int p1), (2, .int p2), (3, .int x1), (4, .int x2)] → some (x11) = some (y21) → W p l e (rmq 1 24) s m args below meth c H locs 0 0 (MQ below (Qi G r M) args s 0 0 (adA G)) (F0 m 66 ls [.int x11]) := by
          intro x11 H locs ls hW hS hl hE
          cases hE
          refine lv_istore (lv' := [(6, .int y21), (0, .ref (G.2.2.1 139)), (1, .int p1), (2, .int p2), (3, .int x1), (4, .int x2)]) hx hb dX9_valueOf_66 hl (by decide) rfl (fun ls hl => ?_)
          refine lv_iload hx hb dX9_valueOf_68 (lv_at hl 0 rfl) ?_
          refine lv_if_eq (tgt := 94) hx hb dX9_valueOf_70 (by decide) (fun c13 => ?_) (fun c13 => ?_)
          · have hf := i_t hf c13
            refine lv_iload_n hx hb dX9_valueOf_94 rfl (lv_at hl 4 rfl) ?_
            refine lv_istore_n (lv' := [(3, .int x1), (6, .int y21), (0, .ref (G.2.2.1 139)), (1, .int p1), (2, .int p2), (4, .int x2)]) hx hb dX9_valueOf_95 rfl hl (by decide) rfl (fun ls hl => ?_)
            obtain ⟨x14, ex14⟩ : ∃ y : Int32, y = x2 + (1 : Int32) := ⟨_, rfl⟩
            have hf := nm_o hf ex14
            refine lv_iinc (v := x14) (lv' := [(4, .int x14), (3, .int x1), (6, .int y21), (0, .ref (G.2.2.1 139)), (1, .int p1), (2, .int p2)]) hx hb dX9_valueOf_96 hl (k := 5) rfl (by rw [ex14]; rfl) (by decide) rfl (fun ls hl => ?_)
            refine lv_goto (tgt := 5) hx hb dX9_valueOf_99 (by decide) ?_
            exact ih x1 x14 _ _ ls hW hS (lv_sub hl [3, 4, 5, 1, 0] rfl) hf
          · have hf := i_f hf c13
            refine lv_aload_n hx hb dX9_valueOf_73 rfl (lv_at hl 1 rfl) ?_
            refine fg9_8 hB hW tl139 wd5_87 dX9_valueOf_74 ?_
            refine lv_iload hx hb dX9_valueOf_77 (lv_at hl 5 rfl) ?_
            obtain ⟨h15, hf⟩ := g_o hf
            refine x_iald hB hW tl148 al148 h15 dX9_valueOf_79 ?_
            refine lv_iload_n hx hb dX9_valueOf_80 rfl (lv_at hl 4 rfl) ?_
            refine lv_icmp_le (tgt := 94) hx hb dX9_valueOf_81 (by decide) (fun c16 => ?_) (fun c16 => ?_)
            · have hf := i_t hf c16
              refine lv_iload_n hx hb dX9_valueOf_94 rfl (lv_at hl 4 rfl) ?_
              refine lv_istore_n (lv' := [(3, .int x1), (6, .int y21), (0, .ref (G.2.2.1 139)), (1, .int p1), (2, .int p2), (4, .int x2)]) hx hb dX9_valueOf_95 rfl hl (by decide) rfl (fun ls hl => ?_)
              obtain ⟨x17, ex17⟩ : ∃ y : Int32, y = x2 + (1 : Int32) := ⟨_, rfl⟩
              have hf := nm_o hf ex17
              refine lv_iinc (v := x17) (lv' := [(4, .int x17), (3, .int x1), (6, .int y21), (0, .ref (G.2.2.1 139)), (1, .int p1), (2, .int p2)]) hx hb dX9_valueOf_96 hl (k := 5) rfl (by rw [ex17]; rfl) (by decide) rfl (fun ls hl => ?_)
              refine lv_goto (tgt := 5) hx hb dX9_valueOf_99 (by decide) ?_
              exact ih x1 x17 _ _ ls hW hS (lv_sub hl [3, 4, 5, 1, 0] rfl) hf
            · have hf := i_f hf c16
              refine lv_aload_n hx hb dX9_valueOf_84 rfl (lv_at hl 1 rfl) ?_
              refine fg9_8 hB hW tl139 wd5_87 dX9_valueOf_85 ?_
              refine lv_iload hx hb dX9_valueOf_88 (lv_at hl 5 rfl) ?_
              obtain ⟨h18, hf⟩ := g_o hf
              refine x_iald hB hW tl148 al148 h18 dX9_valueOf_90 ?_
              refine lv_goto (tgt := 95) hx hb dX9_valueOf_91 (by decide) ?_
              refine lv_topi (fun x19 ex19 => ?_)
              have hf := nm_o hf ex19
              refine lv_istore_n (lv' := [(3, .int x19), (6, .int y21), (0, .ref (G.2.2.1 139)), (1, .int p1), (2, .int p2), (4, .int x2)]) hx hb dX9_valueOf_95 rfl hl (by decide) rfl (fun ls hl => ?_)
              obtain ⟨x20, ex20⟩ : ∃ y : Int32, y = x2 + (1 : Int32) := ⟨_, rfl⟩
              have hf := nm_o hf ex20
              refine lv_iinc (v := x20) (lv' := [(4, .int x20), (3, .int x19), (6, .int y21), (0, .ref (G.2.2.1 139)), (1, .int p1), (2, .int p2)]) hx hb dX9_valueOf_96 hl (k := 5) rfl (by rw [ex20]; rfl) (by decide) rfl (fun ls hl => ?_)
              refine lv_goto (tgt := 5) hx hb dX9_valueOf_99 (by decide) ?_
              exact ih x19 x20 _ _ ls hW hS (lv_sub hl [3, 4, 5, 1, 0] rfl) hf
        have hf := hR
        refine lv_if_lt (tgt := 65) hx hb dX9_valueOf_27 (by decide) (fun c22 => ?_) (fun c22 => ?_)
        · have hf := i_t hf c22
          refine lv_iconst (v := (0 : Int32)) hx hb dX9_valueOf_65 (by decide) ?_
          exact main12 (0 : Int32) _ _ ls hW hS (lv_sub hl [1, 2, 3, 4, 5] rfl) hf
        · have hf := i_f hf c22
          refine lv_iload hx hb dX9_valueOf_30 (lv_at hl 0 rfl) ?_
          refine lv_aload_n hx hb dX9_valueOf_32 rfl (lv_at hl 1 rfl) ?_
          refine fg9_5 hB hW tl139 wd5_84 dX9_valueOf_33 ?_
          refine lv_iload hx hb dX9_valueOf_36 (lv_at hl 5 rfl) ?_
          obtain ⟨h23, hf⟩ := g_o hf
          refine x_iald hB hW tl145 al145 h23 dX9_valueOf_38 ?_
          refine lv_iadd hx hb dX9_valueOf_39 ?_
          refine lv_aload_n hx hb dX9_valueOf_40 rfl (lv_at hl 1 rfl) ?_
          refine fg9_2 hB hW tl139 wd5_81 dX9_valueOf_41 ?_
          refine lv_iload_n hx hb dX9_valueOf_44 rfl (lv_at hl 2 rfl) ?_
          obtain ⟨h24, hf⟩ := g_o hf
          refine x_iald hB hW tl142 al142 h24 dX9_valueOf_45 ?_
          refine lv_icmp_gt (tgt := 65) hx hb dX9_valueOf_46 (by decide) (fun c25 => ?_) (fun c25 => ?_)
          · have hf := i_t hf c25
            refine lv_iconst (v := (0 : Int32)) hx hb dX9_valueOf_65 (by decide) ?_
            exact main12 (0 : Int32) _ _ ls hW hS (lv_sub hl [1, 2, 3, 4, 5] rfl) hf
          · have hf := i_f hf c25
            refine lv_aload_n hx hb dX9_valueOf_49 rfl (lv_at hl 1 rfl) ?_
            refine lv_iload hx hb dX9_valueOf_50 (lv_at hl 5 rfl) ?_
            refine lv_iload_n hx hb dX9_valueOf_52 rfl (lv_at hl 2 rfl) ?_
            refine lv_iload hx hb dX9_valueOf_53 (lv_at hl 0 rfl) ?_
            obtain ⟨x26, hg27, hf⟩ := b_o1 hf
            refine x_ci hB (x_rv hB hW hS (As := [.int x2, .int p1, .int x10]) (rest := []) (ct_X9_standsAt l G hg27) (cl_RX9_138 hB.2.2.2.2.1 ⟨Nat.le_of_ble_eq_true rfl, Nat.le_of_ble_eq_true rfl⟩) tl139 (by decide) rfl rfl hl.1 rfl (Nat.le_of_ble_eq_true rfl) dX9_valueOf_55 ⟨Nat.le_refl _, Nat.le_refl _⟩) hS (fun H locs hW hS => ?_)
            refine lv_if_eq (tgt := 65) hx hb dX9_valueOf_58 (by decide) (fun c28 => ?_) (fun c28 => ?_)
            · have hf := i_t hf c28
              refine lv_iconst (v := (0 : Int32)) hx hb dX9_valueOf_65 (by decide) ?_
              exact main12 (0 : Int32) _ _ ls hW hS (lv_sub hl [1, 2, 3, 4, 5] rfl) hf
            · have hf := i_f hf c28
              refine lv_iconst (v := (1 : Int32)) hx hb dX9_valueOf_61 (by decide) ?_
              refine lv_goto (tgt := 66) hx hb dX9_valueOf_62 (by decide) ?_
              exact main12 (1 : Int32) _ _ ls hW hS (lv_sub hl [1, 2, 3, 4, 5] rfl) hf
  exact loop4 FU (0 : Int32) (0 : Int32) _ _ ls hW hS (lv_sub hl [2, 3, 4, 1, 0] rfl) hL
theorem cl_RX9_141 {R : Room} {s : State} {args : Array Value} (ht : ∀ w ∈ lw_all, w.before args s = true) (hR : 1 + 1 ≤ R.frames ∧ 8 + (7 + 11) + 24 ≤ R.locals) : CallW R s args RX9 RX9 141 yX9_valueOf cX9_valueOf 7 (some .int) (wsq yX9_valueOf cX9_valueOf 7 (some .int)) (rmq 1 24) 0 0 2 := cwV 2 ht (goodV wd6_186 wd6_188 wsel_61 wd1_10 wd6_189) rfl rfl rfl (by decide +kernel) hR
def f_X9_mayBreak (p1 : Int32) (p2 : Int32) (M : Mem) : Option Int32 := (if (gi M 139 19) = (3 : Int32) then some (0 : Int32) else (jq (fun (_ : Unit) => (if p2 < (2 : Int32) then some (0 : Int32) else (gq (inB p1 16) ((if ((gi M 142 ((p1 : Int32).toNatClampNeg)) - (2 : Int32)) < p2 then some (0 : Int32) else (bq1 (f_X9_valueOf p1 p2 M) (fun (x7 : Int32) => (if (irm x7 (2 : Int32)) = (1 : Int32) then some (1 : Int32) else some (0 : Int32))))))))) (fun (K3 : Unit → Option Int32) => (if (gi M 139 19) = (4 : Int32) then (gq (inB p1 16) ((if (gi M 139 20) < (gi M 142 ((p1 : Int32).toNatClampNeg)) then (K3 ()) else some (0 : Int32)))) else (K3 ())))))
set_option maxHeartbeats 4000000 in
set_option maxRecDepth 100000 in
theorem ct_X9_mayBreak (l : Launch) (G : GG) {p1 : Int32} {p2 : Int32} {M : Mem} {r : Int32}  (hf : f_X9_mayBreak p1 p2 M = some r) : Met l yX9_mayBreak (wsq yX9_mayBreak cX9_mayBreak 3 (some .boolean)) (rmq 2 50) (va_Pc [.ref (G.2.2.1 139), .int p1, .int p2] (World G M)) (Qi G r M) 0 0 (adA G) := by
  refine x_start (plainFor_of_name (by decide)) (Nat.le_of_ble_eq_true rfl) ?_
  intro p e s m args below meth c hB hr hlk hW hS ls hl
  have hx := hB.x
  have hb := hB.b
  have hl : lv_has ls 3 [(0, .ref (G.2.2.1 139)), (1, .int p1), (2, .int p2)] := hl
  unfold f_X9_mayBreak at hf
  refine lv_aload_n hx hb dX9_mayBreak_0 rfl (lv_at hl 0 rfl) ?_
  refine fg9_19 hB hW tl139 wd5_98 dX9_mayBreak_1 ?_
  refine lv_iconst (v := (3 : Int32)) hx hb dX9_mayBreak_4 (by decide) ?_
  refine lv_icmp_eq (tgt := 29) hx hb dX9_mayBreak_5 (by decide) (fun c1 => ?_) (fun c1 => ?_)
  · have hf := i_t hf c1
    refine lv_iconst (v := (0 : Int32)) hx hb dX9_mayBreak_29 (by decide) ?_
    exact e_z (by decide) hB hW hS hr hlk (Option.some.inj hf) rfl dX9_mayBreak_30
  · have hf := i_f hf c1
    refine lv_aload_n hx hb dX9_mayBreak_8 rfl (lv_at hl 0 rfl) ?_
    refine fg9_19 hB hW tl139 wd5_98 dX9_mayBreak_9 ?_
    refine lv_iconst (v := (4 : Int32)) hx hb dX9_mayBreak_12 (by decide) ?_
    obtain ⟨K3, eK3, hf⟩ := j_o hf
    have main2 : ∀ (_ : Unit) (H : Heap) (locs : List Loc) (ls : Array Slot), Wd G M H → va_S (adA G) s.heap H locs → lv_has ls 3 [(0, .ref (G.2.2.1 139)), (1, .int p1), (2, .int p2)] → K3 () = some r → W p l e (rmq 2 50) s m args below meth c H locs 0 0 (MQ below (Qi G r M) args s 0 0 (adA G)) (F0 m 31 ls []) := by
      intro _ H locs ls hW hS hl hf
      subst eK3
      refine lv_iload_n hx hb dX9_mayBreak_31 rfl (lv_at hl 2 rfl) ?_
      refine lv_iconst (v := (2 : Int32)) hx hb dX9_mayBreak_32 (by decide) ?_
      refine lv_icmp_lt (tgt := 64) hx hb dX9_mayBreak_33 (by decide) (fun c4 => ?_) (fun c4 => ?_)
      · have hf := i_t hf c4
        refine lv_iconst (v := (0 : Int32)) hx hb dX9_mayBreak_64 (by decide) ?_
        exact e_z (by decide) hB hW hS hr hlk (Option.some.inj hf) rfl dX9_mayBreak_65
      · have hf := i_f hf c4
        refine lv_iload_n hx hb dX9_mayBreak_36 rfl (lv_at hl 2 rfl) ?_
        refine lv_aload_n hx hb dX9_mayBreak_37 rfl (lv_at hl 0 rfl) ?_
        refine fg9_2 hB hW tl139 wd5_81 dX9_mayBreak_38 ?_
        refine lv_iload_n hx hb dX9_mayBreak_41 rfl (lv_at hl 1 rfl) ?_
        obtain ⟨h5, hf⟩ := g_o hf
        refine x_iald hB hW tl142 al142 h5 dX9_mayBreak_42 ?_
        refine lv_iconst (v := (2 : Int32)) hx hb dX9_mayBreak_43 (by decide) ?_
        refine lv_isub hx hb dX9_mayBreak_44 ?_
        refine lv_icmp_gt (tgt := 64) hx hb dX9_mayBreak_45 (by decide) (fun c6 => ?_) (fun c6 => ?_)
        · have hf := i_t hf c6
          refine lv_iconst (v := (0 : Int32)) hx hb dX9_mayBreak_64 (by decide) ?_
          exact e_z (by decide) hB hW hS hr hlk (Option.some.inj hf) rfl dX9_mayBreak_65
        · have hf := i_f hf c6
          refine lv_aload_n hx hb dX9_mayBreak_48 rfl (lv_at hl 0 rfl) ?_
          refine lv_iload_n hx hb dX9_mayBreak_49 rfl (lv_at hl 1 rfl) ?_
          refine lv_iload_n hx hb dX9_mayBreak_50 rfl (lv_at hl 2 rfl) ?_
          obtain ⟨x7, hg8, hf⟩ := b_o1 hf
          refine x_ci hB (x_rv hB hW hS (As := [.int p1, .int p2]) (rest := []) (ct_X9_valueOf l G hg8) (cl_RX9_141 hB.2.2.2.2.1 ⟨Nat.le_of_ble_eq_true rfl, Nat.le_of_ble_eq_true rfl⟩) tl139 (by decide) rfl rfl hl.1 rfl (Nat.le_of_ble_eq_true rfl) dX9_mayBreak_51 ⟨Nat.le_refl _, Nat.le_refl _⟩) hS (fun H locs hW hS => ?_)
          refine lv_iconst (v := (2 : Int32)) hx hb dX9_mayBreak_54 (by decide) ?_
          refine lv_irem hx hb dX9_mayBreak_55 (by decide) ?_
          refine lv_iconst (v := (1 : Int32)) hx hb dX9_mayBreak_56 (by decide) ?_
          refine lv_icmp_ne (tgt := 64) hx hb dX9_mayBreak_57 (by decide) (fun c9 => ?_) (fun c9 => ?_)
          · have hf := i_f hf c9
            refine lv_iconst (v := (0 : Int32)) hx hb dX9_mayBreak_64 (by decide) ?_
            exact e_z (by decide) hB hW hS hr hlk (Option.some.inj hf) rfl dX9_mayBreak_65
          · have hf := i_t hf c9
            refine lv_iconst (v := (1 : Int32)) hx hb dX9_mayBreak_60 (by decide) ?_
            refine lv_goto (tgt := 65) hx hb dX9_mayBreak_61 (by decide) ?_
            exact e_z (by decide) hB hW hS hr hlk (Option.some.inj hf) rfl dX9_mayBreak_65
    refine lv_icmp_ne (tgt := 31) hx hb dX9_mayBreak_13 (by decide) (fun c10 => ?_) (fun c10 => ?_)
    · have hf := i_f hf c10
      exact main2 () _ _ ls hW hS (lv_sub hl [0, 1, 2] rfl) hf
    · have hf := i_t hf c10
      refine lv_aload_n hx hb dX9_mayBreak_16 rfl (lv_at hl 0 rfl) ?_
      refine fg9_2 hB hW tl139 wd5_81 dX9_mayBreak_17 ?_
      refine lv_iload_n hx hb dX9_mayBreak_20 rfl (lv_at hl 1 rfl) ?_
      obtain ⟨h11, hf⟩ := g_o hf
      refine x_iald hB hW tl142 al142 h11 dX9_mayBreak_21 ?_
      refine lv_aload_n hx hb dX9_mayBreak_22 rfl (lv_at hl 0 rfl) ?_
      refine fg9_20 hB hW tl139 wd5_99 dX9_mayBreak_23 ?_
      refine lv_icmp_gt (tgt := 31) hx hb dX9_mayBreak_26 (by decide) (fun c12 => ?_) (fun c12 => ?_)
      · have hf := i_t hf c12
        exact main2 () _ _ ls hW hS (lv_sub hl [0, 1, 2] rfl) hf
      · have hf := i_f hf c12
        refine lv_iconst (v := (0 : Int32)) hx hb dX9_mayBreak_29 (by decide) ?_
        exact e_z (by decide) hB hW hS hr hlk (Option.some.inj hf) rfl dX9_mayBreak_30
def f_X9_cuts (p1 : Int32) (p2 : Int32) (p3 : Int32) (M : Mem) : Option Mem := (gq (inB (gi M 139 25) 161) (nmq (si M 151 (((gi M 139 25) : Int32).toNatClampNeg) p3) (fun (M2 : Mem) => gq (inB (gi M2 139 25) 161) (nmq (si M2 152 (((gi M2 139 25) : Int32).toNatClampNeg) p1) (fun (M4 : Mem) => gq (inB (gi M4 139 25) 162) (gq (inB ((gi M4 139 25) + (1 : Int32)) 162) (nmq (si M4 149 ((((gi M4 139 25) + (1 : Int32)) : Int32).toNatClampNeg) ((gi M4 149 (((gi M4 139 25) : Int32).toNatClampNeg)) + p2)) (fun (M7 : Mem) => gq (inB (gi M7 139 25) 162) ((nmq ((if p3 = 0 then ((1 : Int32)) else ((0 : Int32)))) (fun (x9 : Int32) => (gq (inB ((gi M7 139 25) + (1 : Int32)) 162) (nmq (si M7 150 ((((gi M7 139 25) + (1 : Int32)) : Int32).toNatClampNeg) ((gi M7 150 (((gi M7 139 25) : Int32).toNatClampNeg)) + x9)) (fun (M12 : Mem) => nmq (si M12 139 25 ((gi M12 139 25) + (1 : Int32))) (fun (M13 : Mem) => some M13)))))))))))))))
set_option maxHeartbeats 4000000 in
set_option maxRecDepth 100000 in
theorem ct_X9_cuts (l : Launch) (G : GG) {p1 : Int32} {p2 : Int32} {p3 : Int32} {M : Mem} {Mr : Mem}  (hf : f_X9_cuts p1 p2 p3 M = some Mr) : Met l yX9_cuts (wsq yX9_cuts cX9_cuts 4 none) (rmq 0 0) (va_Pc [.ref (G.2.2.1 139), .int p1, .int p2, .int p3] (World G M)) (Qv G Mr) 0 0 (adA G) := by
  refine x_start (plainFor_of_name (by decide)) (Nat.le_of_ble_eq_true rfl) ?_
  intro p e s m args below meth c hB hr hlk hW hS ls hl
  have hx := hB.x
  have hb := hB.b
  have hl : lv_has ls 4 [(0, .ref (G.2.2.1 139)), (1, .int p1), (2, .int p2), (3, .int p3)] := hl
  unfold f_X9_cuts at hf
  refine lv_aload_n hx hb dX9_cuts_0 rfl (lv_at hl 0 rfl) ?_
  refine fg9_23 hB hW tl139 wd5_102 dX9_cuts_1 ?_
  refine lv_aload_n hx hb dX9_cuts_4 rfl (lv_at hl 0 rfl) ?_
  refine fg9_25 hB hW tl139 wd5_104 dX9_cuts_5 ?_
  refine lv_iload_n hx hb dX9_cuts_8 rfl (lv_at hl 3 rfl) ?_
  obtain ⟨h1, hf⟩ := g_o hf
  refine x_i hB hW hS tl151 al151 h1 dX9_cuts_9 (fun H locs M2 eM2 hW hS => ?_)
  have hf := nm_o hf eM2
  refine lv_aload_n hx hb dX9_cuts_10 rfl (lv_at hl 0 rfl) ?_
  refine fg9_24 hB hW tl139 wd5_103 dX9_cuts_11 ?_
  refine lv_aload_n hx hb dX9_cuts_14 rfl (lv_at hl 0 rfl) ?_
  refine fg9_25 hB hW tl139 wd5_104 dX9_cuts_15 ?_
  refine lv_iload_n hx hb dX9_cuts_18 rfl (lv_at hl 1 rfl) ?_
  obtain ⟨h3, hf⟩ := g_o hf
  refine x_i hB hW hS tl152 al152 h3 dX9_cuts_19 (fun H locs M4 eM4 hW hS => ?_)
  have hf := nm_o hf eM4
  refine lv_aload_n hx hb dX9_cuts_20 rfl (lv_at hl 0 rfl) ?_
  refine fg9_21 hB hW tl139 wd5_100 dX9_cuts_21 ?_
  refine lv_aload_n hx hb dX9_cuts_24 rfl (lv_at hl 0 rfl) ?_
  refine fg9_25 hB hW tl139 wd5_104 dX9_cuts_25 ?_
  refine lv_iconst (v := (1 : Int32)) hx hb dX9_cuts_28 (by decide) ?_
  refine lv_iadd hx hb dX9_cuts_29 ?_
  refine lv_aload_n hx hb dX9_cuts_30 rfl (lv_at hl 0 rfl) ?_
  refine fg9_21 hB hW tl139 wd5_100 dX9_cuts_31 ?_
  refine lv_aload_n hx hb dX9_cuts_34 rfl (lv_at hl 0 rfl) ?_
  refine fg9_25 hB hW tl139 wd5_104 dX9_cuts_35 ?_
  obtain ⟨h5, hf⟩ := g_o hf
  refine x_iald hB hW tl149 al149 h5 dX9_cuts_38 ?_
  refine lv_iload_n hx hb dX9_cuts_39 rfl (lv_at hl 2 rfl) ?_
  refine lv_iadd hx hb dX9_cuts_40 ?_
  obtain ⟨h6, hf⟩ := g_o hf
  refine x_i hB hW hS tl149 al149 h6 dX9_cuts_41 (fun H locs M7 eM7 hW hS => ?_)
  have hf := nm_o hf eM7
  refine lv_aload_n hx hb dX9_cuts_42 rfl (lv_at hl 0 rfl) ?_
  refine fg9_22 hB hW tl139 wd5_101 dX9_cuts_43 ?_
  refine lv_aload_n hx hb dX9_cuts_46 rfl (lv_at hl 0 rfl) ?_
  refine fg9_25 hB hW tl139 wd5_104 dX9_cuts_47 ?_
  refine lv_iconst (v := (1 : Int32)) hx hb dX9_cuts_50 (by decide) ?_
  refine lv_iadd hx hb dX9_cuts_51 ?_
  refine lv_aload_n hx hb dX9_cuts_52 rfl (lv_at hl 0 rfl) ?_
  refine fg9_22 hB hW tl139 wd5_101 dX9_cuts_53 ?_
  refine lv_aload_n hx hb dX9_cuts_56 rfl (lv_at hl 0 rfl) ?_
  refine fg9_25 hB hW tl139 wd5_104 dX9_cuts_57 ?_
  obtain ⟨h8, hf⟩ := g_o hf
  refine x_iald hB hW tl150 al150 h8 dX9_cuts_60 ?_
  refine lv_iload_n hx hb dX9_cuts_61 rfl (lv_at hl 3 rfl) ?_
  obtain ⟨y14, evy14⟩ : ∃ z : Int32, (if p3 = 0 then ((1 : Int32)) else ((0 : Int32))) = z := ⟨_, rfl⟩
  have hf := nm_o hf evy14.symm
  have main10 : ∀ (x9 : Int32) (H : Heap) (locs : List Loc) (ls : Array Slot), Wd G M7 H → va_S (adA G) s.heap H locs → lv_has ls 4 [(0, .ref (G.2.2.1 139))] → x9 = y14 → W p l e (rmq 0 0) s m args below meth c H locs 0 0 (MQ below (Qv G Mr) args s 0 0 (adA G)) (F0 m 70 ls [.int x9, .int (gi M7 150 (((gi M7 139 25) : Int32).toNatClampNeg)), .int ((gi M7 139 25) + (1 : Int32)), .ref (G.2.2.1 150)]) := by
    intro x9 H locs ls hW hS hl hE
    have hE := hE.symm
    subst hE
    refine lv_iadd hx hb dX9_cuts_70 ?_
    obtain ⟨h11, hf⟩ := g_o hf
    refine x_i hB hW hS tl150 al150 h11 dX9_cuts_71 (fun H locs M12 eM12 hW hS => ?_)
    have hf := nm_o hf eM12
    refine lv_aload_n hx hb dX9_cuts_72 rfl (lv_at hl 0 rfl) ?_
    refine lv_dup hx hb dX9_cuts_73 rfl ?_
    refine fg9_25 hB hW tl139 wd5_104 dX9_cuts_74 ?_
    refine lv_iconst (v := (1 : Int32)) hx hb dX9_cuts_77 (by decide) ?_
    refine lv_iadd hx hb dX9_cuts_78 ?_
    refine fp9_25 hB hW hS tl139 wd5_104 dX9_cuts_79 (fun H locs M13 eM13 hW hS => ?_)
    have hf := nm_o hf eM13
    exact e_v hB hW hS hr hlk (Option.some.inj hf) dX9_cuts_82
  have hf := evy14
  refine lv_if_ne (tgt := 69) hx hb dX9_cuts_62 (by decide) (fun c15 => ?_) (fun c15 => ?_)
  · have hf := i_f hf c15
    refine lv_iconst (v := (0 : Int32)) hx hb dX9_cuts_69 (by decide) ?_
    exact main10 (0 : Int32) _ _ ls hW hS (lv_sub hl [0] rfl) hf
  · have hf := i_t hf c15
    refine lv_iconst (v := (1 : Int32)) hx hb dX9_cuts_65 (by decide) ?_
    refine lv_goto (tgt := 70) hx hb dX9_cuts_66 (by decide) ?_
    exact main10 (1 : Int32) _ _ ls hW hS (lv_sub hl [0] rfl) hf
theorem cl_RX9_148 {R : Room} {s : State} {args : Array Value} (ht : ∀ w ∈ lw_all, w.before args s = true) (hR : 2 + 1 ≤ R.frames ∧ 8 + (3 + 11) + 50 ≤ R.locals) : CallW R s args RX9 RX9 148 yX9_mayBreak cX9_mayBreak 3 (some .boolean) (wsq yX9_mayBreak cX9_mayBreak 3 (some .boolean)) (rmq 2 50) 0 0 2 := cwV 2 ht (goodV wd6_182 wd6_184 wsel_60 wd1_10 wd6_185) rfl rfl rfl (by decide +kernel) hR
theorem cl_RX9_152 {R : Room} {s : State} {args : Array Value} (ht : ∀ w ∈ lw_all, w.before args s = true) (hR : 0 + 1 ≤ R.frames ∧ 8 + (4 + 11) + 0 ≤ R.locals) : CallW R s args RX9 RX9 152 yX9_cuts cX9_cuts 4 none (wsq yX9_cuts cX9_cuts 4 none) (rmq 0 0) 0 0 3 := cwV 3 ht (goodV wd6_225 wd6_227 wsel_66 wd1_10 wd6_228) rfl rfl rfl (by decide +kernel) hR
def f_X9_cutsWord_L4 (p1 : Int32) (K4 : Int32 → Int32 → Mem → Option (Int32 × Mem)) (x1 : Int32) (x2 : Int32) (M3 : Mem) : Option (Int32 × Mem) := (gq (inB p1 16) ((if (gi M3 142 ((p1 : Int32).toNatClampNeg)) ≤ x2 then (some (x1, M3)) else (bq1 (f_X9_mayBreak p1 x2 M3) (fun (x21 : Int32) => (bq2 ((if x21 = 0 then (some (x1, M3)) else (bq1 (f_X9_cuts p1 x1 (1 : Int32) M3) (fun (M33 : Mem) => (some ((0 : Int32), M33))))) : Option (Int32 × Mem)) (fun (x23 : Int32) (M24 : Mem) => (gq (inB (((12 : Int32) * p1) + x2) 192) (gq (inB (gi M24 143 (((((12 : Int32) * p1) + x2) : Int32).toNatClampNeg)) 8) (nmq ((x23 + (gi M24 141 (((gi M24 143 (((((12 : Int32) * p1) + x2) : Int32).toNatClampNeg)) : Int32).toNatClampNeg)))) (fun (x28 : Int32) => nmq (x2 + (1 : Int32)) (fun (x29 : Int32) => (K4 x28 x29 M24)))))))))))))
def f_X9_cutsWord (p1 : Int32) (M : Mem) : Option Mem := (bq2 (lq3 (f_X9_cutsWord_L4 p1) FU (0 : Int32) (0 : Int32) M) (fun (x6 : Int32) (M7 : Mem) => (gq (inB p1 16) ((nmq ((if (gi M7 144 ((p1 : Int32).toNatClampNeg)) = (1 : Int32) then ((2 : Int32)) else (if p1 = ((gi M7 139 9) - (1 : Int32)) then ((3 : Int32)) else ((0 : Int32))))) (fun (x9 : Int32) => (bq1 (f_X9_cuts p1 x6 x9 M7) (fun (M11 : Mem) => some M11))))))))
set_option maxHeartbeats 4000000 in
set_option maxRecDepth 100000 in
theorem ct_X9_cutsWord (l : Launch) (G : GG) {p1 : Int32} {M : Mem} {Mr : Mem}  (hf : f_X9_cutsWord p1 M = some Mr) : Met l yX9_cutsWord (wsq yX9_cutsWord cX9_cutsWord 4 none) (rmq 3 72) (va_Pc [.ref (G.2.2.1 139), .int p1] (World G M)) (Qv G Mr) 0 0 (adA G) := by
  refine x_start (plainFor_of_name (by decide)) (Nat.le_of_ble_eq_true rfl) ?_
  intro p e s m args below meth c hB hr hlk hW hS ls hl
  have hx := hB.x
  have hb := hB.b
  have hl : lv_has ls 4 [(0, .ref (G.2.2.1 139)), (1, .int p1)] := hl
  unfold f_X9_cutsWord at hf
  refine lv_iconst (v := (0 : Int32)) hx hb dX9_cutsWord_0 (by decide) ?_
  refine lv_istore_n (lv' := [(2, .int (0 : Int32)), (0, .ref (G.2.2.1 139)), (1, .int p1)]) hx hb dX9_cutsWord_1 rfl hl (by decide) rfl (fun ls hl => ?_)
  refine lv_iconst (v := (0 : Int32)) hx hb dX9_cutsWord_2 (by decide) ?_
  refine lv_istore_n (lv' := [(3, .int (0 : Int32)), (2, .int (0 : Int32)), (0, .ref (G.2.2.1 139)), (1, .int p1)]) hx hb dX9_cutsWord_3 rfl hl (by decide) rfl (fun ls hl => ?_)
  obtain ⟨y16, M17, hL, hf⟩ := b_o2 hf
  have main18 : ∀ (x6 : Int32) (M7 : Mem) (H : Heap) (locs : List Loc) (ls : Array Slot), Wd G M7 H → va_S (adA G) s.heap H locs → lv_has ls 4 [(0, .ref (G.2.2.1 139)), (1, .int p1), (2, .int x6)] → some (x6, M7) = some (y16, M17) → W p l e (rmq 3 72) s m args below meth c H locs 0 0 (MQ below (Qv G Mr) args s 0 0 (adA G)) (F0 m 57 ls []) := by
    intro x6 M7 H locs ls hW hS hl hE
    cases hE
    refine lv_aload_n hx hb dX9_cutsWord_57 rfl (lv_at hl 0 rfl) ?_
    refine lv_iload_n hx hb dX9_cutsWord_58 rfl (lv_at hl 1 rfl) ?_
    refine lv_iload_n hx hb dX9_cutsWord_59 rfl (lv_at hl 2 rfl) ?_
    refine lv_aload_n hx hb dX9_cutsWord_60 rfl (lv_at hl 0 rfl) ?_
    refine fg9_4 hB hW tl139 wd5_83 dX9_cutsWord_61 ?_
    refine lv_iload_n hx hb dX9_cutsWord_64 rfl (lv_at hl 1 rfl) ?_
    obtain ⟨h8, hf⟩ := g_o hf
    refine x_iald hB hW tl144 al144 h8 dX9_cutsWord_65 ?_
    refine lv_iconst (v := (1 : Int32)) hx hb dX9_cutsWord_66 (by decide) ?_
    obtain ⟨y13, evy13⟩ : ∃ z : Int32, (if (gi M17 144 ((p1 : Int32).toNatClampNeg)) = (1 : Int32) then ((2 : Int32)) else (if p1 = ((gi M17 139 9) - (1 : Int32)) then ((3 : Int32)) else ((0 : Int32)))) = z := ⟨_, rfl⟩
    have hf := nm_o hf evy13.symm
    have main10 : ∀ (x9 : Int32) (H : Heap) (locs : List Loc) (ls : Array Slot), Wd G M17 H → va_S (adA G) s.heap H locs → lv_has ls 4 [] → x9 = y13 → W p l e (rmq 3 72) s m args below meth c H locs 0 0 (MQ below (Qv G Mr) args s 0 0 (adA G)) (F0 m 89 ls [.int x9, .int y16, .int p1, .ref (G.2.2.1 139)]) := by
      intro x9 H locs ls hW hS hl hE
      have hE := hE.symm
      subst hE
      obtain ⟨M11, hg12, hf⟩ := b_o1 hf
      refine x_cv hB (x_rv hB hW hS (As := [.int p1, .int y16, .int y13]) (rest := []) (ct_X9_cuts l G hg12) (cl_RX9_152 hB.2.2.2.2.1 ⟨Nat.le_of_ble_eq_true rfl, Nat.le_of_ble_eq_true rfl⟩) tl139 (by decide) rfl rfl hl.1 rfl (Nat.le_of_ble_eq_true rfl) dX9_cutsWord_89 ⟨Nat.le_refl _, Nat.le_refl _⟩) hS (fun H locs hW hS => ?_)
      exact e_v hB hW hS hr hlk (Option.some.inj hf) dX9_cutsWord_92
    have hf := evy13
    refine lv_icmp_ne (tgt := 74) hx hb dX9_cutsWord_67 (by decide) (fun c14 => ?_) (fun c14 => ?_)
    · have hf := i_f hf c14
      refine lv_iload_n hx hb dX9_cutsWord_74 rfl (lv_at hl 1 rfl) ?_
      refine lv_aload_n hx hb dX9_cutsWord_75 rfl (lv_at hl 0 rfl) ?_
      refine fg9_9 hB hW tl139 wd5_88 dX9_cutsWord_76 ?_
      refine lv_iconst (v := (1 : Int32)) hx hb dX9_cutsWord_79 (by decide) ?_
      refine lv_isub hx hb dX9_cutsWord_80 ?_
      refine lv_icmp_ne (tgt := 88) hx hb dX9_cutsWord_81 (by decide) (fun c15 => ?_) (fun c15 => ?_)
      · have hf := i_f hf c15
        refine lv_iconst (v := (0 : Int32)) hx hb dX9_cutsWord_88 (by decide) ?_
        exact main10 (0 : Int32) _ _ ls hW hS (lv_sub hl [] rfl) hf
      · have hf := i_t hf c15
        refine lv_iconst (v := (3 : Int32)) hx hb dX9_cutsWord_84 (by decide) ?_
        refine lv_goto (tgt := 89) hx hb dX9_cutsWord_85 (by decide) ?_
        exact main10 (3 : Int32) _ _ ls hW hS (lv_sub hl [] rfl) hf
    · have hf := i_t hf c14
      refine lv_iconst (v := (2 : Int32)) hx hb dX9_cutsWord_70 (by decide) ?_
      refine lv_goto (tgt := 89) hx hb dX9_cutsWord_71 (by decide) ?_
      exact main10 (2 : Int32) _ _ ls hW hS (lv_sub hl [] rfl) hf
  have loop5 : ∀ (n : Nat) (x1 : Int32) (x2 : Int32) (M3 : Mem) (H : Heap) (locs : List Loc) (ls : Array Slot), Wd G M3 H → va_S (adA G) s.heap H locs → lv_has ls 4 [(0, .ref (G.2.2.1 139)), (1, .int p1), (2, .int x1), (3, .int x2)] → lq3 (f_X9_cutsWord_L4 p1) n x1 x2 M3 = some (y16, M17) → W p l e (rmq 3 72) s m args below meth c H locs 0 0 (MQ below (Qv G Mr) args s 0 0 (adA G)) (F0 m 4 ls []) := by
    intro n
    induction n with
    | zero => intro x1 x2 M3 H locs ls hW hS hl hf; exact (l_z3 hf).elim
    | succ n ih =>
      intro x1 x2 M3 H locs ls hW hS hl hf
      have hf := l_s3 hf
      generalize lq3 (f_X9_cutsWord_L4 p1) n = K4 at ih hf
      unfold f_X9_cutsWord_L4 at hf
      refine lv_iload_n hx hb dX9_cutsWord_4 rfl (lv_at hl 3 rfl) ?_
      refine lv_aload_n hx hb dX9_cutsWord_5 rfl (lv_at hl 0 rfl) ?_
      refine fg9_2 hB hW tl139 wd5_81 dX9_cutsWord_6 ?_
      refine lv_iload_n hx hb dX9_cutsWord_9 rfl (lv_at hl 1 rfl) ?_
      obtain ⟨h19, hf⟩ := g_o hf
      refine x_iald hB hW tl142 al142 h19 dX9_cutsWord_10 ?_
      refine lv_icmp_ge (tgt := 57) hx hb dX9_cutsWord_11 (by decide) (fun c20 => ?_) (fun c20 => ?_)
      · have hf := i_t hf c20
        exact main18 x1 M3 _ _ ls hW hS (lv_sub hl [0, 1, 2] rfl) hf
      · have hf := i_f hf c20
        refine lv_aload_n hx hb dX9_cutsWord_14 rfl (lv_at hl 0 rfl) ?_
        refine lv_iload_n hx hb dX9_cutsWord_15 rfl (lv_at hl 1 rfl) ?_
        refine lv_iload_n hx hb dX9_cutsWord_16 rfl (lv_at hl 3 rfl) ?_
        obtain ⟨x21, hg22, hf⟩ := b_o1 hf
        refine x_ci hB (x_rv hB hW hS (As := [.int p1, .int x2]) (rest := []) (ct_X9_mayBreak l G hg22) (cl_RX9_148 hB.2.2.2.2.1 ⟨Nat.le_of_ble_eq_true rfl, Nat.le_of_ble_eq_true rfl⟩) tl139 (by decide) rfl rfl hl.1 rfl (Nat.le_of_ble_eq_true rfl) dX9_cutsWord_17 ⟨Nat.le_refl _, Nat.le_refl _⟩) hS (fun H locs hW hS => ?_)
        obtain ⟨y30, M31, hR, hf⟩ := b_o2 hf
        have main25 : ∀ (x23 : Int32) (M24 : Mem) (H : Heap) (locs : List Loc) (ls : Array Slot), Wd G M24 H → va_S (adA G) s.heap H locs → lv_has ls 4 [(0, .ref (G.2.2.1 139)), (1, .int p1), (2, .int x23), (3, .int x2)] → some (x23, M24) = some (y30, M31) → W p l e (rmq 3 72) s m args below meth c H locs 0 0 (MQ below (Qv G Mr) args s 0 0 (adA G)) (F0 m 32 ls []) := by
          intro x23 M24 H locs ls hW hS hl hE
          cases hE
          refine lv_iload_n hx hb dX9_cutsWord_32 rfl (lv_at hl 2 rfl) ?_
          refine lv_aload_n hx hb dX9_cutsWord_33 rfl (lv_at hl 0 rfl) ?_
          refine fg9_1 hB hW tl139 wd5_80 dX9_cutsWord_34 ?_
          refine lv_aload_n hx hb dX9_cutsWord_37 rfl (lv_at hl 0 rfl) ?_
          refine fg9_3 hB hW tl139 wd5_82 dX9_cutsWord_38 ?_
          refine lv_bipush (v := (12 : Int32)) hx hb dX9_cutsWord_41 (by decide) ?_
          refine lv_iload_n hx hb dX9_cutsWord_43 rfl (lv_at hl 1 rfl) ?_
          refine lv_imul hx hb dX9_cutsWord_44 ?_
          refine lv_iload_n hx hb dX9_cutsWord_45 rfl (lv_at hl 3 rfl) ?_
          refine lv_iadd hx hb dX9_cutsWord_46 ?_
          obtain ⟨h26, hf⟩ := g_o hf
          refine x_iald hB hW tl143 al143 h26 dX9_cutsWord_47 ?_
          obtain ⟨h27, hf⟩ := g_o hf
          refine x_iald hB hW tl141 al141 h27 dX9_cutsWord_48 ?_
          refine lv_iadd hx hb dX9_cutsWord_49 ?_
          refine lv_topi (fun x28 ex28 => ?_)
          have hf := nm_o hf ex28
          refine lv_istore_n (lv' := [(2, .int x28), (0, .ref (G.2.2.1 139)), (1, .int p1), (3, .int x2)]) hx hb dX9_cutsWord_50 rfl hl (by decide) rfl (fun ls hl => ?_)
          obtain ⟨x29, ex29⟩ : ∃ y : Int32, y = x2 + (1 : Int32) := ⟨_, rfl⟩
          have hf := nm_o hf ex29
          refine lv_iinc (v := x29) (lv' := [(3, .int x29), (2, .int x28), (0, .ref (G.2.2.1 139)), (1, .int p1)]) hx hb dX9_cutsWord_51 hl (k := 3) rfl (by rw [ex29]; rfl) (by decide) rfl (fun ls hl => ?_)
          refine lv_goto (tgt := 4) hx hb dX9_cutsWord_54 (by decide) ?_
          exact ih x28 x29 M31 _ _ ls hW hS (lv_sub hl [2, 3, 1, 0] rfl) hf
        have hf := hR
        refine lv_if_eq (tgt := 32) hx hb dX9_cutsWord_20 (by decide) (fun c32 => ?_) (fun c32 => ?_)
        · have hf := i_t hf c32
          exact main25 x1 M3 _ _ ls hW hS (lv_sub hl [0, 1, 2, 3] rfl) hf
        · have hf := i_f hf c32
          refine lv_aload_n hx hb dX9_cutsWord_23 rfl (lv_at hl 0 rfl) ?_
          refine lv_iload_n hx hb dX9_cutsWord_24 rfl (lv_at hl 1 rfl) ?_
          refine lv_iload_n hx hb dX9_cutsWord_25 rfl (lv_at hl 2 rfl) ?_
          refine lv_iconst (v := (1 : Int32)) hx hb dX9_cutsWord_26 (by decide) ?_
          obtain ⟨M33, hg34, hf⟩ := b_o1 hf
          refine x_cv hB (x_rv hB hW hS (As := [.int p1, .int x1, .int (1 : Int32)]) (rest := []) (ct_X9_cuts l G hg34) (cl_RX9_152 hB.2.2.2.2.1 ⟨Nat.le_of_ble_eq_true rfl, Nat.le_of_ble_eq_true rfl⟩) tl139 (by decide) rfl rfl hl.1 rfl (Nat.le_of_ble_eq_true rfl) dX9_cutsWord_27 ⟨Nat.le_refl _, Nat.le_refl _⟩) hS (fun H locs hW hS => ?_)
          refine lv_iconst (v := (0 : Int32)) hx hb dX9_cutsWord_30 (by decide) ?_
          refine lv_istore_n (lv' := [(2, .int (0 : Int32)), (0, .ref (G.2.2.1 139)), (1, .int p1), (3, .int x2)]) hx hb dX9_cutsWord_31 rfl hl (by decide) rfl (fun ls hl => ?_)
          exact main25 (0 : Int32) M33 _ _ ls hW hS (lv_sub hl [1, 2, 0, 3] rfl) hf
  exact loop5 FU (0 : Int32) (0 : Int32) M _ _ ls hW hS (lv_sub hl [2, 3, 1, 0] rfl) hL
theorem cl_RX9_156 {R : Room} {s : State} {args : Array Value} (ht : ∀ w ∈ lw_all, w.before args s = true) (hR : 3 + 1 ≤ R.frames ∧ 8 + (4 + 11) + 72 ≤ R.locals) : CallW R s args RX9 RX9 156 yX9_cutsWord cX9_cutsWord 4 none (wsq yX9_cutsWord cX9_cutsWord 4 none) (rmq 3 72) 0 0 1 := cwV 1 ht (goodV wd6_221 wd6_223 wsel_65 wd1_10 wd6_224) rfl rfl rfl (by decide +kernel) hR
def f_X9_findFragments_L7  (K4 : Int32 → Mem → Option (Mem)) (x2 : Int32) (M3 : Mem) : Option (Mem) := (if (gi M3 139 9) ≤ x2 then (some (M3)) else (bq1 (f_X9_cutsWord x2 M3) (fun (M10 : Mem) => nmq (x2 + (1 : Int32)) (fun (x12 : Int32) => (K4 x12 M10)))))
def f_X9_findFragments (M : Mem) : Option Mem := (nmq (si M 139 25 (0 : Int32)) (fun (M1 : Mem) => (bq1 (lq2 f_X9_findFragments_L7 FU (0 : Int32) M1) (fun (M6 : Mem) => some M6))))
set_option maxHeartbeats 4000000 in
set_option maxRecDepth 100000 in
theorem ct_X9_findFragments (l : Launch) (G : GG)  {M : Mem} {Mr : Mem}  (hf : f_X9_findFragments M = some Mr) : Met l yX9_findFragments (wsq yX9_findFragments cX9_findFragments 2 none) (rmq 4 95) (va_Pc [.ref (G.2.2.1 139)] (World G M)) (Qv G Mr) 0 0 (adA G) := by
  refine x_start (plainFor_of_name (by decide)) (Nat.le_of_ble_eq_true rfl) ?_
  intro p e s m args below meth c hB hr hlk hW hS ls hl
  have hx := hB.x
  have hb := hB.b
  have hl : lv_has ls 2 [(0, .ref (G.2.2.1 139))] := hl
  unfold f_X9_findFragments at hf
  refine lv_aload_n hx hb dX9_findFragments_0 rfl (lv_at hl 0 rfl) ?_
  refine lv_iconst (v := (0 : Int32)) hx hb dX9_findFragments_1 (by decide) ?_
  refine fp9_25 hB hW hS tl139 wd5_104 dX9_findFragments_2 (fun H locs M1 eM1 hW hS => ?_)
  have hf := nm_o hf eM1
  refine lv_iconst (v := (0 : Int32)) hx hb dX9_findFragments_5 (by decide) ?_
  refine lv_istore_n (lv' := [(1, .int (0 : Int32)), (0, .ref (G.2.2.1 139))]) hx hb dX9_findFragments_6 rfl hl (by decide) rfl (fun ls hl => ?_)
  obtain ⟨M7, hL, hf⟩ := b_o1 hf
  have main8 : ∀ (M6 : Mem) (H : Heap) (locs : List Loc) (ls : Array Slot), Wd G M6 H → va_S (adA G) s.heap H locs → lv_has ls 2 [] → some (M6) = some (M7) → W p l e (rmq 4 95) s m args below meth c H locs 0 0 (MQ below (Qv G Mr) args s 0 0 (adA G)) (F0 m 26 ls []) := by
    intro M6 H locs ls hW hS hl hE
    cases hE
    exact e_v hB hW hS hr hlk (Option.some.inj hf) dX9_findFragments_26
  have loop5 : ∀ (n : Nat) (x2 : Int32) (M3 : Mem) (H : Heap) (locs : List Loc) (ls : Array Slot), Wd G M3 H → va_S (adA G) s.heap H locs → lv_has ls 2 [(0, .ref (G.2.2.1 139)), (1, .int x2)] → lq2 f_X9_findFragments_L7 n x2 M3 = some (M7) → W p l e (rmq 4 95) s m args below meth c H locs 0 0 (MQ below (Qv G Mr) args s 0 0 (adA G)) (F0 m 7 ls []) := by
    intro n
    induction n with
    | zero => intro x2 M3 H locs ls hW hS hl hf; exact (l_z2 hf).elim
    | succ n ih =>
      intro x2 M3 H locs ls hW hS hl hf
      have hf := l_s2 hf
      generalize lq2 f_X9_findFragments_L7 n = K4 at ih hf
      unfold f_X9_findFragments_L7 at hf
      refine lv_iload_n hx hb dX9_findFragments_7 rfl (lv_at hl 1 rfl) ?_
      refine lv_aload_n hx hb dX9_findFragments_8 rfl (lv_at hl 0 rfl) ?_
      refine fg9_9 hB hW tl139 wd5_88 dX9_findFragments_9 ?_
      refine lv_icmp_ge (tgt := 26) hx hb dX9_findFragments_12 (by decide) (fun c9 => ?_) (fun c9 => ?_)
      · have hf := i_t hf c9
        exact main8 M3 _ _ ls hW hS (lv_sub hl [] rfl) hf
      · have hf := i_f hf c9
        refine lv_aload_n hx hb dX9_findFragments_15 rfl (lv_at hl 0 rfl) ?_
        refine lv_iload_n hx hb dX9_findFragments_16 rfl (lv_at hl 1 rfl) ?_
        obtain ⟨M10, hg11, hf⟩ := b_o1 hf
        refine x_cv hB (x_rv hB hW hS (As := [.int x2]) (rest := []) (ct_X9_cutsWord l G hg11) (cl_RX9_156 hB.2.2.2.2.1 ⟨Nat.le_of_ble_eq_true rfl, Nat.le_of_ble_eq_true rfl⟩) tl139 (by decide) rfl rfl hl.1 rfl (Nat.le_of_ble_eq_true rfl) dX9_findFragments_17 ⟨Nat.le_refl _, Nat.le_refl _⟩) hS (fun H locs hW hS => ?_)
        obtain ⟨x12, ex12⟩ : ∃ y : Int32, y = x2 + (1 : Int32) := ⟨_, rfl⟩
        have hf := nm_o hf ex12
        refine lv_iinc (v := x12) (lv' := [(1, .int x12), (0, .ref (G.2.2.1 139))]) hx hb dX9_findFragments_20 hl (k := 1) rfl (by rw [ex12]; rfl) (by decide) rfl (fun ls hl => ?_)
        refine lv_goto (tgt := 7) hx hb dX9_findFragments_23 (by decide) ?_
        exact ih x12 M10 _ _ ls hW hS (lv_sub hl [1, 0] rfl) hf
  exact loop5 FU (0 : Int32) M1 _ _ ls hW hS (lv_sub hl [1, 0] rfl) hL
def f_X9_isEnd (p1 : Int32) (M : Mem) : Option Int32 := (gq (inB (p1 - (1 : Int32)) 161) ((if (gi M 151 (((p1 - (1 : Int32)) : Int32).toNatClampNeg)) = (2 : Int32) then some (1 : Int32) else (gq (inB (p1 - (1 : Int32)) 161) ((if (gi M 151 (((p1 - (1 : Int32)) : Int32).toNatClampNeg)) = (3 : Int32) then some (1 : Int32) else some (0 : Int32)))))))
set_option maxHeartbeats 4000000 in
set_option maxRecDepth 100000 in
theorem ct_X9_isEnd (l : Launch) (G : GG) {p1 : Int32} {M : Mem} {r : Int32}  (hf : f_X9_isEnd p1 M = some r) : Met l yX9_isEnd (wsq yX9_isEnd cX9_isEnd 2 (some .boolean)) (rmq 0 0) (va_Pc [.ref (G.2.2.1 139), .int p1] (World G M)) (Qi G r M) 0 0 (adA G) := by
  refine x_start (plainFor_of_name (by decide)) (Nat.le_of_ble_eq_true rfl) ?_
  intro p e s m args below meth c hB hr hlk hW hS ls hl
  have hx := hB.x
  have hb := hB.b
  have hl : lv_has ls 2 [(0, .ref (G.2.2.1 139)), (1, .int p1)] := hl
  unfold f_X9_isEnd at hf
  refine lv_aload_n hx hb dX9_isEnd_0 rfl (lv_at hl 0 rfl) ?_
  refine fg9_23 hB hW tl139 wd5_102 dX9_isEnd_1 ?_
  refine lv_iload_n hx hb dX9_isEnd_4 rfl (lv_at hl 1 rfl) ?_
  refine lv_iconst (v := (1 : Int32)) hx hb dX9_isEnd_5 (by decide) ?_
  refine lv_isub hx hb dX9_isEnd_6 ?_
  obtain ⟨h1, hf⟩ := g_o hf
  refine x_iald hB hW tl151 al151 h1 dX9_isEnd_7 ?_
  refine lv_iconst (v := (2 : Int32)) hx hb dX9_isEnd_8 (by decide) ?_
  refine lv_icmp_eq (tgt := 24) hx hb dX9_isEnd_9 (by decide) (fun c2 => ?_) (fun c2 => ?_)
  · have hf := i_t hf c2
    refine lv_iconst (v := (1 : Int32)) hx hb dX9_isEnd_24 (by decide) ?_
    refine lv_goto (tgt := 29) hx hb dX9_isEnd_25 (by decide) ?_
    exact e_z (by decide) hB hW hS hr hlk (Option.some.inj hf) rfl dX9_isEnd_29
  · have hf := i_f hf c2
    refine lv_aload_n hx hb dX9_isEnd_12 rfl (lv_at hl 0 rfl) ?_
    refine fg9_23 hB hW tl139 wd5_102 dX9_isEnd_13 ?_
    refine lv_iload_n hx hb dX9_isEnd_16 rfl (lv_at hl 1 rfl) ?_
    refine lv_iconst (v := (1 : Int32)) hx hb dX9_isEnd_17 (by decide) ?_
    refine lv_isub hx hb dX9_isEnd_18 ?_
    obtain ⟨h3, hf⟩ := g_o hf
    refine x_iald hB hW tl151 al151 h3 dX9_isEnd_19 ?_
    refine lv_iconst (v := (3 : Int32)) hx hb dX9_isEnd_20 (by decide) ?_
    refine lv_icmp_ne (tgt := 28) hx hb dX9_isEnd_21 (by decide) (fun c4 => ?_) (fun c4 => ?_)
    · have hf := i_f hf c4
      refine lv_iconst (v := (0 : Int32)) hx hb dX9_isEnd_28 (by decide) ?_
      exact e_z (by decide) hB hW hS hr hlk (Option.some.inj hf) rfl dX9_isEnd_29
    · have hf := i_t hf c4
      refine lv_iconst (v := (1 : Int32)) hx hb dX9_isEnd_24 (by decide) ?_
      refine lv_goto (tgt := 29) hx hb dX9_isEnd_25 (by decide) ?_
      exact e_z (by decide) hB hW hS hr hlk (Option.some.inj hf) rfl dX9_isEnd_29
def f_X9_natural (p1 : Int32) (p2 : Int32) (M : Mem) : Option Int32 := (gq (inB p2 162) (gq (inB p1 162) (gq (inB (p2 - (1 : Int32)) 162) (gq (inB p1 162) (gq (inB (p2 - (1 : Int32)) 161) ((nmq ((if (gi M 151 (((p2 - (1 : Int32)) : Int32).toNatClampNeg)) = (1 : Int32) then ((2 : Int32)) else ((0 : Int32)))) (fun (x6 : Int32) => some ((((gi M 149 ((p2 : Int32).toNatClampNeg)) - (gi M 149 ((p1 : Int32).toNatClampNeg))) + ((gi M 139 12) * ((gi M 150 (((p2 - (1 : Int32)) : Int32).toNatClampNeg)) - (gi M 150 ((p1 : Int32).toNatClampNeg))))) + x6)))))))))
set_option maxHeartbeats 4000000 in
set_option maxRecDepth 100000 in
theorem ct_X9_natural (l : Launch) (G : GG) {p1 : Int32} {p2 : Int32} {M : Mem} {r : Int32}  (hf : f_X9_natural p1 p2 M = some r) : Met l yX9_natural (wsq yX9_natural cX9_natural 3 (some .int)) (rmq 0 0) (va_Pc [.ref (G.2.2.1 139), .int p1, .int p2] (World G M)) (Qi G r M) 0 0 (adA G) := by
  refine x_start (plainFor_of_name (by decide)) (Nat.le_of_ble_eq_true rfl) ?_
  intro p e s m args below meth c hB hr hlk hW hS ls hl
  have hx := hB.x
  have hb := hB.b
  have hl : lv_has ls 3 [(0, .ref (G.2.2.1 139)), (1, .int p1), (2, .int p2)] := hl
  unfold f_X9_natural at hf
  refine lv_aload_n hx hb dX9_natural_0 rfl (lv_at hl 0 rfl) ?_
  refine fg9_21 hB hW tl139 wd5_100 dX9_natural_1 ?_
  refine lv_iload_n hx hb dX9_natural_4 rfl (lv_at hl 2 rfl) ?_
  obtain ⟨h1, hf⟩ := g_o hf
  refine x_iald hB hW tl149 al149 h1 dX9_natural_5 ?_
  refine lv_aload_n hx hb dX9_natural_6 rfl (lv_at hl 0 rfl) ?_
  refine fg9_21 hB hW tl139 wd5_100 dX9_natural_7 ?_
  refine lv_iload_n hx hb dX9_natural_10 rfl (lv_at hl 1 rfl) ?_
  obtain ⟨h2, hf⟩ := g_o hf
  refine x_iald hB hW tl149 al149 h2 dX9_natural_11 ?_
  refine lv_isub hx hb dX9_natural_12 ?_
  refine lv_aload_n hx hb dX9_natural_13 rfl (lv_at hl 0 rfl) ?_
  refine fg9_12 hB hW tl139 wd5_91 dX9_natural_14 ?_
  refine lv_aload_n hx hb dX9_natural_17 rfl (lv_at hl 0 rfl) ?_
  refine fg9_22 hB hW tl139 wd5_101 dX9_natural_18 ?_
  refine lv_iload_n hx hb dX9_natural_21 rfl (lv_at hl 2 rfl) ?_
  refine lv_iconst (v := (1 : Int32)) hx hb dX9_natural_22 (by decide) ?_
  refine lv_isub hx hb dX9_natural_23 ?_
  obtain ⟨h3, hf⟩ := g_o hf
  refine x_iald hB hW tl150 al150 h3 dX9_natural_24 ?_
  refine lv_aload_n hx hb dX9_natural_25 rfl (lv_at hl 0 rfl) ?_
  refine fg9_22 hB hW tl139 wd5_101 dX9_natural_26 ?_
  refine lv_iload_n hx hb dX9_natural_29 rfl (lv_at hl 1 rfl) ?_
  obtain ⟨h4, hf⟩ := g_o hf
  refine x_iald hB hW tl150 al150 h4 dX9_natural_30 ?_
  refine lv_isub hx hb dX9_natural_31 ?_
  refine lv_imul hx hb dX9_natural_32 ?_
  refine lv_iadd hx hb dX9_natural_33 ?_
  refine lv_aload_n hx hb dX9_natural_34 rfl (lv_at hl 0 rfl) ?_
  refine fg9_23 hB hW tl139 wd5_102 dX9_natural_35 ?_
  refine lv_iload_n hx hb dX9_natural_38 rfl (lv_at hl 2 rfl) ?_
  refine lv_iconst (v := (1 : Int32)) hx hb dX9_natural_39 (by decide) ?_
  refine lv_isub hx hb dX9_natural_40 ?_
  obtain ⟨h5, hf⟩ := g_o hf
  refine x_iald hB hW tl151 al151 h5 dX9_natural_41 ?_
  refine lv_iconst (v := (1 : Int32)) hx hb dX9_natural_42 (by decide) ?_
  obtain ⟨y8, evy8⟩ : ∃ z : Int32, (if (gi M 151 (((p2 - (1 : Int32)) : Int32).toNatClampNeg)) = (1 : Int32) then ((2 : Int32)) else ((0 : Int32))) = z := ⟨_, rfl⟩
  have hf := nm_o hf evy8.symm
  have main7 : ∀ (x6 : Int32) (H : Heap) (locs : List Loc) (ls : Array Slot), Wd G M H → va_S (adA G) s.heap H locs → lv_has ls 3 [] → x6 = y8 → W p l e (rmq 0 0) s m args below meth c H locs 0 0 (MQ below (Qi G r M) args s 0 0 (adA G)) (F0 m 51 ls [.int x6, .int (((gi M 149 ((p2 : Int32).toNatClampNeg)) - (gi M 149 ((p1 : Int32).toNatClampNeg))) + ((gi M 139 12) * ((gi M 150 (((p2 - (1 : Int32)) : Int32).toNatClampNeg)) - (gi M 150 ((p1 : Int32).toNatClampNeg)))))]) := by
    intro x6 H locs ls hW hS hl hE
    have hE := hE.symm
    subst hE
    refine lv_iadd hx hb dX9_natural_51 ?_
    exact e_i hB hW hS hr hlk (Option.some.inj hf) rfl dX9_natural_52
  have hf := evy8
  refine lv_icmp_ne (tgt := 50) hx hb dX9_natural_43 (by decide) (fun c9 => ?_) (fun c9 => ?_)
  · have hf := i_f hf c9
    refine lv_iconst (v := (0 : Int32)) hx hb dX9_natural_50 (by decide) ?_
    exact main7 (0 : Int32) _ _ ls hW hS (lv_sub hl [] rfl) hf
  · have hf := i_t hf c9
    refine lv_iconst (v := (2 : Int32)) hx hb dX9_natural_46 (by decide) ?_
    refine lv_goto (tgt := 51) hx hb dX9_natural_47 (by decide) ?_
    exact main7 (2 : Int32) _ _ ls hW hS (lv_sub hl [] rfl) hf
theorem cl_RX9_160 {R : Room} {s : State} {args : Array Value} (ht : ∀ w ∈ lw_all, w.before args s = true) (hR : 0 + 1 ≤ R.frames ∧ 8 + (3 + 11) + 0 ≤ R.locals) : CallW R s args RX9 RX9 160 yX9_natural cX9_natural 3 (some .int) (wsq yX9_natural cX9_natural 3 (some .int)) (rmq 0 0) 0 0 2 := cwV 2 ht (goodV wd7_1 wd7_3 wsel_70 wd1_10 wd7_4) rfl rfl rfl (by decide +kernel) hR
theorem cl_RX9_163 {R : Room} {s : State} {args : Array Value} (ht : ∀ w ∈ lw_all, w.before args s = true) (hR : 0 + 1 ≤ R.frames ∧ 8 + (2 + 11) + 0 ≤ R.locals) : CallW R s args RX9 RX9 163 yX9_isEnd cX9_isEnd 2 (some .boolean) (wsq yX9_isEnd cX9_isEnd 2 (some .boolean)) (rmq 0 0) 0 0 1 := cwV 1 ht (goodV wd7_5 wd7_7 wsel_71 wd1_10 wd7_8) rfl rfl rfl (by decide +kernel) hR
theorem cl_RX9_167 {R : Room} {s : State} {args : Array Value} (ht : ∀ w ∈ lw_all, w.before args s = true) (hR : 0 + 1 ≤ R.frames ∧ 8 + (1 + 11) + 0 ≤ R.locals) : CallW R s args RX9 RX9 167 yX9_stretches cX9_stretches 1 (some .int) (wsq yX9_stretches cX9_stretches 1 (some .int)) (rmq 0 0) 0 0 0 := cwV 0 ht (goodV wd7_9 wd7_11 wsel_72 wd1_10 wd7_12) rfl rfl rfl (by decide +kernel) hR
theorem cl_RX9_171 {R : Room} {s : State} {args : Array Value} (ht : ∀ w ∈ lw_all, w.before args s = true) (hR : 0 + 1 ≤ R.frames ∧ 8 + (1 + 11) + 0 ≤ R.locals) : CallW R s args RX9 RX9 171 yX9_shrinks cX9_shrinks 1 (some .int) (wsq yX9_shrinks cX9_shrinks 1 (some .int)) (rmq 0 0) 0 0 0 := cwV 0 ht (goodV wd7_13 wd7_15 wsel_73 wd1_10 wd7_16) rfl rfl rfl (by decide +kernel) hR
def f_X9_ratioOf (p1 : Int32) (p2 : Int32) (M : Mem) : Option UInt32 := (bq1 (f_X9_natural p1 p2 M) (fun (x1 : Int32) => nmq (((gi M 139 11) - x1)) (fun (x3 : Int32) => (if x3 = 0 then some FP.fconst0 else (jq (fun (_ : Unit) => (gq (inB (p2 - (1 : Int32)) 162) (gq (inB p1 162) (nmq (((gi M 150 (((p2 - (1 : Int32)) : Int32).toNatClampNeg)) - (gi M 150 ((p1 : Int32).toNatClampNeg)))) (fun (x9 : Int32) => (bq1 ((if x3 ≤ 0 then (bq1 (f_X9_shrinks M) (fun (x18 : Int32) => (some ((x18 * x9))))) else (bq1 (f_X9_stretches M) (fun (x20 : Int32) => (some ((x20 * x9)))))) : Option (Int32)) (fun (x10 : Int32) => (if x10 = 0 then (if x3 ≤ 0 then some (3267756032 : UInt32) else some (1120272384 : UInt32)) else (nmq (FP.fdiv (FP.i2f x3) (FP.i2f x10)) (fun (x13 : UInt32) => gq (nN x13) (some x13))))))))))) (fun (K6 : Unit → Option UInt32) => (if x3 ≤ 0 then (K6 ()) else (bq1 (f_X9_isEnd p2 M) (fun (x23 : Int32) => (if x23 = 0 then (K6 ()) else some FP.fconst0))))))))))
set_option maxHeartbeats 4000000 in
set_option maxRecDepth 100000 in
theorem ct_X9_ratioOf (l : Launch) (G : GG) {p1 : Int32} {p2 : Int32} {M : Mem} {r : UInt32}  (hf : f_X9_ratioOf p1 p2 M = some r) : Met l yX9_ratioOf (wsq yX9_ratioOf cX9_ratioOf 6 (some .float)) (rmq 1 22) (va_Pc [.ref (G.2.2.1 139), .int p1, .int p2] (World G M)) (Qf G r M) 0 0 (adA G) := by
  refine x_start (plainFor_of_name (by decide)) (Nat.le_of_ble_eq_true rfl) ?_
  intro p e s m args below meth c hB hr hlk hW hS ls hl
  have hx := hB.x
  have hb := hB.b
  have hl : lv_has ls 6 [(0, .ref (G.2.2.1 139)), (1, .int p1), (2, .int p2)] := hl
  unfold f_X9_ratioOf at hf
  refine lv_aload_n hx hb dX9_ratioOf_0 rfl (lv_at hl 0 rfl) ?_
  refine fg9_11 hB hW tl139 wd5_90 dX9_ratioOf_1 ?_
  refine lv_aload_n hx hb dX9_ratioOf_4 rfl (lv_at hl 0 rfl) ?_
  refine lv_iload_n hx hb dX9_ratioOf_5 rfl (lv_at hl 1 rfl) ?_
  refine lv_iload_n hx hb dX9_ratioOf_6 rfl (lv_at hl 2 rfl) ?_
  obtain ⟨x1, hg2, hf⟩ := b_o1 hf
  refine x_ci hB (x_rv hB hW hS (As := [.int p1, .int p2]) (rest := [.int (gi M 139 11)]) (ct_X9_natural l G hg2) (cl_RX9_160 hB.2.2.2.2.1 ⟨Nat.le_of_ble_eq_true rfl, Nat.le_of_ble_eq_true rfl⟩) tl139 (by decide) rfl rfl hl.1 rfl (Nat.le_of_ble_eq_true rfl) dX9_ratioOf_7 ⟨Nat.le_refl _, Nat.le_refl _⟩) hS (fun H locs hW hS => ?_)
  refine lv_isub hx hb dX9_ratioOf_10 ?_
  refine lv_topi (fun x3 ex3 => ?_)
  have hf := nm_o hf ex3
  refine lv_istore_n (lv' := [(3, .int x3), (0, .ref (G.2.2.1 139)), (1, .int p1), (2, .int p2)]) hx hb dX9_ratioOf_11 rfl hl (by decide) rfl (fun ls hl => ?_)
  refine lv_iload_n hx hb dX9_ratioOf_12 rfl (lv_at hl 0 rfl) ?_
  refine lv_if_eq (tgt := 28) hx hb dX9_ratioOf_13 (by decide) (fun c4 => ?_) (fun c4 => ?_)
  · have hf := i_t hf c4
    refine lv_fconst0 hx hb dX9_ratioOf_28 ?_
    exact e_f hB hW hS hr hlk (Option.some.inj hf) rfl dX9_ratioOf_29
  · have hf := i_f hf c4
    refine lv_iload_n hx hb dX9_ratioOf_16 rfl (lv_at hl 0 rfl) ?_
    obtain ⟨K6, eK6, hf⟩ := j_o hf
    have main5 : ∀ (_ : Unit) (H : Heap) (locs : List Loc) (ls : Array Slot), Wd G M H → va_S (adA G) s.heap H locs → lv_has ls 6 [(0, .ref (G.2.2.1 139)), (1, .int p1), (2, .int p2), (3, .int x3)] → K6 () = some r → W p l e (rmq 1 22) s m args below meth c H locs 0 0 (MQ below (Qf G r M) args s 0 0 (adA G)) (F0 m 30 ls []) := by
      intro _ H locs ls hW hS hl hf
      subst eK6
      refine lv_aload_n hx hb dX9_ratioOf_30 rfl (lv_at hl 0 rfl) ?_
      refine fg9_22 hB hW tl139 wd5_101 dX9_ratioOf_31 ?_
      refine lv_iload_n hx hb dX9_ratioOf_34 rfl (lv_at hl 2 rfl) ?_
      refine lv_iconst (v := (1 : Int32)) hx hb dX9_ratioOf_35 (by decide) ?_
      refine lv_isub hx hb dX9_ratioOf_36 ?_
      obtain ⟨h7, hf⟩ := g_o hf
      refine x_iald hB hW tl150 al150 h7 dX9_ratioOf_37 ?_
      refine lv_aload_n hx hb dX9_ratioOf_38 rfl (lv_at hl 0 rfl) ?_
      refine fg9_22 hB hW tl139 wd5_101 dX9_ratioOf_39 ?_
      refine lv_iload_n hx hb dX9_ratioOf_42 rfl (lv_at hl 1 rfl) ?_
      obtain ⟨h8, hf⟩ := g_o hf
      refine x_iald hB hW tl150 al150 h8 dX9_ratioOf_43 ?_
      refine lv_isub hx hb dX9_ratioOf_44 ?_
      refine lv_topi (fun x9 ex9 => ?_)
      have hf := nm_o hf ex9
      refine lv_istore (lv' := [(4, .int x9), (0, .ref (G.2.2.1 139)), (1, .int p1), (2, .int p2), (3, .int x3)]) hx hb dX9_ratioOf_45 hl (by decide) rfl (fun ls hl => ?_)
      refine lv_iload_n hx hb dX9_ratioOf_47 rfl (lv_at hl 4 rfl) ?_
      obtain ⟨y16, hR, hf⟩ := b_o1 hf
      have main11 : ∀ (x10 : Int32) (H : Heap) (locs : List Loc) (ls : Array Slot), Wd G M H → va_S (adA G) s.heap H locs → lv_has ls 6 [(3, .int x3)] → some (x10) = some (y16) → W p l e (rmq 1 22) s m args below meth c H locs 0 0 (MQ below (Qf G r M) args s 0 0 (adA G)) (F0 m 68 ls [.int x10]) := by
        intro x10 H locs ls hW hS hl hE
        cases hE
        refine lv_istore (lv' := [(5, .int y16), (3, .int x3)]) hx hb dX9_ratioOf_68 hl (by decide) rfl (fun ls hl => ?_)
        refine lv_iload hx hb dX9_ratioOf_70 (lv_at hl 0 rfl) ?_
        refine lv_if_ne (tgt := 87) hx hb dX9_ratioOf_72 (by decide) (fun c12 => ?_) (fun c12 => ?_)
        · have hf := i_f hf c12
          refine lv_iload_n hx hb dX9_ratioOf_87 rfl (lv_at hl 1 rfl) ?_
          refine lv_i2f hx hb dX9_ratioOf_88 ?_
          refine lv_iload hx hb dX9_ratioOf_89 (lv_at hl 0 rfl) ?_
          refine lv_i2f hx hb dX9_ratioOf_91 ?_
          obtain ⟨x13, ex13⟩ : ∃ y : UInt32, y = FP.fdiv (FP.i2f x3) (FP.i2f y16) := ⟨_, rfl⟩
          have hf := nm_o hf ex13
          obtain ⟨h14, hf⟩ := g_o hf
          refine y_fdiv hB ex13 h14 dX9_ratioOf_92 ?_
          exact e_f hB hW hS hr hlk (Option.some.inj hf) rfl dX9_ratioOf_93
        · have hf := i_t hf c12
          refine lv_iload_n hx hb dX9_ratioOf_75 rfl (lv_at hl 1 rfl) ?_
          refine lv_if_le (tgt := 84) hx hb dX9_ratioOf_76 (by decide) (fun c15 => ?_) (fun c15 => ?_)
          · have hf := i_t hf c15
            refine lv_ldcf (v := (3267756032 : UInt32)) hx hb hB.ow (hB.w wd7_18) dX9_ratioOf_84 ?_
            exact e_f hB hW hS hr hlk (Option.some.inj hf) rfl dX9_ratioOf_86
          · have hf := i_f hf c15
            refine lv_ldcf (v := (1120272384 : UInt32)) hx hb hB.ow (hB.w wd7_17) dX9_ratioOf_79 ?_
            refine lv_goto (tgt := 86) hx hb dX9_ratioOf_81 (by decide) ?_
            exact e_f hB hW hS hr hlk (Option.some.inj hf) rfl dX9_ratioOf_86
      have hf := hR
      refine lv_if_le (tgt := 61) hx hb dX9_ratioOf_48 (by decide) (fun c17 => ?_) (fun c17 => ?_)
      · have hf := i_t hf c17
        refine lv_aload_n hx hb dX9_ratioOf_61 rfl (lv_at hl 1 rfl) ?_
        obtain ⟨x18, hg19, hf⟩ := b_o1 hf
        refine x_ci hB (x_rv hB hW hS (As := []) (rest := []) (ct_X9_shrinks l G hg19) (cl_RX9_171 hB.2.2.2.2.1 ⟨Nat.le_of_ble_eq_true rfl, Nat.le_of_ble_eq_true rfl⟩) tl139 (by decide) rfl rfl hl.1 rfl (Nat.le_of_ble_eq_true rfl) dX9_ratioOf_62 ⟨Nat.le_refl _, Nat.le_refl _⟩) hS (fun H locs hW hS => ?_)
        refine lv_iload hx hb dX9_ratioOf_65 (lv_at hl 0 rfl) ?_
        refine lv_imul hx hb dX9_ratioOf_67 ?_
        exact main11 (x18 * x9) _ _ ls hW hS (lv_sub hl [4] rfl) hf
      · have hf := i_f hf c17
        refine lv_aload_n hx hb dX9_ratioOf_51 rfl (lv_at hl 1 rfl) ?_
        obtain ⟨x20, hg21, hf⟩ := b_o1 hf
        refine x_ci hB (x_rv hB hW hS (As := []) (rest := []) (ct_X9_stretches l G hg21) (cl_RX9_167 hB.2.2.2.2.1 ⟨Nat.le_of_ble_eq_true rfl, Nat.le_of_ble_eq_true rfl⟩) tl139 (by decide) rfl rfl hl.1 rfl (Nat.le_of_ble_eq_true rfl) dX9_ratioOf_52 ⟨Nat.le_refl _, Nat.le_refl _⟩) hS (fun H locs hW hS => ?_)
        refine lv_iload hx hb dX9_ratioOf_55 (lv_at hl 0 rfl) ?_
        refine lv_imul hx hb dX9_ratioOf_57 ?_
        refine lv_goto (tgt := 68) hx hb dX9_ratioOf_58 (by decide) ?_
        exact main11 (x20 * x9) _ _ ls hW hS (lv_sub hl [4] rfl) hf
    refine lv_if_le (tgt := 30) hx hb dX9_ratioOf_17 (by decide) (fun c22 => ?_) (fun c22 => ?_)
    · have hf := i_t hf c22
      exact main5 () _ _ ls hW hS (lv_sub hl [1, 2, 3, 0] rfl) hf
    · have hf := i_f hf c22
      refine lv_aload_n hx hb dX9_ratioOf_20 rfl (lv_at hl 1 rfl) ?_
      refine lv_iload_n hx hb dX9_ratioOf_21 rfl (lv_at hl 3 rfl) ?_
      obtain ⟨x23, hg24, hf⟩ := b_o1 hf
      refine x_ci hB (x_rv hB hW hS (As := [.int p2]) (rest := []) (ct_X9_isEnd l G hg24) (cl_RX9_163 hB.2.2.2.2.1 ⟨Nat.le_of_ble_eq_true rfl, Nat.le_of_ble_eq_true rfl⟩) tl139 (by decide) rfl rfl hl.1 rfl (Nat.le_of_ble_eq_true rfl) dX9_ratioOf_22 ⟨Nat.le_refl _, Nat.le_refl _⟩) hS (fun H locs hW hS => ?_)
      refine lv_if_eq (tgt := 30) hx hb dX9_ratioOf_25 (by decide) (fun c25 => ?_) (fun c25 => ?_)
      · have hf := i_t hf c25
        exact main5 () _ _ ls hW hS (lv_sub hl [1, 2, 3, 0] rfl) hf
      · have hf := i_f hf c25
        refine lv_fconst0 hx hb dX9_ratioOf_28 ?_
        exact e_f hB hW hS hr hlk (Option.some.inj hf) rfl dX9_ratioOf_29
theorem cl_RX9_176 {R : Room} {s : State} {args : Array Value} (ht : ∀ w ∈ lw_all, w.before args s = true) (hR : 1 + 1 ≤ R.frames ∧ 8 + (6 + 11) + 22 ≤ R.locals) : CallW R s args RX9 RX9 176 yX9_ratioOf cX9_ratioOf 6 (some .float) (wsq yX9_ratioOf cX9_ratioOf 6 (some .float)) (rmq 1 22) 0 0 2 := cwV 2 ht (goodV wd6_237 wd6_239 wsel_69 wd1_10 wd7_0) rfl rfl rfl (by decide +kernel) hR
def f_X9_fits (p1 : Int32) (p2 : Int32) (M : Mem) : Option Int32 := (bq1 (f_X9_ratioOf p1 p2 M) (fun (x1 : UInt32) => (if (fcl x1 (3212836864 : UInt32)) < 0 then some (0 : Int32) else (nmq (FP.fdiv (FP.i2f (gi M 139 15)) (1082130432 : UInt32)) (fun (x4 : UInt32) => gq (nN x4) ((if 0 < (fcg x1 x4) then some (0 : Int32) else some (1 : Int32))))))))
set_option maxHeartbeats 4000000 in
set_option maxRecDepth 100000 in
theorem ct_X9_fits (l : Launch) (G : GG) {p1 : Int32} {p2 : Int32} {M : Mem} {r : Int32}  (hf : f_X9_fits p1 p2 M = some r) : Met l yX9_fits (wsq yX9_fits cX9_fits 4 (some .boolean)) (rmq 2 47) (va_Pc [.ref (G.2.2.1 139), .int p1, .int p2] (World G M)) (Qi G r M) 0 0 (adA G) := by
  refine x_start (plainFor_of_name (by decide)) (Nat.le_of_ble_eq_true rfl) ?_
  intro p e s m args below meth c hB hr hlk hW hS ls hl
  have hx := hB.x
  have hb := hB.b
  have hl : lv_has ls 4 [(0, .ref (G.2.2.1 139)), (1, .int p1), (2, .int p2)] := hl
  unfold f_X9_fits at hf
  refine lv_aload_n hx hb dX9_fits_0 rfl (lv_at hl 0 rfl) ?_
  refine lv_iload_n hx hb dX9_fits_1 rfl (lv_at hl 1 rfl) ?_
  refine lv_iload_n hx hb dX9_fits_2 rfl (lv_at hl 2 rfl) ?_
  obtain ⟨x1, hg2, hf⟩ := b_o1 hf
  refine x_cf hB (x_rv hB hW hS (As := [.int p1, .int p2]) (rest := []) (ct_X9_ratioOf l G hg2) (cl_RX9_176 hB.2.2.2.2.1 ⟨Nat.le_of_ble_eq_true rfl, Nat.le_of_ble_eq_true rfl⟩) tl139 (by decide) rfl rfl hl.1 rfl (Nat.le_of_ble_eq_true rfl) dX9_fits_3 ⟨Nat.le_refl _, Nat.le_refl _⟩) hS (fun H locs hW hS => ?_)
  refine lv_fstore_n (lv' := [(3, .float x1), (0, .ref (G.2.2.1 139)), (1, .int p1), (2, .int p2)]) hx hb dX9_fits_6 rfl hl (by decide) rfl (fun ls hl => ?_)
  refine lv_fload_n hx hb dX9_fits_7 rfl (lv_at hl 0 rfl) ?_
  refine lv_ldcf (v := (3212836864 : UInt32)) hx hb hB.ow (hB.w wd7_19) dX9_fits_8 ?_
  refine lv_fcmp hx hb dX9_fits_10 ?_
  refine lv_if_lt (tgt := 31) hx hb dX9_fits_11 (by decide) (fun c3 => ?_) (fun c3 => ?_)
  · have hf := i_t hf c3
    refine lv_iconst (v := (0 : Int32)) hx hb dX9_fits_31 (by decide) ?_
    exact e_z (by decide) hB hW hS hr hlk (Option.some.inj hf) rfl dX9_fits_32
  · have hf := i_f hf c3
    refine lv_fload_n hx hb dX9_fits_14 rfl (lv_at hl 0 rfl) ?_
    refine lv_aload_n hx hb dX9_fits_15 rfl (lv_at hl 1 rfl) ?_
    refine fg9_15 hB hW tl139 wd5_94 dX9_fits_16 ?_
    refine lv_i2f hx hb dX9_fits_19 ?_
    refine lv_ldcf (v := (1082130432 : UInt32)) hx hb hB.ow (hB.w wd7_20) dX9_fits_20 ?_
    obtain ⟨x4, ex4⟩ : ∃ y : UInt32, y = FP.fdiv (FP.i2f (gi M 139 15)) (1082130432 : UInt32) := ⟨_, rfl⟩
    have hf := nm_o hf ex4
    obtain ⟨h5, hf⟩ := g_o hf
    refine y_fdiv hB ex4 h5 dX9_fits_22 ?_
    refine lv_fcmp hx hb dX9_fits_23 ?_
    refine lv_if_gt (tgt := 31) hx hb dX9_fits_24 (by decide) (fun c6 => ?_) (fun c6 => ?_)
    · have hf := i_t hf c6
      refine lv_iconst (v := (0 : Int32)) hx hb dX9_fits_31 (by decide) ?_
      exact e_z (by decide) hB hW hS hr hlk (Option.some.inj hf) rfl dX9_fits_32
    · have hf := i_f hf c6
      refine lv_iconst (v := (1 : Int32)) hx hb dX9_fits_27 (by decide) ?_
      refine lv_goto (tgt := 32) hx hb dX9_fits_28 (by decide) ?_
      exact e_z (by decide) hB hW hS hr hlk (Option.some.inj hf) rfl dX9_fits_32
def f_X9_badnessOf (p1 : Int32) (p2 : Int32) (M : Mem) : Option UInt32 := (bq1 (f_X9_ratioOf p1 p2 M) (fun (x1 : UInt32) => (bq1 ((if 0 ≤ (fcg x1 FP.fconst0) then (some (x1)) else (nmq ((FP.fneg x1)) (fun (x13 : UInt32) => (some (x13))))) : Option (UInt32)) (fun (x3 : UInt32) => (nmq (FP.fmul x3 x3) (fun (x5 : UInt32) => gq (nN x5) (nmq (FP.fmul x5 x3) (fun (x7 : UInt32) => gq (nN x7) (nmq (FP.fmul x7 (1120403456 : UInt32)) (fun (x9 : UInt32) => gq (nN x9) (some x9)))))))))))
set_option maxHeartbeats 4000000 in
set_option maxRecDepth 100000 in
theorem ct_X9_badnessOf (l : Launch) (G : GG) {p1 : Int32} {p2 : Int32} {M : Mem} {r : UInt32}  (hf : f_X9_badnessOf p1 p2 M = some r) : Met l yX9_badnessOf (wsq yX9_badnessOf cX9_badnessOf 4 (some .float)) (rmq 2 47) (va_Pc [.ref (G.2.2.1 139), .int p1, .int p2] (World G M)) (Qf G r M) 0 0 (adA G) := by
  refine x_start (plainFor_of_name (by decide)) (Nat.le_of_ble_eq_true rfl) ?_
  intro p e s m args below meth c hB hr hlk hW hS ls hl
  have hx := hB.x
  have hb := hB.b
  have hl : lv_has ls 4 [(0, .ref (G.2.2.1 139)), (1, .int p1), (2, .int p2)] := hl
  unfold f_X9_badnessOf at hf
  refine lv_aload_n hx hb dX9_badnessOf_0 rfl (lv_at hl 0 rfl) ?_
  refine lv_iload_n hx hb dX9_badnessOf_1 rfl (lv_at hl 1 rfl) ?_
  refine lv_iload_n hx hb dX9_badnessOf_2 rfl (lv_at hl 2 rfl) ?_
  obtain ⟨x1, hg2, hf⟩ := b_o1 hf
  refine x_cf hB (x_rv hB hW hS (As := [.int p1, .int p2]) (rest := []) (ct_X9_ratioOf l G hg2) (cl_RX9_176 hB.2.2.2.2.1 ⟨Nat.le_of_ble_eq_true rfl, Nat.le_of_ble_eq_true rfl⟩) tl139 (by decide) rfl rfl hl.1 rfl (Nat.le_of_ble_eq_true rfl) dX9_badnessOf_3 ⟨Nat.le_refl _, Nat.le_refl _⟩) hS (fun H locs hW hS => ?_)
  refine lv_fstore_n (lv' := [(3, .float x1), (0, .ref (G.2.2.1 139)), (1, .int p1), (2, .int p2)]) hx hb dX9_badnessOf_6 rfl hl (by decide) rfl (fun ls hl => ?_)
  refine lv_fload_n hx hb dX9_badnessOf_7 rfl (lv_at hl 0 rfl) ?_
  refine lv_fconst0 hx hb dX9_badnessOf_8 ?_
  refine lv_fcmp hx hb dX9_badnessOf_9 ?_
  obtain ⟨y11, hR, hf⟩ := b_o1 hf
  have main4 : ∀ (x3 : UInt32) (H : Heap) (locs : List Loc) (ls : Array Slot), Wd G M H → va_S (adA G) s.heap H locs → lv_has ls 4 [(3, .float x3)] → some (x3) = some (y11) → W p l e (rmq 2 47) s m args below meth c H locs 0 0 (MQ below (Qf G r M) args s 0 0 (adA G)) (F0 m 16 ls []) := by
    intro x3 H locs ls hW hS hl hE
    cases hE
    refine lv_fload_n hx hb dX9_badnessOf_16 rfl (lv_at hl 0 rfl) ?_
    refine lv_fload_n hx hb dX9_badnessOf_17 rfl (lv_at hl 0 rfl) ?_
    obtain ⟨x5, ex5⟩ : ∃ y : UInt32, y = FP.fmul y11 y11 := ⟨_, rfl⟩
    have hf := nm_o hf ex5
    obtain ⟨h6, hf⟩ := g_o hf
    refine y_fmul hB ex5 h6 dX9_badnessOf_18 ?_
    refine lv_fload_n hx hb dX9_badnessOf_19 rfl (lv_at hl 0 rfl) ?_
    obtain ⟨x7, ex7⟩ : ∃ y : UInt32, y = FP.fmul x5 y11 := ⟨_, rfl⟩
    have hf := nm_o hf ex7
    obtain ⟨h8, hf⟩ := g_o hf
    refine y_fmul hB ex7 h8 dX9_badnessOf_20 ?_
    refine lv_ldcf (v := (1120403456 : UInt32)) hx hb hB.ow (hB.w wd7_33) dX9_badnessOf_21 ?_
    obtain ⟨x9, ex9⟩ : ∃ y : UInt32, y = FP.fmul x7 (1120403456 : UInt32) := ⟨_, rfl⟩
    have hf := nm_o hf ex9
    obtain ⟨h10, hf⟩ := g_o hf
    refine y_fmul hB ex9 h10 dX9_badnessOf_23 ?_
    exact e_f hB hW hS hr hlk (Option.some.inj hf) rfl dX9_badnessOf_24
  have hf := hR
  refine lv_if_ge (tgt := 16) hx hb dX9_badnessOf_10 (by decide) (fun c12 => ?_) (fun c12 => ?_)
  · have hf := i_t hf c12
    exact main4 x1 _ _ ls hW hS (lv_sub hl [0] rfl) hf
  · have hf := i_f hf c12
    refine lv_fload_n hx hb dX9_badnessOf_13 rfl (lv_at hl 0 rfl) ?_
    refine lv_fneg hx hb dX9_badnessOf_14 ?_
    refine lv_topf (fun x13 ex13 => ?_)
    have hf := nm_o hf ex13
    refine lv_fstore_n (lv' := [(3, .float x13), (0, .ref (G.2.2.1 139)), (1, .int p1), (2, .int p2)]) hx hb dX9_badnessOf_15 rfl hl (by decide) rfl (fun ls hl => ?_)
    exact main4 x13 _ _ ls hW hS (lv_sub hl [0] rfl) hf
def f_X9_isWidow (p1 : Int32) (p2 : Int32) (M : Mem) : Option Int32 := (bq1 (f_X9_isEnd p2 M) (fun (x1 : Int32) => (if x1 = 0 then some (0 : Int32) else (gq (inB p1 161) (gq (inB (p2 - (1 : Int32)) 161) ((if (gi M 152 ((p1 : Int32).toNatClampNeg)) = (gi M 152 (((p2 - (1 : Int32)) : Int32).toNatClampNeg)) then (if p1 ≤ 0 then some (0 : Int32) else (bq1 (f_X9_isEnd p1 M) (fun (x8 : Int32) => (if x8 = 0 then some (1 : Int32) else some (0 : Int32))))) else some (0 : Int32))))))))
set_option maxHeartbeats 4000000 in
set_option maxRecDepth 100000 in
theorem ct_X9_isWidow (l : Launch) (G : GG) {p1 : Int32} {p2 : Int32} {M : Mem} {r : Int32}  (hf : f_X9_isWidow p1 p2 M = some r) : Met l yX9_isWidow (wsq yX9_isWidow cX9_isWidow 3 (some .boolean)) (rmq 1 21) (va_Pc [.ref (G.2.2.1 139), .int p1, .int p2] (World G M)) (Qi G r M) 0 0 (adA G) := by
  refine x_start (plainFor_of_name (by decide)) (Nat.le_of_ble_eq_true rfl) ?_
  intro p e s m args below meth c hB hr hlk hW hS ls hl
  have hx := hB.x
  have hb := hB.b
  have hl : lv_has ls 3 [(0, .ref (G.2.2.1 139)), (1, .int p1), (2, .int p2)] := hl
  unfold f_X9_isWidow at hf
  refine lv_aload_n hx hb dX9_isWidow_0 rfl (lv_at hl 0 rfl) ?_
  refine lv_iload_n hx hb dX9_isWidow_1 rfl (lv_at hl 2 rfl) ?_
  obtain ⟨x1, hg2, hf⟩ := b_o1 hf
  refine x_ci hB (x_rv hB hW hS (As := [.int p2]) (rest := []) (ct_X9_isEnd l G hg2) (cl_RX9_163 hB.2.2.2.2.1 ⟨Nat.le_of_ble_eq_true rfl, Nat.le_of_ble_eq_true rfl⟩) tl139 (by decide) rfl rfl hl.1 rfl (Nat.le_of_ble_eq_true rfl) dX9_isWidow_2 ⟨Nat.le_refl _, Nat.le_refl _⟩) hS (fun H locs hW hS => ?_)
  refine lv_if_eq (tgt := 41) hx hb dX9_isWidow_5 (by decide) (fun c3 => ?_) (fun c3 => ?_)
  · have hf := i_t hf c3
    refine lv_iconst (v := (0 : Int32)) hx hb dX9_isWidow_41 (by decide) ?_
    exact e_z (by decide) hB hW hS hr hlk (Option.some.inj hf) rfl dX9_isWidow_42
  · have hf := i_f hf c3
    refine lv_aload_n hx hb dX9_isWidow_8 rfl (lv_at hl 0 rfl) ?_
    refine fg9_24 hB hW tl139 wd5_103 dX9_isWidow_9 ?_
    refine lv_iload_n hx hb dX9_isWidow_12 rfl (lv_at hl 1 rfl) ?_
    obtain ⟨h4, hf⟩ := g_o hf
    refine x_iald hB hW tl152 al152 h4 dX9_isWidow_13 ?_
    refine lv_aload_n hx hb dX9_isWidow_14 rfl (lv_at hl 0 rfl) ?_
    refine fg9_24 hB hW tl139 wd5_103 dX9_isWidow_15 ?_
    refine lv_iload_n hx hb dX9_isWidow_18 rfl (lv_at hl 2 rfl) ?_
    refine lv_iconst (v := (1 : Int32)) hx hb dX9_isWidow_19 (by decide) ?_
    refine lv_isub hx hb dX9_isWidow_20 ?_
    obtain ⟨h5, hf⟩ := g_o hf
    refine x_iald hB hW tl152 al152 h5 dX9_isWidow_21 ?_
    refine lv_icmp_ne (tgt := 41) hx hb dX9_isWidow_22 (by decide) (fun c6 => ?_) (fun c6 => ?_)
    · have hf := i_f hf c6
      refine lv_iconst (v := (0 : Int32)) hx hb dX9_isWidow_41 (by decide) ?_
      exact e_z (by decide) hB hW hS hr hlk (Option.some.inj hf) rfl dX9_isWidow_42
    · have hf := i_t hf c6
      refine lv_iload_n hx hb dX9_isWidow_25 rfl (lv_at hl 1 rfl) ?_
      refine lv_if_le (tgt := 41) hx hb dX9_isWidow_26 (by decide) (fun c7 => ?_) (fun c7 => ?_)
      · have hf := i_t hf c7
        refine lv_iconst (v := (0 : Int32)) hx hb dX9_isWidow_41 (by decide) ?_
        exact e_z (by decide) hB hW hS hr hlk (Option.some.inj hf) rfl dX9_isWidow_42
      · have hf := i_f hf c7
        refine lv_aload_n hx hb dX9_isWidow_29 rfl (lv_at hl 0 rfl) ?_
        refine lv_iload_n hx hb dX9_isWidow_30 rfl (lv_at hl 1 rfl) ?_
        obtain ⟨x8, hg9, hf⟩ := b_o1 hf
        refine x_ci hB (x_rv hB hW hS (As := [.int p1]) (rest := []) (ct_X9_isEnd l G hg9) (cl_RX9_163 hB.2.2.2.2.1 ⟨Nat.le_of_ble_eq_true rfl, Nat.le_of_ble_eq_true rfl⟩) tl139 (by decide) rfl rfl hl.1 rfl (Nat.le_of_ble_eq_true rfl) dX9_isWidow_31 ⟨Nat.le_refl _, Nat.le_refl _⟩) hS (fun H locs hW hS => ?_)
        refine lv_if_ne (tgt := 41) hx hb dX9_isWidow_34 (by decide) (fun c10 => ?_) (fun c10 => ?_)
        · have hf := i_f hf c10
          refine lv_iconst (v := (0 : Int32)) hx hb dX9_isWidow_41 (by decide) ?_
          exact e_z (by decide) hB hW hS hr hlk (Option.some.inj hf) rfl dX9_isWidow_42
        · have hf := i_t hf c10
          refine lv_iconst (v := (1 : Int32)) hx hb dX9_isWidow_37 (by decide) ?_
          refine lv_goto (tgt := 42) hx hb dX9_isWidow_38 (by decide) ?_
          exact e_z (by decide) hB hW hS hr hlk (Option.some.inj hf) rfl dX9_isWidow_42
theorem cl_RX9_183 {R : Room} {s : State} {args : Array Value} (ht : ∀ w ∈ lw_all, w.before args s = true) (hR : 0 + 1 ≤ R.frames ∧ 8 + (1 + 11) + 0 ≤ R.locals) : CallW R s args RX9 RX9 183 yX9_penalty cX9_penalty 1 (some .int) (wsq yX9_penalty cX9_penalty 1 (some .int)) (rmq 0 0) 0 0 0 := cwV 0 ht (goodV wd7_25 wd7_27 wsel_75 wd1_10 wd7_28) rfl rfl rfl (by decide +kernel) hR
theorem cl_RX9_186 {R : Room} {s : State} {args : Array Value} (ht : ∀ w ∈ lw_all, w.before args s = true) (hR : 2 + 1 ≤ R.frames ∧ 8 + (4 + 11) + 47 ≤ R.locals) : CallW R s args RX9 RX9 186 yX9_badnessOf cX9_badnessOf 4 (some .float) (wsq yX9_badnessOf cX9_badnessOf 4 (some .float)) (rmq 2 47) 0 0 2 := cwV 2 ht (goodV wd7_29 wd7_31 wsel_76 wd1_10 wd7_32) rfl rfl rfl (by decide +kernel) hR
theorem cl_RX9_193 {R : Room} {s : State} {args : Array Value} (ht : ∀ w ∈ lw_all, w.before args s = true) (hR : 1 + 1 ≤ R.frames ∧ 8 + (3 + 11) + 21 ≤ R.locals) : CallW R s args RX9 RX9 193 yX9_isWidow cX9_isWidow 3 (some .boolean) (wsq yX9_isWidow cX9_isWidow 3 (some .boolean)) (rmq 1 21) 0 0 2 := cwV 2 ht (goodV wd7_35 wd7_37 wsel_77 wd1_10 wd7_38) rfl rfl rfl (by decide +kernel) hR
def f_X9_demeritsOf (p1 : Int32) (p2 : Int32) (M : Mem) : Option UInt32 := (gq (inB (p2 - (1 : Int32)) 161) ((nmq ((if (gi M 151 (((p2 - (1 : Int32)) : Int32).toNatClampNeg)) = (1 : Int32) then ((1 : Int32)) else ((0 : Int32)))) (fun (x2 : Int32) => (bq1 ((if x2 = 0 then (some (FP.fconst0)) else (bq1 (f_X9_penalty M) (fun (x44 : Int32) => (some ((FP.i2f x44)))))) : Option (UInt32)) (fun (x4 : UInt32) => (bq1 (f_X9_badnessOf p1 p2 M) (fun (x6 : UInt32) => nmq (FP.fadd FP.fconst1 x6) (fun (x8 : UInt32) => gq (nN x8) (nmq (FP.fadd x8 x4) (fun (x10 : UInt32) => gq (nN x10) ((bq1 ((if (gi M 139 18) = 0 then (nmq (FP.fmul x8 x8) (fun (x36 : UInt32) => gq (nN x36) (nmq (FP.fmul x4 x4) (fun (x38 : UInt32) => gq (nN x38) (nmq (FP.fadd x36 x38) (fun (x40 : UInt32) => gq (nN x40) ((some (x40))))))))) else (some (x10))) : Option (UInt32)) (fun (x12 : UInt32) => (bq1 ((if (gi M 139 18) = (1 : Int32) then (nmq (FP.fmul x12 x12) (fun (x32 : UInt32) => gq (nN x32) ((some (x32))))) else (some (x12))) : Option (UInt32)) (fun (x14 : UInt32) => (bq1 ((if x2 = 0 then (some (x14)) else (if p1 ≤ 0 then (some (x14)) else (gq (inB (p1 - (1 : Int32)) 161) ((if (gi M 151 (((p1 - (1 : Int32)) : Int32).toNatClampNeg)) = (1 : Int32) then (nmq (FP.fadd x14 (1161527296 : UInt32)) (fun (x28 : UInt32) => gq (nN x28) ((some (x28))))) else (some (x14))))))) : Option (UInt32)) (fun (x16 : UInt32) => (bq1 (f_X9_isWidow p1 p2 M) (fun (x18 : Int32) => (if x18 = 0 then some x16 else (nmq (FP.fadd x16 (FP.i2f ((1000 : Int32) * (gi M 139 17)))) (fun (x21 : UInt32) => gq (nN x21) (some x21))))))))))))))))))))))))
set_option maxHeartbeats 4000000 in
set_option maxRecDepth 100000 in
theorem ct_X9_demeritsOf (l : Launch) (G : GG) {p1 : Int32} {p2 : Int32} {M : Mem} {r : UInt32}  (hf : f_X9_demeritsOf p1 p2 M = some r) : Met l yX9_demeritsOf (wsq yX9_demeritsOf cX9_demeritsOf 7 (some .float)) (rmq 3 70) (va_Pc [.ref (G.2.2.1 139), .int p1, .int p2] (World G M)) (Qf G r M) 0 0 (adA G) := by
  refine x_start (plainFor_of_name (by decide)) (Nat.le_of_ble_eq_true rfl) ?_
  intro p e s m args below meth c hB hr hlk hW hS ls hl
  have hx := hB.x
  have hb := hB.b
  have hl : lv_has ls 7 [(0, .ref (G.2.2.1 139)), (1, .int p1), (2, .int p2)] := hl
  unfold f_X9_demeritsOf at hf
  refine lv_aload_n hx hb dX9_demeritsOf_0 rfl (lv_at hl 0 rfl) ?_
  refine fg9_23 hB hW tl139 wd5_102 dX9_demeritsOf_1 ?_
  refine lv_iload_n hx hb dX9_demeritsOf_4 rfl (lv_at hl 2 rfl) ?_
  refine lv_iconst (v := (1 : Int32)) hx hb dX9_demeritsOf_5 (by decide) ?_
  refine lv_isub hx hb dX9_demeritsOf_6 ?_
  obtain ⟨h1, hf⟩ := g_o hf
  refine x_iald hB hW tl151 al151 h1 dX9_demeritsOf_7 ?_
  refine lv_iconst (v := (1 : Int32)) hx hb dX9_demeritsOf_8 (by decide) ?_
  obtain ⟨y46, evy46⟩ : ∃ z : Int32, (if (gi M 151 (((p2 - (1 : Int32)) : Int32).toNatClampNeg)) = (1 : Int32) then ((1 : Int32)) else ((0 : Int32))) = z := ⟨_, rfl⟩
  have hf := nm_o hf evy46.symm
  have main3 : ∀ (x2 : Int32) (H : Heap) (locs : List Loc) (ls : Array Slot), Wd G M H → va_S (adA G) s.heap H locs → lv_has ls 7 [(0, .ref (G.2.2.1 139)), (1, .int p1), (2, .int p2)] → x2 = y46 → W p l e (rmq 3 70) s m args below meth c H locs 0 0 (MQ below (Qf G r M) args s 0 0 (adA G)) (F0 m 17 ls [.int x2]) := by
    intro x2 H locs ls hW hS hl hE
    have hE := hE.symm
    subst hE
    refine lv_istore_n (lv' := [(3, .int y46), (0, .ref (G.2.2.1 139)), (1, .int p1), (2, .int p2)]) hx hb dX9_demeritsOf_17 rfl hl (by decide) rfl (fun ls hl => ?_)
    refine lv_iload_n hx hb dX9_demeritsOf_18 rfl (lv_at hl 0 rfl) ?_
    obtain ⟨y42, hR, hf⟩ := b_o1 hf
    have main5 : ∀ (x4 : UInt32) (H : Heap) (locs : List Loc) (ls : Array Slot), Wd G M H → va_S (adA G) s.heap H locs → lv_has ls 7 [(0, .ref (G.2.2.1 139)), (1, .int p1), (2, .int p2), (3, .int y46)] → some (x4) = some (y42) → W p l e (rmq 3 70) s m args below meth c H locs 0 0 (MQ below (Qf G r M) args s 0 0 (adA G)) (F0 m 31 ls [.float x4]) := by
      intro x4 H locs ls hW hS hl hE
      cases hE
      refine lv_fstore (lv' := [(4, .float y42), (0, .ref (G.2.2.1 139)), (1, .int p1), (2, .int p2), (3, .int y46)]) hx hb dX9_demeritsOf_31 hl (by decide) rfl (fun ls hl => ?_)
      refine lv_fconst1 hx hb dX9_demeritsOf_33 ?_
      refine lv_aload_n hx hb dX9_demeritsOf_34 rfl (lv_at hl 1 rfl) ?_
      refine lv_iload_n hx hb dX9_demeritsOf_35 rfl (lv_at hl 2 rfl) ?_
      refine lv_iload_n hx hb dX9_demeritsOf_36 rfl (lv_at hl 3 rfl) ?_
      obtain ⟨x6, hg7, hf⟩ := b_o1 hf
      refine x_cf hB (x_rv hB hW hS (As := [.int p1, .int p2]) (rest := [.float FP.fconst1]) (ct_X9_badnessOf l G hg7) (cl_RX9_186 hB.2.2.2.2.1 ⟨Nat.le_of_ble_eq_true rfl, Nat.le_of_ble_eq_true rfl⟩) tl139 (by decide) rfl rfl hl.1 rfl (Nat.le_of_ble_eq_true rfl) dX9_demeritsOf_37 ⟨Nat.le_refl _, Nat.le_refl _⟩) hS (fun H locs hW hS => ?_)
      obtain ⟨x8, ex8⟩ : ∃ y : UInt32, y = FP.fadd FP.fconst1 x6 := ⟨_, rfl⟩
      have hf := nm_o hf ex8
      obtain ⟨h9, hf⟩ := g_o hf
      refine y_fadd hB ex8 h9 dX9_demeritsOf_40 ?_
      refine lv_fstore (lv' := [(5, .float x8), (4, .float y42), (0, .ref (G.2.2.1 139)), (1, .int p1), (2, .int p2), (3, .int y46)]) hx hb dX9_demeritsOf_41 hl (by decide) rfl (fun ls hl => ?_)
      refine lv_fload hx hb dX9_demeritsOf_43 (lv_at hl 0 rfl) ?_
      refine lv_fload hx hb dX9_demeritsOf_45 (lv_at hl 1 rfl) ?_
      obtain ⟨x10, ex10⟩ : ∃ y : UInt32, y = FP.fadd x8 y42 := ⟨_, rfl⟩
      have hf := nm_o hf ex10
      obtain ⟨h11, hf⟩ := g_o hf
      refine y_fadd hB ex10 h11 dX9_demeritsOf_47 ?_
      refine lv_fstore (lv' := [(6, .float x10), (5, .float x8), (4, .float y42), (0, .ref (G.2.2.1 139)), (1, .int p1), (2, .int p2), (3, .int y46)]) hx hb dX9_demeritsOf_48 hl (by decide) rfl (fun ls hl => ?_)
      refine lv_aload_n hx hb dX9_demeritsOf_50 rfl (lv_at hl 3 rfl) ?_
      refine fg9_18 hB hW tl139 wd5_97 dX9_demeritsOf_51 ?_
      obtain ⟨y34, hR, hf⟩ := b_o1 hf
      have main13 : ∀ (x12 : UInt32) (H : Heap) (locs : List Loc) (ls : Array Slot), Wd G M H → va_S (adA G) s.heap H locs → lv_has ls 7 [(0, .ref (G.2.2.1 139)), (1, .int p1), (2, .int p2), (3, .int y46), (6, .float x12)] → some (x12) = some (y34) → W p l e (rmq 3 70) s m args below meth c H locs 0 0 (MQ below (Qf G r M) args s 0 0 (adA G)) (F0 m 70 ls []) := by
        intro x12 H locs ls hW hS hl hE
        cases hE
        refine lv_aload_n hx hb dX9_demeritsOf_70 rfl (lv_at hl 0 rfl) ?_
        refine fg9_18 hB hW tl139 wd5_97 dX9_demeritsOf_71 ?_
        refine lv_iconst (v := (1 : Int32)) hx hb dX9_demeritsOf_74 (by decide) ?_
        obtain ⟨y30, hR, hf⟩ := b_o1 hf
        have main15 : ∀ (x14 : UInt32) (H : Heap) (locs : List Loc) (ls : Array Slot), Wd G M H → va_S (adA G) s.heap H locs → lv_has ls 7 [(0, .ref (G.2.2.1 139)), (1, .int p1), (2, .int p2), (3, .int y46), (6, .float x14)] → some (x14) = some (y30) → W p l e (rmq 3 70) s m args below meth c H locs 0 0 (MQ below (Qf G r M) args s 0 0 (adA G)) (F0 m 85 ls []) := by
          intro x14 H locs ls hW hS hl hE
          cases hE
          refine lv_iload_n hx hb dX9_demeritsOf_85 rfl (lv_at hl 3 rfl) ?_
          obtain ⟨y23, hR, hf⟩ := b_o1 hf
          have main17 : ∀ (x16 : UInt32) (H : Heap) (locs : List Loc) (ls : Array Slot), Wd G M H → va_S (adA G) s.heap H locs → lv_has ls 7 [(0, .ref (G.2.2.1 139)), (1, .int p1), (2, .int p2), (6, .float x16)] → some (x16) = some (y23) → W p l e (rmq 3 70) s m args below meth c H locs 0 0 (MQ below (Qf G r M) args s 0 0 (adA G)) (F0 m 112 ls []) := by
            intro x16 H locs ls hW hS hl hE
            cases hE
            refine lv_aload_n hx hb dX9_demeritsOf_112 rfl (lv_at hl 0 rfl) ?_
            refine lv_iload_n hx hb dX9_demeritsOf_113 rfl (lv_at hl 1 rfl) ?_
            refine lv_iload_n hx hb dX9_demeritsOf_114 rfl (lv_at hl 2 rfl) ?_
            obtain ⟨x18, hg19, hf⟩ := b_o1 hf
            refine x_ci hB (x_rv hB hW hS (As := [.int p1, .int p2]) (rest := []) (ct_X9_isWidow l G hg19) (cl_RX9_193 hB.2.2.2.2.1 ⟨Nat.le_of_ble_eq_true rfl, Nat.le_of_ble_eq_true rfl⟩) tl139 (by decide) rfl rfl hl.1 rfl (Nat.le_of_ble_eq_true rfl) dX9_demeritsOf_115 ⟨Nat.le_refl _, Nat.le_refl _⟩) hS (fun H locs hW hS => ?_)
            refine lv_if_eq (tgt := 135) hx hb dX9_demeritsOf_118 (by decide) (fun c20 => ?_) (fun c20 => ?_)
            · have hf := i_t hf c20
              refine lv_fload hx hb dX9_demeritsOf_135 (lv_at hl 3 rfl) ?_
              exact e_f hB hW hS hr hlk (Option.some.inj hf) rfl dX9_demeritsOf_137
            · have hf := i_f hf c20
              refine lv_fload hx hb dX9_demeritsOf_121 (lv_at hl 3 rfl) ?_
              refine lv_sipush (v := (1000 : Int32)) hx hb dX9_demeritsOf_123 (by decide) ?_
              refine lv_aload_n hx hb dX9_demeritsOf_126 rfl (lv_at hl 0 rfl) ?_
              refine fg9_17 hB hW tl139 wd5_96 dX9_demeritsOf_127 ?_
              refine lv_imul hx hb dX9_demeritsOf_130 ?_
              refine lv_i2f hx hb dX9_demeritsOf_131 ?_
              obtain ⟨x21, ex21⟩ : ∃ y : UInt32, y = FP.fadd y23 (FP.i2f ((1000 : Int32) * (gi M 139 17))) := ⟨_, rfl⟩
              have hf := nm_o hf ex21
              obtain ⟨h22, hf⟩ := g_o hf
              refine y_fadd hB ex21 h22 dX9_demeritsOf_132 ?_
              refine lv_fstore (lv' := [(6, .float x21), (0, .ref (G.2.2.1 139)), (1, .int p1), (2, .int p2)]) hx hb dX9_demeritsOf_133 hl (by decide) rfl (fun ls hl => ?_)
              refine lv_fload hx hb dX9_demeritsOf_135 (lv_at hl 0 rfl) ?_
              exact e_f hB hW hS hr hlk (Option.some.inj hf) rfl dX9_demeritsOf_137
          have hf := hR
          refine lv_if_eq (tgt := 112) hx hb dX9_demeritsOf_86 (by decide) (fun c24 => ?_) (fun c24 => ?_)
          · have hf := i_t hf c24
            exact main17 y30 _ _ ls hW hS (lv_sub hl [0, 1, 2, 4] rfl) hf
          · have hf := i_f hf c24
            refine lv_iload_n hx hb dX9_demeritsOf_89 rfl (lv_at hl 1 rfl) ?_
            refine lv_if_le (tgt := 112) hx hb dX9_demeritsOf_90 (by decide) (fun c25 => ?_) (fun c25 => ?_)
            · have hf := i_t hf c25
              exact main17 y30 _ _ ls hW hS (lv_sub hl [0, 1, 2, 4] rfl) hf
            · have hf := i_f hf c25
              refine lv_aload_n hx hb dX9_demeritsOf_93 rfl (lv_at hl 0 rfl) ?_
              refine fg9_23 hB hW tl139 wd5_102 dX9_demeritsOf_94 ?_
              refine lv_iload_n hx hb dX9_demeritsOf_97 rfl (lv_at hl 1 rfl) ?_
              refine lv_iconst (v := (1 : Int32)) hx hb dX9_demeritsOf_98 (by decide) ?_
              refine lv_isub hx hb dX9_demeritsOf_99 ?_
              obtain ⟨h26, hf⟩ := g_o hf
              refine x_iald hB hW tl151 al151 h26 dX9_demeritsOf_100 ?_
              refine lv_iconst (v := (1 : Int32)) hx hb dX9_demeritsOf_101 (by decide) ?_
              refine lv_icmp_ne (tgt := 112) hx hb dX9_demeritsOf_102 (by decide) (fun c27 => ?_) (fun c27 => ?_)
              · have hf := i_f hf c27
                exact main17 y30 _ _ ls hW hS (lv_sub hl [0, 1, 2, 4] rfl) hf
              · have hf := i_t hf c27
                refine lv_fload hx hb dX9_demeritsOf_105 (lv_at hl 4 rfl) ?_
                refine lv_ldcf (v := (1161527296 : UInt32)) hx hb hB.ow (hB.w wd7_34) dX9_demeritsOf_107 ?_
                obtain ⟨x28, ex28⟩ : ∃ y : UInt32, y = FP.fadd y30 (1161527296 : UInt32) := ⟨_, rfl⟩
                have hf := nm_o hf ex28
                obtain ⟨h29, hf⟩ := g_o hf
                refine y_fadd hB ex28 h29 dX9_demeritsOf_109 ?_
                refine lv_fstore (lv' := [(6, .float x28), (0, .ref (G.2.2.1 139)), (1, .int p1), (2, .int p2), (3, .int y46)]) hx hb dX9_demeritsOf_110 hl (by decide) rfl (fun ls hl => ?_)
                exact main17 x28 _ _ ls hW hS (lv_sub hl [1, 2, 3, 0] rfl) hf
        have hf := hR
        refine lv_icmp_ne (tgt := 85) hx hb dX9_demeritsOf_75 (by decide) (fun c31 => ?_) (fun c31 => ?_)
        · have hf := i_f hf c31
          exact main15 y34 _ _ ls hW hS (lv_sub hl [0, 1, 2, 3, 4] rfl) hf
        · have hf := i_t hf c31
          refine lv_fload hx hb dX9_demeritsOf_78 (lv_at hl 4 rfl) ?_
          refine lv_fload hx hb dX9_demeritsOf_80 (lv_at hl 4 rfl) ?_
          obtain ⟨x32, ex32⟩ : ∃ y : UInt32, y = FP.fmul y34 y34 := ⟨_, rfl⟩
          have hf := nm_o hf ex32
          obtain ⟨h33, hf⟩ := g_o hf
          refine y_fmul hB ex32 h33 dX9_demeritsOf_82 ?_
          refine lv_fstore (lv' := [(6, .float x32), (0, .ref (G.2.2.1 139)), (1, .int p1), (2, .int p2), (3, .int y46)]) hx hb dX9_demeritsOf_83 hl (by decide) rfl (fun ls hl => ?_)
          exact main15 x32 _ _ ls hW hS (lv_sub hl [1, 2, 3, 4, 0] rfl) hf
      have hf := hR
      refine lv_if_ne (tgt := 70) hx hb dX9_demeritsOf_54 (by decide) (fun c35 => ?_) (fun c35 => ?_)
      · have hf := i_f hf c35
        exact main13 x10 _ _ ls hW hS (lv_sub hl [3, 4, 5, 6, 0] rfl) hf
      · have hf := i_t hf c35
        refine lv_fload hx hb dX9_demeritsOf_57 (lv_at hl 1 rfl) ?_
        refine lv_fload hx hb dX9_demeritsOf_59 (lv_at hl 1 rfl) ?_
        obtain ⟨x36, ex36⟩ : ∃ y : UInt32, y = FP.fmul x8 x8 := ⟨_, rfl⟩
        have hf := nm_o hf ex36
        obtain ⟨h37, hf⟩ := g_o hf
        refine y_fmul hB ex36 h37 dX9_demeritsOf_61 ?_
        refine lv_fload hx hb dX9_demeritsOf_62 (lv_at hl 2 rfl) ?_
        refine lv_fload hx hb dX9_demeritsOf_64 (lv_at hl 2 rfl) ?_
        obtain ⟨x38, ex38⟩ : ∃ y : UInt32, y = FP.fmul y42 y42 := ⟨_, rfl⟩
        have hf := nm_o hf ex38
        obtain ⟨h39, hf⟩ := g_o hf
        refine y_fmul hB ex38 h39 dX9_demeritsOf_66 ?_
        obtain ⟨x40, ex40⟩ : ∃ y : UInt32, y = FP.fadd x36 x38 := ⟨_, rfl⟩
        have hf := nm_o hf ex40
        obtain ⟨h41, hf⟩ := g_o hf
        refine y_fadd hB ex40 h41 dX9_demeritsOf_67 ?_
        refine lv_fstore (lv' := [(6, .float x40), (5, .float x8), (4, .float y42), (0, .ref (G.2.2.1 139)), (1, .int p1), (2, .int p2), (3, .int y46)]) hx hb dX9_demeritsOf_68 hl (by decide) rfl (fun ls hl => ?_)
        exact main13 x40 _ _ ls hW hS (lv_sub hl [3, 4, 5, 6, 0] rfl) hf
    have hf := hR
    refine lv_if_eq (tgt := 30) hx hb dX9_demeritsOf_19 (by decide) (fun c43 => ?_) (fun c43 => ?_)
    · have hf := i_t hf c43
      refine lv_fconst0 hx hb dX9_demeritsOf_30 ?_
      exact main5 FP.fconst0 _ _ ls hW hS (lv_sub hl [1, 2, 3, 0] rfl) hf
    · have hf := i_f hf c43
      refine lv_aload_n hx hb dX9_demeritsOf_22 rfl (lv_at hl 1 rfl) ?_
      obtain ⟨x44, hg45, hf⟩ := b_o1 hf
      refine x_ci hB (x_rv hB hW hS (As := []) (rest := []) (ct_X9_penalty l G hg45) (cl_RX9_183 hB.2.2.2.2.1 ⟨Nat.le_of_ble_eq_true rfl, Nat.le_of_ble_eq_true rfl⟩) tl139 (by decide) rfl rfl hl.1 rfl (Nat.le_of_ble_eq_true rfl) dX9_demeritsOf_23 ⟨Nat.le_refl _, Nat.le_refl _⟩) hS (fun H locs hW hS => ?_)
      refine lv_i2f hx hb dX9_demeritsOf_26 ?_
      refine lv_goto (tgt := 31) hx hb dX9_demeritsOf_27 (by decide) ?_
      exact main5 (FP.i2f x44) _ _ ls hW hS (lv_sub hl [1, 2, 3, 0] rfl) hf
  have hf := evy46
  refine lv_icmp_ne (tgt := 16) hx hb dX9_demeritsOf_9 (by decide) (fun c47 => ?_) (fun c47 => ?_)
  · have hf := i_f hf c47
    refine lv_iconst (v := (0 : Int32)) hx hb dX9_demeritsOf_16 (by decide) ?_
    exact main3 (0 : Int32) _ _ ls hW hS (lv_sub hl [0, 1, 2] rfl) hf
  · have hf := i_t hf c47
    refine lv_iconst (v := (1 : Int32)) hx hb dX9_demeritsOf_12 (by decide) ?_
    refine lv_goto (tgt := 17) hx hb dX9_demeritsOf_13 (by decide) ?_
    exact main3 (1 : Int32) _ _ ls hW hS (lv_sub hl [0, 1, 2] rfl) hf
theorem cl_RX9_196 {R : Room} {s : State} {args : Array Value} (ht : ∀ w ∈ lw_all, w.before args s = true) (hR : 2 + 1 ≤ R.frames ∧ 8 + (4 + 11) + 47 ≤ R.locals) : CallW R s args RX9 RX9 196 yX9_fits cX9_fits 4 (some .boolean) (wsq yX9_fits cX9_fits 4 (some .boolean)) (rmq 2 47) 0 0 2 := cwV 2 ht (goodV wd6_233 wd6_235 wsel_68 wd1_10 wd6_236) rfl rfl rfl (by decide +kernel) hR
theorem cl_RX9_199 {R : Room} {s : State} {args : Array Value} (ht : ∀ w ∈ lw_all, w.before args s = true) (hR : 3 + 1 ≤ R.frames ∧ 8 + (7 + 11) + 70 ≤ R.locals) : CallW R s args RX9 RX9 199 yX9_demeritsOf cX9_demeritsOf 7 (some .float) (wsq yX9_demeritsOf cX9_demeritsOf 7 (some .float)) (rmq 3 70) 0 0 2 := cwV 2 ht (goodV wd7_21 wd7_23 wsel_74 wd1_10 wd7_24) rfl rfl rfl (by decide +kernel) hR
def f_X9_findBestOf_L12 (p1 : Int32) (K6 : Int32 → Mem → Option (Mem)) (x4 : Int32) (M5 : Mem) : Option (Mem) := (if x4 < 0 then (some (M5)) else (bq1 ((jq (fun (_ : Unit) => (bq1 (f_X9_fits x4 p1 M5) (fun (x24 : Int32) => (if x24 = 0 then (some (M5)) else (gq (inB x4 161) (bq1 (f_X9_demeritsOf x4 p1 M5) (fun (x28 : UInt32) => nmq (FP.fadd (gf M5 153 ((x4 : Int32).toNatClampNeg)) x28) (fun (x30 : UInt32) => gq (nN x30) (gq (inB p1 161) ((jq (fun (_ : Unit) => (gq (inB p1 161) (nmq (sf M5 153 ((p1 : Int32).toNatClampNeg) x30) (fun (M36 : Mem) => gq (inB p1 161) (nmq (si M36 154 ((p1 : Int32).toNatClampNeg) x4) (fun (M38 : Mem) => (some (M38)))))))) (fun (K34 : Unit → Option (Mem)) => (if (gi M5 154 ((p1 : Int32).toNatClampNeg)) < 0 then (K34 ()) else (gq (inB p1 161) ((if 0 < (fcg x30 (gf M5 153 ((p1 : Int32).toNatClampNeg))) then (some (M5)) else (K34 ()))))))))))))))))) (fun (K23 : Unit → Option (Mem)) => (if x4 = 0 then (K23 ()) else (gq (inB x4 161) ((if (gi M5 154 ((x4 : Int32).toNatClampNeg)) < 0 then (some (M5)) else (K23 ()))))))) : Option (Mem)) (fun (M12 : Mem) => (jq (fun (x14 : Int32) => (nmq ((x14 - (1 : Int32))) (fun (x17 : Int32) => (K6 x17 M12)))) (fun (K16 : Int32 → Option (Mem)) => (if x4 ≤ 0 then (K16 x4) else (gq (inB (x4 - (1 : Int32)) 161) ((if (gi M12 151 (((x4 - (1 : Int32)) : Int32).toNatClampNeg)) = (2 : Int32) then (K6 (-1 : Int32) M12) else (K16 x4))))))))))
def f_X9_findBestOf (p1 : Int32) (M : Mem) : Option Mem := (gq (inB p1 161) (nmq (si M 154 ((p1 : Int32).toNatClampNeg) (-9 : Int32)) (fun (M2 : Mem) => nmq ((p1 - (1 : Int32))) (fun (x3 : Int32) => (bq1 (lq2 (f_X9_findBestOf_L12 p1) FU x3 M2) (fun (M8 : Mem) => some M8))))))
set_option maxHeartbeats 4000000 in
set_option maxRecDepth 100000 in
theorem ct_X9_findBestOf (l : Launch) (G : GG) {p1 : Int32} {M : Mem} {Mr : Mem}  (hf : f_X9_findBestOf p1 M = some Mr) : Met l yX9_findBestOf (wsq yX9_findBestOf cX9_findBestOf 4 none) (rmq 4 96) (va_Pc [.ref (G.2.2.1 139), .int p1] (World G M)) (Qv G Mr) 0 0 (adA G) := by
  refine x_start (plainFor_of_name (by decide)) (Nat.le_of_ble_eq_true rfl) ?_
  intro p e s m args below meth c hB hr hlk hW hS ls hl
  have hx := hB.x
  have hb := hB.b
  have hl : lv_has ls 4 [(0, .ref (G.2.2.1 139)), (1, .int p1)] := hl
  unfold f_X9_findBestOf at hf
  refine lv_aload_n hx hb dX9_findBestOf_0 rfl (lv_at hl 0 rfl) ?_
  refine fg9_27 hB hW tl139 wd5_106 dX9_findBestOf_1 ?_
  refine lv_iload_n hx hb dX9_findBestOf_4 rfl (lv_at hl 1 rfl) ?_
  refine lv_bipush (v := (-9 : Int32)) hx hb dX9_findBestOf_5 (by decide) ?_
  obtain ⟨h1, hf⟩ := g_o hf
  refine x_i hB hW hS tl154 al154 h1 dX9_findBestOf_7 (fun H locs M2 eM2 hW hS => ?_)
  have hf := nm_o hf eM2
  refine lv_iload_n hx hb dX9_findBestOf_8 rfl (lv_at hl 1 rfl) ?_
  refine lv_iconst (v := (1 : Int32)) hx hb dX9_findBestOf_9 (by decide) ?_
  refine lv_isub hx hb dX9_findBestOf_10 ?_
  refine lv_topi (fun x3 ex3 => ?_)
  have hf := nm_o hf ex3
  refine lv_istore_n (lv' := [(2, .int x3), (0, .ref (G.2.2.1 139)), (1, .int p1)]) hx hb dX9_findBestOf_11 rfl hl (by decide) rfl (fun ls hl => ?_)
  obtain ⟨M9, hL, hf⟩ := b_o1 hf
  have main10 : ∀ (M8 : Mem) (H : Heap) (locs : List Loc) (ls : Array Slot), Wd G M8 H → va_S (adA G) s.heap H locs → lv_has ls 4 [] → some (M8) = some (M9) → W p l e (rmq 4 96) s m args below meth c H locs 0 0 (MQ below (Qv G Mr) args s 0 0 (adA G)) (F0 m 113 ls []) := by
    intro M8 H locs ls hW hS hl hE
    cases hE
    exact e_v hB hW hS hr hlk (Option.some.inj hf) dX9_findBestOf_113
  have loop7 : ∀ (n : Nat) (x4 : Int32) (M5 : Mem) (H : Heap) (locs : List Loc) (ls : Array Slot), Wd G M5 H → va_S (adA G) s.heap H locs → lv_has ls 4 [(0, .ref (G.2.2.1 139)), (1, .int p1), (2, .int x4)] → lq2 (f_X9_findBestOf_L12 p1) n x4 M5 = some (M9) → W p l e (rmq 4 96) s m args below meth c H locs 0 0 (MQ below (Qv G Mr) args s 0 0 (adA G)) (F0 m 12 ls []) := by
    intro n
    induction n with
    | zero => intro x4 M5 H locs ls hW hS hl hf; exact (l_z2 hf).elim
    | succ n ih =>
      intro x4 M5 H locs ls hW hS hl hf
      have hf := l_s2 hf
      generalize lq2 (f_X9_findBestOf_L12 p1) n = K6 at ih hf
      unfold f_X9_findBestOf_L12 at hf
      refine lv_iload_n hx hb dX9_findBestOf_12 rfl (lv_at hl 2 rfl) ?_
      refine lv_if_lt (tgt := 113) hx hb dX9_findBestOf_13 (by decide) (fun c11 => ?_) (fun c11 => ?_)
      · have hf := i_t hf c11
        exact main10 M5 _ _ ls hW hS (lv_sub hl [] rfl) hf
      · have hf := i_f hf c11
        refine lv_iload_n hx hb dX9_findBestOf_16 rfl (lv_at hl 2 rfl) ?_
        obtain ⟨M21, hR, hf⟩ := b_o1 hf
        have main13 : ∀ (M12 : Mem) (H : Heap) (locs : List Loc) (ls : Array Slot), Wd G M12 H → va_S (adA G) s.heap H locs → lv_has ls 4 [(0, .ref (G.2.2.1 139)), (1, .int p1), (2, .int x4)] → some (M12) = some (M21) → W p l e (rmq 4 96) s m args below meth c H locs 0 0 (MQ below (Qv G Mr) args s 0 0 (adA G)) (F0 m 86 ls []) := by
          intro M12 H locs ls hW hS hl hE
          cases hE
          refine lv_iload_n hx hb dX9_findBestOf_86 rfl (lv_at hl 2 rfl) ?_
          obtain ⟨K16, eK16, hf⟩ := j_o hf
          have main15 : ∀ (x14 : Int32) (H : Heap) (locs : List Loc) (ls : Array Slot), Wd G M21 H → va_S (adA G) s.heap H locs → lv_has ls 4 [(0, .ref (G.2.2.1 139)), (1, .int p1), (2, .int x14)] → K16 x14 = some (M9) → W p l e (rmq 4 96) s m args below meth c H locs 0 0 (MQ below (Qv G Mr) args s 0 0 (adA G)) (F0 m 106 ls []) := by
            intro x14 H locs ls hW hS hl hf
            subst eK16
            refine lv_iload_n hx hb dX9_findBestOf_106 rfl (lv_at hl 2 rfl) ?_
            refine lv_iconst (v := (1 : Int32)) hx hb dX9_findBestOf_107 (by decide) ?_
            refine lv_isub hx hb dX9_findBestOf_108 ?_
            refine lv_topi (fun x17 ex17 => ?_)
            have hf := nm_o hf ex17
            refine lv_istore_n (lv' := [(2, .int x17), (0, .ref (G.2.2.1 139)), (1, .int p1)]) hx hb dX9_findBestOf_109 rfl hl (by decide) rfl (fun ls hl => ?_)
            refine lv_goto (tgt := 12) hx hb dX9_findBestOf_110 (by decide) ?_
            exact ih x17 M21 _ _ ls hW hS (lv_sub hl [1, 2, 0] rfl) hf
          refine lv_if_le (tgt := 106) hx hb dX9_findBestOf_87 (by decide) (fun c18 => ?_) (fun c18 => ?_)
          · have hf := i_t hf c18
            exact main15 x4 _ _ ls hW hS (lv_sub hl [0, 1, 2] rfl) hf
          · have hf := i_f hf c18
            refine lv_aload_n hx hb dX9_findBestOf_90 rfl (lv_at hl 0 rfl) ?_
            refine fg9_23 hB hW tl139 wd5_102 dX9_findBestOf_91 ?_
            refine lv_iload_n hx hb dX9_findBestOf_94 rfl (lv_at hl 2 rfl) ?_
            refine lv_iconst (v := (1 : Int32)) hx hb dX9_findBestOf_95 (by decide) ?_
            refine lv_isub hx hb dX9_findBestOf_96 ?_
            obtain ⟨h19, hf⟩ := g_o hf
            refine x_iald hB hW tl151 al151 h19 dX9_findBestOf_97 ?_
            refine lv_iconst (v := (2 : Int32)) hx hb dX9_findBestOf_98 (by decide) ?_
            refine lv_icmp_ne (tgt := 106) hx hb dX9_findBestOf_99 (by decide) (fun c20 => ?_) (fun c20 => ?_)
            · have hf := i_f hf c20
              exact main15 x4 _ _ ls hW hS (lv_sub hl [0, 1, 2] rfl) hf
            · have hf := i_t hf c20
              refine lv_iconst (v := (-1 : Int32)) hx hb dX9_findBestOf_102 (by decide) ?_
              refine lv_goto (tgt := 109) hx hb dX9_findBestOf_103 (by decide) ?_
              refine lv_istore_n (lv' := [(2, .int (-1 : Int32)), (0, .ref (G.2.2.1 139)), (1, .int p1)]) hx hb dX9_findBestOf_109 rfl hl (by decide) rfl (fun ls hl => ?_)
              refine lv_goto (tgt := 12) hx hb dX9_findBestOf_110 (by decide) ?_
              exact ih (-1 : Int32) M21 _ _ ls hW hS (lv_sub hl [1, 2, 0] rfl) hf
        have hf := hR
        obtain ⟨K23, eK23, hf⟩ := j_o hf
        have main22 : ∀ (_ : Unit) (H : Heap) (locs : List Loc) (ls : Array Slot), Wd G M5 H → va_S (adA G) s.heap H locs → lv_has ls 4 [(0, .ref (G.2.2.1 139)), (1, .int p1), (2, .int x4)] → K23 () = some (M21) → W p l e (rmq 4 96) s m args below meth c H locs 0 0 (MQ below (Qv G Mr) args s 0 0 (adA G)) (F0 m 29 ls []) := by
          intro _ H locs ls hW hS hl hf
          subst eK23
          refine lv_aload_n hx hb dX9_findBestOf_29 rfl (lv_at hl 0 rfl) ?_
          refine lv_iload_n hx hb dX9_findBestOf_30 rfl (lv_at hl 2 rfl) ?_
          refine lv_iload_n hx hb dX9_findBestOf_31 rfl (lv_at hl 1 rfl) ?_
          obtain ⟨x24, hg25, hf⟩ := b_o1 hf
          refine x_ci hB (x_rv hB hW hS (As := [.int x4, .int p1]) (rest := []) (ct_X9_fits l G hg25) (cl_RX9_196 hB.2.2.2.2.1 ⟨Nat.le_of_ble_eq_true rfl, Nat.le_of_ble_eq_true rfl⟩) tl139 (by decide) rfl rfl hl.1 rfl (Nat.le_of_ble_eq_true rfl) dX9_findBestOf_32 ⟨Nat.le_refl _, Nat.le_refl _⟩) hS (fun H locs hW hS => ?_)
          refine lv_if_eq (tgt := 86) hx hb dX9_findBestOf_35 (by decide) (fun c26 => ?_) (fun c26 => ?_)
          · have hf := i_t hf c26
            exact main13 M5 _ _ ls hW hS (lv_sub hl [0, 1, 2] rfl) hf
          · have hf := i_f hf c26
            refine lv_aload_n hx hb dX9_findBestOf_38 rfl (lv_at hl 0 rfl) ?_
            refine fg9_26 hB hW tl139 wd5_105 dX9_findBestOf_39 ?_
            refine lv_iload_n hx hb dX9_findBestOf_42 rfl (lv_at hl 2 rfl) ?_
            obtain ⟨h27, hf⟩ := g_o hf
            refine x_fald hB hW tl153 al153 h27 dX9_findBestOf_43 ?_
            refine lv_aload_n hx hb dX9_findBestOf_44 rfl (lv_at hl 0 rfl) ?_
            refine lv_iload_n hx hb dX9_findBestOf_45 rfl (lv_at hl 2 rfl) ?_
            refine lv_iload_n hx hb dX9_findBestOf_46 rfl (lv_at hl 1 rfl) ?_
            obtain ⟨x28, hg29, hf⟩ := b_o1 hf
            refine x_cf hB (x_rv hB hW hS (As := [.int x4, .int p1]) (rest := [.float (gf M5 153 ((x4 : Int32).toNatClampNeg))]) (ct_X9_demeritsOf l G hg29) (cl_RX9_199 hB.2.2.2.2.1 ⟨Nat.le_of_ble_eq_true rfl, Nat.le_of_ble_eq_true rfl⟩) tl139 (by decide) rfl rfl hl.1 rfl (Nat.le_of_ble_eq_true rfl) dX9_findBestOf_47 ⟨Nat.le_refl _, Nat.le_refl _⟩) hS (fun H locs hW hS => ?_)
            obtain ⟨x30, ex30⟩ : ∃ y : UInt32, y = FP.fadd (gf M5 153 ((x4 : Int32).toNatClampNeg)) x28 := ⟨_, rfl⟩
            have hf := nm_o hf ex30
            obtain ⟨h31, hf⟩ := g_o hf
            refine y_fadd hB ex30 h31 dX9_findBestOf_50 ?_
            refine lv_fstore_n (lv' := [(3, .float x30), (0, .ref (G.2.2.1 139)), (1, .int p1), (2, .int x4)]) hx hb dX9_findBestOf_51 rfl hl (by decide) rfl (fun ls hl => ?_)
            refine lv_aload_n hx hb dX9_findBestOf_52 rfl (lv_at hl 1 rfl) ?_
            refine fg9_27 hB hW tl139 wd5_106 dX9_findBestOf_53 ?_
            refine lv_iload_n hx hb dX9_findBestOf_56 rfl (lv_at hl 2 rfl) ?_
            obtain ⟨h32, hf⟩ := g_o hf
            refine x_iald hB hW tl154 al154 h32 dX9_findBestOf_57 ?_
            obtain ⟨K34, eK34, hf⟩ := j_o hf
            have main33 : ∀ (_ : Unit) (H : Heap) (locs : List Loc) (ls : Array Slot), Wd G M5 H → va_S (adA G) s.heap H locs → lv_has ls 4 [(0, .ref (G.2.2.1 139)), (1, .int p1), (2, .int x4), (3, .float x30)] → K34 () = some (M21) → W p l e (rmq 4 96) s m args below meth c H locs 0 0 (MQ below (Qv G Mr) args s 0 0 (adA G)) (F0 m 72 ls []) := by
              intro _ H locs ls hW hS hl hf
              subst eK34
              refine lv_aload_n hx hb dX9_findBestOf_72 rfl (lv_at hl 0 rfl) ?_
              refine fg9_26 hB hW tl139 wd5_105 dX9_findBestOf_73 ?_
              refine lv_iload_n hx hb dX9_findBestOf_76 rfl (lv_at hl 1 rfl) ?_
              refine lv_fload_n hx hb dX9_findBestOf_77 rfl (lv_at hl 3 rfl) ?_
              obtain ⟨h35, hf⟩ := g_o hf
              refine x_f hB hW hS tl153 al153 h35 dX9_findBestOf_78 (fun H locs M36 eM36 hW hS => ?_)
              have hf := nm_o hf eM36
              refine lv_aload_n hx hb dX9_findBestOf_79 rfl (lv_at hl 0 rfl) ?_
              refine fg9_27 hB hW tl139 wd5_106 dX9_findBestOf_80 ?_
              refine lv_iload_n hx hb dX9_findBestOf_83 rfl (lv_at hl 1 rfl) ?_
              refine lv_iload_n hx hb dX9_findBestOf_84 rfl (lv_at hl 2 rfl) ?_
              obtain ⟨h37, hf⟩ := g_o hf
              refine x_i hB hW hS tl154 al154 h37 dX9_findBestOf_85 (fun H locs M38 eM38 hW hS => ?_)
              have hf := nm_o hf eM38
              exact main13 M38 _ _ ls hW hS (lv_sub hl [0, 1, 2] rfl) hf
            refine lv_if_lt (tgt := 72) hx hb dX9_findBestOf_58 (by decide) (fun c39 => ?_) (fun c39 => ?_)
            · have hf := i_t hf c39
              exact main33 () _ _ ls hW hS (lv_sub hl [1, 2, 3, 0] rfl) hf
            · have hf := i_f hf c39
              refine lv_fload_n hx hb dX9_findBestOf_61 rfl (lv_at hl 0 rfl) ?_
              refine lv_aload_n hx hb dX9_findBestOf_62 rfl (lv_at hl 1 rfl) ?_
              refine fg9_26 hB hW tl139 wd5_105 dX9_findBestOf_63 ?_
              refine lv_iload_n hx hb dX9_findBestOf_66 rfl (lv_at hl 2 rfl) ?_
              obtain ⟨h40, hf⟩ := g_o hf
              refine x_fald hB hW tl153 al153 h40 dX9_findBestOf_67 ?_
              refine lv_fcmp hx hb dX9_findBestOf_68 ?_
              refine lv_if_gt (tgt := 86) hx hb dX9_findBestOf_69 (by decide) (fun c41 => ?_) (fun c41 => ?_)
              · have hf := i_t hf c41
                exact main13 M5 _ _ ls hW hS (lv_sub hl [1, 2, 3] rfl) hf
              · have hf := i_f hf c41
                exact main33 () _ _ ls hW hS (lv_sub hl [1, 2, 3, 0] rfl) hf
        refine lv_if_eq (tgt := 29) hx hb dX9_findBestOf_17 (by decide) (fun c42 => ?_) (fun c42 => ?_)
        · have hf := i_t hf c42
          exact main22 () _ _ ls hW hS (lv_sub hl [0, 1, 2] rfl) hf
        · have hf := i_f hf c42
          refine lv_aload_n hx hb dX9_findBestOf_20 rfl (lv_at hl 0 rfl) ?_
          refine fg9_27 hB hW tl139 wd5_106 dX9_findBestOf_21 ?_
          refine lv_iload_n hx hb dX9_findBestOf_24 rfl (lv_at hl 2 rfl) ?_
          obtain ⟨h43, hf⟩ := g_o hf
          refine x_iald hB hW tl154 al154 h43 dX9_findBestOf_25 ?_
          refine lv_if_lt (tgt := 86) hx hb dX9_findBestOf_26 (by decide) (fun c44 => ?_) (fun c44 => ?_)
          · have hf := i_t hf c44
            exact main13 M5 _ _ ls hW hS (lv_sub hl [0, 1, 2] rfl) hf
          · have hf := i_f hf c44
            exact main22 () _ _ ls hW hS (lv_sub hl [0, 1, 2] rfl) hf
  exact loop7 FU x3 M2 _ _ ls hW hS (lv_sub hl [1, 2, 0] rfl) hL
def f_X9_linesBack_L7 (M : Mem) (K4 : Int32 → Int32 → Option (Int32)) (x2 : Int32) (x3 : Int32) : Option (Int32) := (if x3 ≤ 0 then (some (x2)) else (nmq (x2 + (1 : Int32)) (fun (x10 : Int32) => gq (inB x3 161) (nmq ((gi M 154 ((x3 : Int32).toNatClampNeg))) (fun (x12 : Int32) => (K4 x10 x12))))))
def f_X9_linesBack (M : Mem) : Option Int32 := (nmq ((gi M 139 25)) (fun (x1 : Int32) => (bq1 (lq2 (f_X9_linesBack_L7 M) FU (0 : Int32) x1) (fun (x6 : Int32) => some x6))))
set_option maxHeartbeats 4000000 in
set_option maxRecDepth 100000 in
theorem ct_X9_linesBack (l : Launch) (G : GG)  {M : Mem} {r : Int32}  (hf : f_X9_linesBack M = some r) : Met l yX9_linesBack (wsq yX9_linesBack cX9_linesBack 3 (some .int)) (rmq 0 0) (va_Pc [.ref (G.2.2.1 139)] (World G M)) (Qi G r M) 0 0 (adA G) := by
  refine x_start (plainFor_of_name (by decide)) (Nat.le_of_ble_eq_true rfl) ?_
  intro p e s m args below meth c hB hr hlk hW hS ls hl
  have hx := hB.x
  have hb := hB.b
  have hl : lv_has ls 3 [(0, .ref (G.2.2.1 139))] := hl
  unfold f_X9_linesBack at hf
  refine lv_iconst (v := (0 : Int32)) hx hb dX9_linesBack_0 (by decide) ?_
  refine lv_istore_n (lv' := [(1, .int (0 : Int32)), (0, .ref (G.2.2.1 139))]) hx hb dX9_linesBack_1 rfl hl (by decide) rfl (fun ls hl => ?_)
  refine lv_aload_n hx hb dX9_linesBack_2 rfl (lv_at hl 1 rfl) ?_
  refine fg9_25 hB hW tl139 wd5_104 dX9_linesBack_3 ?_
  refine lv_topi (fun x1 ex1 => ?_)
  have hf := nm_o hf ex1
  refine lv_istore_n (lv' := [(2, .int x1), (1, .int (0 : Int32)), (0, .ref (G.2.2.1 139))]) hx hb dX9_linesBack_6 rfl hl (by decide) rfl (fun ls hl => ?_)
  obtain ⟨y7, hL, hf⟩ := b_o1 hf
  have main8 : ∀ (x6 : Int32) (H : Heap) (locs : List Loc) (ls : Array Slot), Wd G M H → va_S (adA G) s.heap H locs → lv_has ls 3 [(1, .int x6)] → some (x6) = some (y7) → W p l e (rmq 0 0) s m args below meth c H locs 0 0 (MQ below (Qi G r M) args s 0 0 (adA G)) (F0 m 24 ls []) := by
    intro x6 H locs ls hW hS hl hE
    cases hE
    refine lv_iload_n hx hb dX9_linesBack_24 rfl (lv_at hl 0 rfl) ?_
    exact e_i hB hW hS hr hlk (Option.some.inj hf) rfl dX9_linesBack_25
  have loop5 : ∀ (n : Nat) (x2 : Int32) (x3 : Int32) (H : Heap) (locs : List Loc) (ls : Array Slot), Wd G M H → va_S (adA G) s.heap H locs → lv_has ls 3 [(0, .ref (G.2.2.1 139)), (1, .int x2), (2, .int x3)] → lq2 (f_X9_linesBack_L7 M) n x2 x3 = some (y7) → W p l e (rmq 0 0) s m args below meth c H locs 0 0 (MQ below (Qi G r M) args s 0 0 (adA G)) (F0 m 7 ls []) := by
    intro n
    induction n with
    | zero => intro x2 x3 H locs ls hW hS hl hf; exact (l_z2 hf).elim
    | succ n ih =>
      intro x2 x3 H locs ls hW hS hl hf
      have hf := l_s2 hf
      generalize lq2 (f_X9_linesBack_L7 M) n = K4 at ih hf
      unfold f_X9_linesBack_L7 at hf
      refine lv_iload_n hx hb dX9_linesBack_7 rfl (lv_at hl 2 rfl) ?_
      refine lv_if_le (tgt := 24) hx hb dX9_linesBack_8 (by decide) (fun c9 => ?_) (fun c9 => ?_)
      · have hf := i_t hf c9
        exact main8 x2 _ _ ls hW hS (lv_sub hl [1] rfl) hf
      · have hf := i_f hf c9
        obtain ⟨x10, ex10⟩ : ∃ y : Int32, y = x2 + (1 : Int32) := ⟨_, rfl⟩
        have hf := nm_o hf ex10
        refine lv_iinc (v := x10) (lv' := [(1, .int x10), (0, .ref (G.2.2.1 139)), (2, .int x3)]) hx hb dX9_linesBack_11 hl (k := 1) rfl (by rw [ex10]; rfl) (by decide) rfl (fun ls hl => ?_)
        refine lv_aload_n hx hb dX9_linesBack_14 rfl (lv_at hl 1 rfl) ?_
        refine fg9_27 hB hW tl139 wd5_106 dX9_linesBack_15 ?_
        refine lv_iload_n hx hb dX9_linesBack_18 rfl (lv_at hl 2 rfl) ?_
        obtain ⟨h11, hf⟩ := g_o hf
        refine x_iald hB hW tl154 al154 h11 dX9_linesBack_19 ?_
        refine lv_topi (fun x12 ex12 => ?_)
        have hf := nm_o hf ex12
        refine lv_istore_n (lv' := [(2, .int x12), (1, .int x10), (0, .ref (G.2.2.1 139))]) hx hb dX9_linesBack_20 rfl hl (by decide) rfl (fun ls hl => ?_)
        refine lv_goto (tgt := 7) hx hb dX9_linesBack_21 (by decide) ?_
        exact ih x10 x12 _ _ ls hW hS (lv_sub hl [2, 1, 0] rfl) hf
  exact loop5 FU (0 : Int32) x1 _ _ ls hW hS (lv_sub hl [2, 1, 0] rfl) hL
