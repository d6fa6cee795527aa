theorem cl_RX4_37 {R : Room} {s : State} {args : Array Value} (ht : ∀ w ∈ lw_all, w.before args s = true) (hR : 0 + 1 ≤ R.frames ∧ 8 + (2 + 11) + 0 ≤ R.locals) : CallW R s args RX4 RX4 37 yX4_spellingOf cX4_spellingOf 2 (some .long) (wsq yX4_spellingOf cX4_spellingOf 2 (some .long)) (rmq 0 0) 0 0 1 := cwV 1 ht (goodV wd3_28 wd3_30 wsel_14 wd1_4 wd3_31) rfl rfl rfl (by decide +kernel) hR
theorem cl_RX4_58 {R : Room} {s : State} {args : Array Value} (hN : Nst s) (ht : ∀ w ∈ lw_all, w.before args s = true) (hR : 0 + 1 ≤ R.frames ∧ 8 + (2 + 11) + 0 ≤ R.locals) : va_CN R s args RX4 58 yX8_at "LinesOfFragments" cX8_at 2 (some .int) (wsq yX8_at cX8_at 2 (some .int)) (rmq 0 0) 0 0 2 ∧ (Cond.static yX8_at).before args s = true ∧ True := ⟨va_cnB 2 ht (goodC wd2_135) rfl rfl rfl (hN _ (List.mem_of_getElem? (l := nestL) (i := 10) rfl)) (ht _ wd1_1) (by decide +kernel) hR, ht _ wd2_134, trivial⟩
def f_X4_numberFor_L3 (k0 : Nat) (p1 : Int64) (p2 : Int32) (M : Mem) (K2 : Int32 → Option Int32) (x1 : Int32) : Option Int32 := (if (gi M k0 4) ≤ x1 then some (gi M k0 4) else (bq1 (f_X4_spellingOf k0 x1 M) (fun (x5 : Int64) => (if (lcm x5 p1) = 0 then (bq1 (f_X8_at (k0 + 3) x1 M) (fun (x9 : Int32) => (if x9 = p2 then some x1 else (nmq (x1 + (1 : Int32)) (fun (x12 : Int32) => (K2 x12)))))) else (nmq (x1 + (1 : Int32)) (fun (x8 : Int32) => (K2 x8)))))))
def f_X4_numberFor (k0 : Nat) (p1 : Int64) (p2 : Int32) (M : Mem) : Option Int32 := (lq1 (f_X4_numberFor_L3 k0 p1 p2 M) FU (0 : Int32))
set_option maxHeartbeats 4000000 in
set_option maxRecDepth 100000 in
theorem ct_X4_numberFor (l : Launch) (G : GG) {k0 : Nat} {p1 : Int64} {p2 : Int32} {M : Mem} {r : Int32} (hk0 : isT 4 k0) (hf : f_X4_numberFor k0 p1 p2 M = some r) : Met l yX4_numberFor (wsq yX4_numberFor cX4_numberFor 5 (some .int)) (rmq 1 21) (va_Pc [.ref (G.2.2.1 k0), .long p1, .int p2] (World G M)) (Qi G r M) 0 0 (adA G) := by
  refine x_start (plainFor_of_name (by decide)) (Nat.le_of_ble_eq_true rfl) ?_
  intro p e s m args below meth c hB hr hlk hW hS ls hl
  have hx := hB.x
  have hb := hB.b
  have hl : lv_has ls 5 [(0, .ref (G.2.2.1 k0)), (1, .long p1), (3, .int p2)] := hl
  unfold f_X4_numberFor at hf
  refine lv_iconst (v := (0 : Int32)) hx hb dX4_numberFor_0 (by decide) ?_
  refine lv_istore (lv' := [(4, .int (0 : Int32)), (0, .ref (G.2.2.1 k0)), (1, .long p1), (3, .int p2)]) hx hb dX4_numberFor_1 hl (by decide) rfl (fun ls hl => ?_)
  have loop3 : ∀ (n : Nat) (x1 : Int32) (H : Heap) (locs : List Loc) (ls : Array Slot), Wd G M H → va_S (adA G) s.heap H locs → lv_has ls 5 [(0, .ref (G.2.2.1 k0)), (1, .long p1), (3, .int p2), (4, .int x1)] → lq1 (f_X4_numberFor_L3 k0 p1 p2 M) n x1 = some r → W p l e (rmq 1 21) s m args below meth c H locs 0 0 (MQ below (Qi G r M) args s 0 0 (adA G)) (F0 m 3 ls []) := by
    intro n
    induction n with
    | zero => intro x1 H locs ls hW hS hl hf; exact (l_z1 hf).elim
    | succ n ih =>
      intro x1 H locs ls hW hS hl hf
      have hf := l_s1 hf
      generalize lq1 (f_X4_numberFor_L3 k0 p1 p2 M) n = K2 at ih hf
      unfold f_X4_numberFor_L3 at hf
      refine lv_iload hx hb dX4_numberFor_3 (lv_at hl 3 rfl) ?_
      refine lv_aload_n hx hb dX4_numberFor_5 rfl (lv_at hl 0 rfl) ?_
      refine fg4_4 hB hW hk0 wd1_77 dX4_numberFor_6 ?_
      refine lv_icmp_ge (tgt := 45) hx hb dX4_numberFor_9 (by decide) (fun c4 => ?_) (fun c4 => ?_)
      · have hf := i_t hf c4
        refine lv_aload_n hx hb dX4_numberFor_45 rfl (lv_at hl 0 rfl) ?_
        refine fg4_4 hB hW hk0 wd1_77 dX4_numberFor_46 ?_
        exact e_i hB hW hS hr hlk (Option.some.inj hf) rfl dX4_numberFor_49
      · have hf := i_f hf c4
        refine lv_aload_n hx hb dX4_numberFor_12 rfl (lv_at hl 0 rfl) ?_
        refine lv_iload hx hb dX4_numberFor_13 (lv_at hl 3 rfl) ?_
        obtain ⟨x5, hg6, hf⟩ := b_o1 hf
        refine x_cl hB (x_rv hB hW hS (As := [.int x1]) (rest := []) (ct_X4_spellingOf l G hk0 hg6) (cl_RX4_37 hB.2.2.2.2.1 ⟨Nat.le_of_ble_eq_true rfl, Nat.le_of_ble_eq_true rfl⟩) hk0 (by decide) rfl rfl hl.1 rfl (Nat.le_of_ble_eq_true rfl) dX4_numberFor_15 ⟨Nat.le_refl _, Nat.le_refl _⟩) hS (fun H locs hW hS => ?_)
        refine lv_lload_n hx hb dX4_numberFor_18 rfl (lv_at hl 1 rfl) ?_
        refine W.lcmp hx hb dX4_numberFor_19 ?_
        refine lv_if_ne (tgt := 39) hx hb dX4_numberFor_20 (by decide) (fun c7 => ?_) (fun c7 => ?_)
        · have hf := i_f hf c7
          obtain ⟨x8, ex8⟩ : ∃ y : Int32, y = x1 + (1 : Int32) := ⟨_, rfl⟩
          have hf := nm_o hf ex8
          refine lv_iinc (v := x8) (lv' := [(4, .int x8), (0, .ref (G.2.2.1 k0)), (1, .long p1), (3, .int p2)]) hx hb dX4_numberFor_39 hl (k := 3) rfl (by rw [ex8]; rfl) (by decide) rfl (fun ls hl => ?_)
          refine lv_goto (tgt := 3) hx hb dX4_numberFor_42 (by decide) ?_
          exact ih x8 _ _ ls hW hS (lv_sub hl [1, 2, 3, 0] rfl) hf
        · have hf := i_t hf c7
          refine lv_aload_n hx hb dX4_numberFor_23 rfl (lv_at hl 0 rfl) ?_
          refine fg4_2 hB hW hk0 wd1_73 dX4_numberFor_24 ?_
          refine lv_iload hx hb dX4_numberFor_27 (lv_at hl 3 rfl) ?_
          obtain ⟨x9, hg10, hf⟩ := b_o1 hf
          refine x_ci hB (x_rn hB hW hS (As := [.ref (G.2.2.1 (k0 + 3)), .int x1]) (rest := []) (ct_X8_at l G (rf4_2 hk0) hg10) (cl_RX4_58 hB.nst hB.2.2.2.2.1 ⟨Nat.le_of_ble_eq_true rfl, Nat.le_of_ble_eq_true rfl⟩) rfl hl.1 rfl (Nat.le_of_ble_eq_true rfl) dX4_numberFor_29 ⟨Nat.le_refl _, Nat.le_refl _⟩) hS (fun H locs hW hS => ?_)
          refine lv_iload_n hx hb dX4_numberFor_32 rfl (lv_at hl 2 rfl) ?_
          refine lv_icmp_ne (tgt := 39) hx hb dX4_numberFor_33 (by decide) (fun c11 => ?_) (fun c11 => ?_)
          · have hf := i_f hf c11
            obtain ⟨x12, ex12⟩ : ∃ y : Int32, y = x1 + (1 : Int32) := ⟨_, rfl⟩
            have hf := nm_o hf ex12
            refine lv_iinc (v := x12) (lv' := [(4, .int x12), (0, .ref (G.2.2.1 k0)), (1, .long p1), (3, .int p2)]) hx hb dX4_numberFor_39 hl (k := 3) rfl (by rw [ex12]; rfl) (by decide) rfl (fun ls hl => ?_)
            refine lv_goto (tgt := 3) hx hb dX4_numberFor_42 (by decide) ?_
            exact ih x12 _ _ ls hW hS (lv_sub hl [1, 2, 3, 0] rfl) hf
          · have hf := i_t hf c11
            refine lv_iload hx hb dX4_numberFor_36 (lv_at hl 3 rfl) ?_
            exact e_i hB hW hS hr hlk (Option.some.inj hf) rfl dX4_numberFor_38
  exact loop3 FU (0 : Int32) _ _ ls hW hS (lv_sub hl [1, 2, 3, 0] rfl) hf
theorem cl_RX4_45 {R : Room} {s : State} {args : Array Value} (ht : ∀ w ∈ lw_all, w.before args s = true) (hR : 1 + 1 ≤ R.frames ∧ 8 + (5 + 11) + 21 ≤ R.locals) : CallW R s args RX4 RX4 45 yX4_numberFor cX4_numberFor 5 (some .int) (wsq yX4_numberFor cX4_numberFor 5 (some .int)) (rmq 1 21) 0 0 2 := cwV 2 ht (goodV wd3_24 wd3_26 wsel_13 wd1_4 wd3_27) rfl rfl rfl (by decide +kernel) hR
def f_X4_hasRoomFor (k0 : Nat) (p1 : Int64) (p2 : Int32) (M : Mem) : Option Int32 := (bq1 (f_X4_numberFor k0 p1 p2 M) (fun (x1 : Int32) => (if (8 : Int32) ≤ x1 then some (0 : Int32) else some (1 : Int32))))
set_option maxHeartbeats 4000000 in
set_option maxRecDepth 100000 in
theorem ct_X4_hasRoomFor (l : Launch) (G : GG) {k0 : Nat} {p1 : Int64} {p2 : Int32} {M : Mem} {r : Int32} (hk0 : isT 4 k0) (hf : f_X4_hasRoomFor k0 p1 p2 M = some r) : Met l yX4_hasRoomFor (wsq yX4_hasRoomFor cX4_hasRoomFor 4 (some .boolean)) (rmq 2 45) (va_Pc [.ref (G.2.2.1 k0), .long p1, .int p2] (World G M)) (Qi G r M) 0 0 (adA G) := by
  refine x_start (plainFor_of_name (by decide)) (Nat.le_of_ble_eq_true rfl) ?_
  intro p e s m args below meth c hB hr hlk hW hS ls hl
  have hx := hB.x
  have hb := hB.b
  have hl : lv_has ls 4 [(0, .ref (G.2.2.1 k0)), (1, .long p1), (3, .int p2)] := hl
  unfold f_X4_hasRoomFor at hf
  refine lv_aload_n hx hb dX4_hasRoomFor_0 rfl (lv_at hl 0 rfl) ?_
  refine lv_lload_n hx hb dX4_hasRoomFor_1 rfl (lv_at hl 1 rfl) ?_
  refine lv_iload_n hx hb dX4_hasRoomFor_2 rfl (lv_at hl 2 rfl) ?_
  obtain ⟨x1, hg2, hf⟩ := b_o1 hf
  refine x_ci hB (x_rv hB hW hS (As := [.long p1, .int p2]) (rest := []) (ct_X4_numberFor l G hk0 hg2) (cl_RX4_45 hB.2.2.2.2.1 ⟨Nat.le_of_ble_eq_true rfl, Nat.le_of_ble_eq_true rfl⟩) hk0 (by decide) rfl rfl hl.1 rfl (Nat.le_of_ble_eq_true rfl) dX4_hasRoomFor_3 ⟨Nat.le_refl _, Nat.le_refl _⟩) hS (fun H locs hW hS => ?_)
  refine lv_bipush (v := (8 : Int32)) hx hb dX4_hasRoomFor_6 (by decide) ?_
  refine lv_icmp_ge (tgt := 15) hx hb dX4_hasRoomFor_8 (by decide) (fun c3 => ?_) (fun c3 => ?_)
  · have hf := i_t hf c3
    refine lv_iconst (v := (0 : Int32)) hx hb dX4_hasRoomFor_15 (by decide) ?_
    exact e_z (by decide) hB hW hS hr hlk (Option.some.inj hf) rfl dX4_hasRoomFor_16
  · have hf := i_f hf c3
    refine lv_iconst (v := (1 : Int32)) hx hb dX4_hasRoomFor_11 (by decide) ?_
    refine lv_goto (tgt := 16) hx hb dX4_hasRoomFor_12 (by decide) ?_
    exact e_z (by decide) hB hW hS hr hlk (Option.some.inj hf) rfl dX4_hasRoomFor_16
def f_J9_max_7cf53 (p1 : Int32) (p2 : Int32) : Option Int32 := (if p1 < p2 then some p2 else some p1)
set_option maxHeartbeats 4000000 in
set_option maxRecDepth 100000 in
theorem ct_J9_max_7cf53 (l : Launch) (G : GG) {p1 : Int32} {p2 : Int32} {M : Mem} {r : Int32}  (hf : f_J9_max_7cf53 p1 p2 = some r) : Met l yJ9_max_7cf53 (wsq yJ9_max_7cf53 cJ9_max_7cf53 2 (some .int)) (rmq 0 0) (va_Pc [.int p1, .int p2] (World G M)) (Qi G r M) 0 0 (adA G) := by
  refine x_start (by decide +kernel) (Nat.le_of_ble_eq_true rfl) ?_
  intro p e s m args below meth c hB hr hlk hW hS ls hl
  have hx := hB.x
  have hb := hB.b
  have hl : lv_has ls 2 [(0, .int p1), (1, .int p2)] := hl
  unfold f_J9_max_7cf53 at hf
  refine lv_iload_n hx hb dJ9_max_7cf53_0 rfl (lv_at hl 0 rfl) ?_
  refine lv_iload_n hx hb dJ9_max_7cf53_1 rfl (lv_at hl 1 rfl) ?_
  refine lv_icmp_lt (tgt := 9) hx hb dJ9_max_7cf53_2 (by decide) (fun c1 => ?_) (fun c1 => ?_)
  · have hf := i_t hf c1
    refine lv_iload_n hx hb dJ9_max_7cf53_9 rfl (lv_at hl 1 rfl) ?_
    exact e_i hB hW hS hr hlk (Option.some.inj hf) rfl dJ9_max_7cf53_10
  · have hf := i_f hf c1
    refine lv_iload_n hx hb dJ9_max_7cf53_5 rfl (lv_at hl 0 rfl) ?_
    refine lv_goto (tgt := 10) hx hb dJ9_max_7cf53_6 (by decide) ?_
    exact e_i hB hW hS hr hlk (Option.some.inj hf) rfl dJ9_max_7cf53_10
theorem cl_RX4_48 {R : Room} {s : State} {args : Array Value} (hN : Nst s) (ht : ∀ w ∈ lw_all, w.before args s = true) (hR : 0 + 1 ≤ R.frames ∧ 8 + (3 + 11) + 0 ≤ R.locals) : va_CN R s args RX4 48 yX8_put "LinesOfFragments" cX8_put 3 none (wsq yX8_put cX8_put 3 none) (rmq 0 0) 0 0 3 ∧ (Cond.static yX8_put).before args s = true ∧ True := ⟨va_cnB 3 ht (goodC wd2_138) rfl rfl rfl (hN _ (List.mem_of_getElem? (l := nestL) (i := 11) rfl)) (ht _ wd1_1) (by decide +kernel) hR, ht _ wd2_137, trivial⟩
theorem cl_RX4_52 {R : Room} {s : State} {args : Array Value} (ht : ∀ w ∈ lw_all, w.before args s = true) (hR : 0 + 1 ≤ R.frames ∧ 8 + (2 + 11) + 0 ≤ R.locals) : CallB R s args RX4 52 yJ9_max_7cf53 cJ9_max_7cf53 2 (some .int) (wsq yJ9_max_7cf53 cJ9_max_7cf53 2 (some .int)) (rmq 0 0) 0 0 2 ∧ (Cond.static yJ9_max_7cf53).before args s = true := va_cwS 2 ht (goodS wd3_38 wd3_39 wd1_11 wd3_40) rfl rfl rfl (by decide +kernel) hR
def f_X4_take (k0 : Nat) (p1 : Int64) (p2 : Int32) (p3 : Int32) (p4 : Int32) (M : Mem) : Option (Int32 × Mem) := (bq1 (f_X4_numberFor k0 p1 p3 M) (fun (x1 : Int32) => (bq1 ((if x1 < 0 then (some (M)) else (if (8 : Int32) ≤ x1 then (some (M)) else (gq (inB x1 8) (nmq (sl M (k0 + 1) ((x1 : Int32).toNatClampNeg) p1) (fun (M18 : Mem) => (some (M18))))))) : Option (Mem)) (fun (M3 : Mem) => (bq1 (f_X8_put (k0 + 2) x1 p2 M3) (fun (M5 : Mem) => bq1 (f_X8_put (k0 + 3) x1 p3 M5) (fun (M7 : Mem) => bq1 (f_X8_put (k0 + 4) x1 p4 M7) (fun (M9 : Mem) => bq1 (f_J9_max_7cf53 (gi M9 k0 4) (x1 + (1 : Int32))) (fun (x11 : Int32) => nmq (si M9 k0 4 x11) (fun (M13 : Mem) => some ((gi M13 k0 4), M13)))))))))))
set_option maxHeartbeats 4000000 in
set_option maxRecDepth 100000 in
theorem ct_X4_take (l : Launch) (G : GG) {k0 : Nat} {p1 : Int64} {p2 : Int32} {p3 : Int32} {p4 : Int32} {M : Mem} {r : Int32} {Mr : Mem} (hk0 : isT 4 k0) (hf : f_X4_take k0 p1 p2 p3 p4 M = some (r, Mr)) : Met l yX4_take (wsq yX4_take cX4_take 7 (some .int)) (rmq 2 45) (va_Pc [.ref (G.2.2.1 k0), .long p1, .int p2, .int p3, .int p4] (World G M)) (Qi G r Mr) 0 0 (adA G) := by
  refine x_start (plainFor_of_name (by decide)) (Nat.le_of_ble_eq_true rfl) ?_
  intro p e s m args below meth c hB hr hlk hW hS ls hl
  have hx := hB.x
  have hb := hB.b
  have hl : lv_has ls 7 [(0, .ref (G.2.2.1 k0)), (1, .long p1), (3, .int p2), (4, .int p3), (5, .int p4)] := hl
  unfold f_X4_take at hf
  refine lv_aload_n hx hb dX4_take_0 rfl (lv_at hl 0 rfl) ?_
  refine lv_lload_n hx hb dX4_take_1 rfl (lv_at hl 1 rfl) ?_
  refine lv_iload hx hb dX4_take_2 (lv_at hl 3 rfl) ?_
  obtain ⟨x1, hg2, hf⟩ := b_o1 hf
  refine x_ci hB (x_rv hB hW hS (As := [.long p1, .int p3]) (rest := []) (ct_X4_numberFor l G hk0 hg2) (cl_RX4_45 hB.2.2.2.2.1 ⟨Nat.le_of_ble_eq_true rfl, Nat.le_of_ble_eq_true rfl⟩) hk0 (by decide) rfl rfl hl.1 rfl (Nat.le_of_ble_eq_true rfl) dX4_take_4 ⟨Nat.le_refl _, Nat.le_refl _⟩) hS (fun H locs hW hS => ?_)
  refine lv_istore (lv' := [(6, .int x1), (0, .ref (G.2.2.1 k0)), (1, .long p1), (3, .int p2), (4, .int p3), (5, .int p4)]) hx hb dX4_take_7 hl (by decide) rfl (fun ls hl => ?_)
  refine lv_iload hx hb dX4_take_9 (lv_at hl 0 rfl) ?_
  obtain ⟨M14, hR, hf⟩ := b_o1 hf
  have main4 : ∀ (M3 : Mem) (H : Heap) (locs : List Loc) (ls : Array Slot), Wd G M3 H → va_S (adA G) s.heap H locs → lv_has ls 7 [(0, .ref (G.2.2.1 k0)), (3, .int p2), (4, .int p3), (5, .int p4), (6, .int x1)] → some (M3) = some (M14) → W p l e (rmq 2 45) s m args below meth c H locs 0 0 (MQ below (Qi G r Mr) args s 0 0 (adA G)) (F0 m 32 ls []) := by
    intro M3 H locs ls hW hS hl hE
    cases hE
    refine lv_aload_n hx hb dX4_take_32 rfl (lv_at hl 0 rfl) ?_
    refine fg4_1 hB hW hk0 wd1_71 dX4_take_33 ?_
    refine lv_iload hx hb dX4_take_36 (lv_at hl 4 rfl) ?_
    refine lv_iload_n hx hb dX4_take_38 rfl (lv_at hl 1 rfl) ?_
    obtain ⟨M5, hg6, hf⟩ := b_o1 hf
    refine x_cv hB (x_rn hB hW hS (As := [.ref (G.2.2.1 (k0 + 2)), .int x1, .int p2]) (rest := []) (ct_X8_put l G (rf4_1 hk0) hg6) (cl_RX4_48 hB.nst hB.2.2.2.2.1 ⟨Nat.le_of_ble_eq_true rfl, Nat.le_of_ble_eq_true rfl⟩) rfl hl.1 rfl (Nat.le_of_ble_eq_true rfl) dX4_take_39 ⟨Nat.le_refl _, Nat.le_refl _⟩) hS (fun H locs hW hS => ?_)
    refine lv_aload_n hx hb dX4_take_42 rfl (lv_at hl 0 rfl) ?_
    refine fg4_2 hB hW hk0 wd1_73 dX4_take_43 ?_
    refine lv_iload hx hb dX4_take_46 (lv_at hl 4 rfl) ?_
    refine lv_iload hx hb dX4_take_48 (lv_at hl 2 rfl) ?_
    obtain ⟨M7, hg8, hf⟩ := b_o1 hf
    refine x_cv hB (x_rn hB hW hS (As := [.ref (G.2.2.1 (k0 + 3)), .int x1, .int p3]) (rest := []) (ct_X8_put l G (rf4_2 hk0) hg8) (cl_RX4_48 hB.nst hB.2.2.2.2.1 ⟨Nat.le_of_ble_eq_true rfl, Nat.le_of_ble_eq_true rfl⟩) rfl hl.1 rfl (Nat.le_of_ble_eq_true rfl) dX4_take_50 ⟨Nat.le_refl _, Nat.le_refl _⟩) hS (fun H locs hW hS => ?_)
    refine lv_aload_n hx hb dX4_take_53 rfl (lv_at hl 0 rfl) ?_
    refine fg4_3 hB hW hk0 wd1_75 dX4_take_54 ?_
    refine lv_iload hx hb dX4_take_57 (lv_at hl 4 rfl) ?_
    refine lv_iload hx hb dX4_take_59 (lv_at hl 3 rfl) ?_
    obtain ⟨M9, hg10, hf⟩ := b_o1 hf
    refine x_cv hB (x_rn hB hW hS (As := [.ref (G.2.2.1 (k0 + 4)), .int x1, .int p4]) (rest := []) (ct_X8_put l G (rf4_3 hk0) hg10) (cl_RX4_48 hB.nst hB.2.2.2.2.1 ⟨Nat.le_of_ble_eq_true rfl, Nat.le_of_ble_eq_true rfl⟩) rfl hl.1 rfl (Nat.le_of_ble_eq_true rfl) dX4_take_61 ⟨Nat.le_refl _, Nat.le_refl _⟩) hS (fun H locs hW hS => ?_)
    refine lv_aload_n hx hb dX4_take_64 rfl (lv_at hl 0 rfl) ?_
    refine lv_aload_n hx hb dX4_take_65 rfl (lv_at hl 0 rfl) ?_
    refine fg4_4 hB hW hk0 wd1_77 dX4_take_66 ?_
    refine lv_iload hx hb dX4_take_69 (lv_at hl 4 rfl) ?_
    refine lv_iconst (v := (1 : Int32)) hx hb dX4_take_71 (by decide) ?_
    refine lv_iadd hx hb dX4_take_72 ?_
    obtain ⟨x11, hg12, hf⟩ := b_o1 hf
    refine x_ci hB (x_rs hB hW hS (As := [.int (gi M9 k0 4), .int (x1 + (1 : Int32))]) (rest := [.ref (G.2.2.1 k0)]) (ct_J9_max_7cf53 l G hg12) (cl_RX4_52 hB.2.2.2.2.1 ⟨Nat.le_of_ble_eq_true rfl, Nat.le_of_ble_eq_true rfl⟩) rfl hl.1 rfl (Nat.le_of_ble_eq_true rfl) dX4_take_73 ⟨Nat.le_refl _, Nat.le_refl _⟩) hS (fun H locs hW hS => ?_)
    refine fp4_4 hB hW hS hk0 wd1_77 dX4_take_76 (fun H locs M13 eM13 hW hS => ?_)
    have hf := nm_o hf eM13
    refine lv_aload_n hx hb dX4_take_79 rfl (lv_at hl 0 rfl) ?_
    refine fg4_4 hB hW hk0 wd1_77 dX4_take_80 ?_
    exact e_i hB hW hS hr hlk (s_1 hf) (s_2 hf) dX4_take_83
  have hf := hR
  refine lv_if_lt (tgt := 32) hx hb dX4_take_11 (by decide) (fun c15 => ?_) (fun c15 => ?_)
  · have hf := i_t hf c15
    exact main4 M _ _ ls hW hS (lv_sub hl [1, 3, 4, 5, 0] rfl) hf
  · have hf := i_f hf c15
    refine lv_iload hx hb dX4_take_14 (lv_at hl 0 rfl) ?_
    refine lv_aload_n hx hb dX4_take_16 rfl (lv_at hl 1 rfl) ?_
    refine fg4_0 hB hW hk0 wd1_70 dX4_take_17 ?_
    refine x_alen hB hW (rf4_0 hk0) (by decide) (ra4_0 hk0) (v := (8 : Int32)) rfl dX4_take_20 ?_
    refine lv_icmp_ge (tgt := 32) hx hb dX4_take_21 (by decide) (fun c16 => ?_) (fun c16 => ?_)
    · have hf := i_t hf c16
      exact main4 M _ _ ls hW hS (lv_sub hl [1, 3, 4, 5, 0] rfl) hf
    · have hf := i_f hf c16
      refine lv_aload_n hx hb dX4_take_24 rfl (lv_at hl 1 rfl) ?_
      refine fg4_0 hB hW hk0 wd1_70 dX4_take_25 ?_
      refine lv_iload hx hb dX4_take_28 (lv_at hl 0 rfl) ?_
      refine lv_lload_n hx hb dX4_take_30 rfl (lv_at hl 2 rfl) ?_
      obtain ⟨h17, hf⟩ := g_o hf
      refine x_l hB hW hS (rf4_0 hk0) (ra4_0 hk0) h17 dX4_take_31 (fun H locs M18 eM18 hW hS => ?_)
      have hf := nm_o hf eM18
      exact main4 M18 _ _ ls hW hS (lv_sub hl [1, 3, 4, 5, 0] rfl) hf
theorem cl_RX5_110 {R : Room} {s : State} {args : Array Value} (ht : ∀ w ∈ lw_all, w.before args s = true) (hR : 2 + 1 ≤ R.frames ∧ 8 + (4 + 11) + 41 ≤ R.locals) : CallW R s args RX5 RX5 110 yX5_number cX5_number 4 (some .int) (wsq yX5_number cX5_number 4 (some .int)) (rmq 2 41) 0 0 1 := cwV 1 ht (goodV wd3_16 wd3_18 wsel_12 wd1_6 wd3_19) rfl rfl rfl (by decide +kernel) hR
theorem cl_RX5_113 {R : Room} {s : State} {args : Array Value} (ht : ∀ w ∈ lw_all, w.before args s = true) (hR : 2 + 1 ≤ R.frames ∧ 8 + (4 + 11) + 45 ≤ R.locals) : CallW R s args RX5 RX4 113 yX4_hasRoomFor cX4_hasRoomFor 4 (some .boolean) (wsq yX4_hasRoomFor cX4_hasRoomFor 4 (some .boolean)) (rmq 2 45) 0 0 2 := cwV 2 ht (goodV wd3_20 wd3_21 wd3_22 wd1_4 wd3_23) rfl rfl rfl (by decide +kernel) hR
theorem cl_RX5_119 {R : Room} {s : State} {args : Array Value} (ht : ∀ w ∈ lw_all, w.before args s = true) (hR : 2 + 1 ≤ R.frames ∧ 8 + (7 + 11) + 45 ≤ R.locals) : CallW R s args RX5 RX4 119 yX4_take cX4_take 7 (some .int) (wsq yX4_take cX4_take 7 (some .int)) (rmq 2 45) 0 0 4 := cwV 4 ht (goodV wd3_33 wd3_34 wd3_35 wd1_4 wd3_36) rfl rfl rfl (by decide +kernel) hR
def f_X5_tellPattern_L5  (K4 : Int64 → Int32 → Mem → Option (Int64 × Int32 × Mem)) (x1 : Int64) (x2 : Int32) (M3 : Mem) : Option (Int64 × Int32 × Mem) := (if (3 : Int32) ≤ x2 then (some (x1, x2, M3)) else (bq1 (f_X5_isLetterHere M3) (fun (x28 : Int32) => (if x28 = 0 then (some (x1, x2, M3)) else (bq1 (f_X5_here M3) (fun (x31 : Int32) => bq1 (f_X8_spelledOn x1 x2 (x31 - (97 : Int32))) (fun (x33 : Int64) => nmq (si M3 124 3 ((gi M3 124 3) + (1 : Int32))) (fun (M35 : Mem) => nmq (x2 + (1 : Int32)) (fun (x36 : Int32) => (K4 x33 x36 M35))))))))))
def f_X5_tellPattern (k1 : Nat) (M : Mem) : Option (Int32 × Mem) := (bq3 (lq3 f_X5_tellPattern_L5 FU (0 : Int64) (0 : Int32) M) (fun (x6 : Int64) (x7 : Int32) (M8 : Mem) => (bq2 (f_X5_number (1 : Int32) M8) (fun (x9 : Int32) (M10 : Mem) => bq2 (f_X5_number (1 : Int32) M10) (fun (x12 : Int32) (M13 : Mem) => (if x7 < x9 then some ((0 : Int32), M13) else (if x12 < (1 : Int32) then some ((0 : Int32), M13) else (bq1 (f_X4_hasRoomFor k1 x6 x9 M13) (fun (x17 : Int32) => (if x17 = 0 then some ((0 : Int32), M13) else (bq2 (f_X4_take k1 x6 x7 x9 x12 M13) (fun (x20 : Int32) (M21 : Mem) => some ((1 : Int32), M21)))))))))))))
set_option maxHeartbeats 4000000 in
set_option maxRecDepth 100000 in
theorem ct_X5_tellPattern (l : Launch) (G : GG) {k1 : Nat} {M : Mem} {r : Int32} {Mr : Mem} (hk1 : isT 4 k1) (hf : f_X5_tellPattern k1 M = some (r, Mr)) : Met l yX5_tellPattern (wsq yX5_tellPattern cX5_tellPattern 7 (some .boolean)) (rmq 3 71) (va_Pc [.ref (G.2.2.1 124), .ref (G.2.2.1 k1)] (World G M)) (Qi G r Mr) 0 0 (adA G) := by
  refine x_start (plainFor_of_name (by decide)) (Nat.le_of_ble_eq_true rfl) ?_
  intro p e s m args below meth c hB hr hlk hW hS ls hl
  have hx := hB.x
  have hb := hB.b
  have hl : lv_has ls 7 [(0, .ref (G.2.2.1 124)), (1, .ref (G.2.2.1 k1))] := hl
  unfold f_X5_tellPattern at hf
  refine lv_lconst (v := (0 : Int64)) hx hb dX5_tellPattern_0 (by decide) ?_
  refine lv_lstore_n (lv' := [(2, .long (0 : Int64)), (0, .ref (G.2.2.1 124)), (1, .ref (G.2.2.1 k1))]) hx hb dX5_tellPattern_1 rfl hl (by decide) rfl (fun ls hl => ?_)
  refine lv_iconst (v := (0 : Int32)) hx hb dX5_tellPattern_2 (by decide) ?_
  refine lv_istore (lv' := [(4, .int (0 : Int32)), (2, .long (0 : Int64)), (0, .ref (G.2.2.1 124)), (1, .ref (G.2.2.1 k1))]) hx hb dX5_tellPattern_3 hl (by decide) rfl (fun ls hl => ?_)
  obtain ⟨y23, y24, M25, hL, hf⟩ := b_o3 hf
  have main26 : ∀ (x6 : Int64) (x7 : Int32) (M8 : Mem) (H : Heap) (locs : List Loc) (ls : Array Slot), Wd G M8 H → va_S (adA G) s.heap H locs → lv_has ls 7 [(0, .ref (G.2.2.1 124)), (1, .ref (G.2.2.1 k1)), (2, .long x6), (4, .int x7)] → some (x6, x7, M8) = some (y23, y24, M25) → W p l e (rmq 3 71) s m args below meth c H locs 0 0 (MQ below (Qi G r Mr) args s 0 0 (adA G)) (F0 m 48 ls []) := by
    intro x6 x7 M8 H locs ls hW hS hl hE
    cases hE
    refine lv_aload_n hx hb dX5_tellPattern_48 rfl (lv_at hl 0 rfl) ?_
    refine lv_iconst (v := (1 : Int32)) hx hb dX5_tellPattern_49 (by decide) ?_
    obtain ⟨x9, M10, hg11, hf⟩ := b_o2 hf
    refine x_ci hB (x_rv hB hW hS (As := [.int (1 : Int32)]) (rest := []) (ct_X5_number l G hg11) (cl_RX5_110 hB.2.2.2.2.1 ⟨Nat.le_of_ble_eq_true rfl, Nat.le_of_ble_eq_true rfl⟩) tl124 (by decide) rfl rfl hl.1 rfl (Nat.le_of_ble_eq_true rfl) dX5_tellPattern_50 ⟨Nat.le_refl _, Nat.le_refl _⟩) hS (fun H locs hW hS => ?_)
    refine lv_istore (lv' := [(5, .int x9), (0, .ref (G.2.2.1 124)), (1, .ref (G.2.2.1 k1)), (2, .long y23), (4, .int y24)]) hx hb dX5_tellPattern_53 hl (by decide) rfl (fun ls hl => ?_)
    refine lv_aload_n hx hb dX5_tellPattern_55 rfl (lv_at hl 1 rfl) ?_
    refine lv_iconst (v := (1 : Int32)) hx hb dX5_tellPattern_56 (by decide) ?_
    obtain ⟨x12, M13, hg14, hf⟩ := b_o2 hf
    refine x_ci hB (x_rv hB hW hS (As := [.int (1 : Int32)]) (rest := []) (ct_X5_number l G hg14) (cl_RX5_110 hB.2.2.2.2.1 ⟨Nat.le_of_ble_eq_true rfl, Nat.le_of_ble_eq_true rfl⟩) tl124 (by decide) rfl rfl hl.1 rfl (Nat.le_of_ble_eq_true rfl) dX5_tellPattern_57 ⟨Nat.le_refl _, Nat.le_refl _⟩) hS (fun H locs hW hS => ?_)
    refine lv_istore (lv' := [(6, .int x12), (5, .int x9), (0, .ref (G.2.2.1 124)), (1, .ref (G.2.2.1 k1)), (2, .long y23), (4, .int y24)]) hx hb dX5_tellPattern_60 hl (by decide) rfl (fun ls hl => ?_)
    refine lv_iload hx hb dX5_tellPattern_62 (lv_at hl 1 rfl) ?_
    refine lv_iload hx hb dX5_tellPattern_64 (lv_at hl 5 rfl) ?_
    refine lv_icmp_gt (tgt := 85) hx hb dX5_tellPattern_66 (by decide) (fun c15 => ?_) (fun c15 => ?_)
    · have hf := i_t hf c15
      refine lv_iconst (v := (0 : Int32)) hx hb dX5_tellPattern_85 (by decide) ?_
      exact e_z (by decide) hB hW hS hr hlk (s_1 hf) (s_2 hf) dX5_tellPattern_86
    · have hf := i_f hf c15
      refine lv_iload hx hb dX5_tellPattern_69 (lv_at hl 0 rfl) ?_
      refine lv_iconst (v := (1 : Int32)) hx hb dX5_tellPattern_71 (by decide) ?_
      refine lv_icmp_lt (tgt := 85) hx hb dX5_tellPattern_72 (by decide) (fun c16 => ?_) (fun c16 => ?_)
      · have hf := i_t hf c16
        refine lv_iconst (v := (0 : Int32)) hx hb dX5_tellPattern_85 (by decide) ?_
        exact e_z (by decide) hB hW hS hr hlk (s_1 hf) (s_2 hf) dX5_tellPattern_86
      · have hf := i_f hf c16
        refine lv_aload_n hx hb dX5_tellPattern_75 rfl (lv_at hl 3 rfl) ?_
        refine lv_lload_n hx hb dX5_tellPattern_76 rfl (lv_at hl 4 rfl) ?_
        refine lv_iload hx hb dX5_tellPattern_77 (lv_at hl 1 rfl) ?_
        obtain ⟨x17, hg18, hf⟩ := b_o1 hf
        refine x_ci hB (x_rv hB hW hS (As := [.long y23, .int x9]) (rest := []) (ct_X4_hasRoomFor l G hk1 hg18) (cl_RX5_113 hB.2.2.2.2.1 ⟨Nat.le_of_ble_eq_true rfl, Nat.le_of_ble_eq_true rfl⟩) hk1 (by decide) rfl rfl hl.1 rfl (Nat.le_of_ble_eq_true rfl) dX5_tellPattern_79 ⟨Nat.le_refl _, Nat.le_refl _⟩) hS (fun H locs hW hS => ?_)
        refine lv_if_ne (tgt := 87) hx hb dX5_tellPattern_82 (by decide) (fun c19 => ?_) (fun c19 => ?_)
        · have hf := i_f hf c19
          refine lv_aload_n hx hb dX5_tellPattern_87 rfl (lv_at hl 3 rfl) ?_
          refine lv_lload_n hx hb dX5_tellPattern_88 rfl (lv_at hl 4 rfl) ?_
          refine lv_iload hx hb dX5_tellPattern_89 (lv_at hl 5 rfl) ?_
          refine lv_iload hx hb dX5_tellPattern_91 (lv_at hl 1 rfl) ?_
          refine lv_iload hx hb dX5_tellPattern_93 (lv_at hl 0 rfl) ?_
          obtain ⟨x20, M21, hg22, hf⟩ := b_o2 hf
          refine x_ci hB (x_rv hB hW hS (As := [.long y23, .int y24, .int x9, .int x12]) (rest := []) (ct_X4_take l G hk1 hg22) (cl_RX5_119 hB.2.2.2.2.1 ⟨Nat.le_of_ble_eq_true rfl, Nat.le_of_ble_eq_true rfl⟩) hk1 (by decide) rfl rfl hl.1 rfl (Nat.le_of_ble_eq_true rfl) dX5_tellPattern_95 ⟨Nat.le_refl _, Nat.le_refl _⟩) hS (fun H locs hW hS => ?_)
          refine lv_pop hx hb dX5_tellPattern_98 rfl ?_
          refine lv_iconst (v := (1 : Int32)) hx hb dX5_tellPattern_99 (by decide) ?_
          exact e_z (by decide) hB hW hS hr hlk (s_1 hf) (s_2 hf) dX5_tellPattern_100
        · have hf := i_t hf c19
          refine lv_iconst (v := (0 : Int32)) hx hb dX5_tellPattern_85 (by decide) ?_
          exact e_z (by decide) hB hW hS hr hlk (s_1 hf) (s_2 hf) dX5_tellPattern_86
  have loop5 : ∀ (n : Nat) (x1 : Int64) (x2 : Int32) (M3 : Mem) (H : Heap) (locs : List Loc) (ls : Array Slot), Wd G M3 H → va_S (adA G) s.heap H locs → lv_has ls 7 [(0, .ref (G.2.2.1 124)), (1, .ref (G.2.2.1 k1)), (2, .long x1), (4, .int x2)] → lq3 f_X5_tellPattern_L5 n x1 x2 M3 = some (y23, y24, M25) → W p l e (rmq 3 71) s m args below meth c H locs 0 0 (MQ below (Qi G r Mr) args s 0 0 (adA G)) (F0 m 5 ls []) := by
    intro n
    induction n with
    | zero => intro x1 x2 M3 H locs ls hW hS hl hf; exact (l_z3 hf).elim
    | succ n ih =>
      intro x1 x2 M3 H locs ls hW hS hl hf
      have hf := l_s3 hf
      generalize lq3 f_X5_tellPattern_L5 n = K4 at ih hf
      unfold f_X5_tellPattern_L5 at hf
      refine lv_iload hx hb dX5_tellPattern_5 (lv_at hl 3 rfl) ?_
      refine lv_iconst (v := (3 : Int32)) hx hb dX5_tellPattern_7 (by decide) ?_
      refine lv_icmp_ge (tgt := 48) hx hb dX5_tellPattern_8 (by decide) (fun c27 => ?_) (fun c27 => ?_)
      · have hf := i_t hf c27
        exact main26 x1 x2 M3 _ _ ls hW hS (lv_sub hl [0, 1, 2, 3] rfl) hf
      · have hf := i_f hf c27
        refine lv_aload_n hx hb dX5_tellPattern_11 rfl (lv_at hl 0 rfl) ?_
        obtain ⟨x28, hg29, hf⟩ := b_o1 hf
        refine x_ci hB (x_rv hB hW hS (As := []) (rest := []) (ct_X5_isLetterHere l G hg29) (cl_RX5_56 hB.2.2.2.2.1 ⟨Nat.le_of_ble_eq_true rfl, Nat.le_of_ble_eq_true rfl⟩) tl124 (by decide) rfl rfl hl.1 rfl (Nat.le_of_ble_eq_true rfl) dX5_tellPattern_12 ⟨Nat.le_refl _, Nat.le_refl _⟩) hS (fun H locs hW hS => ?_)
        refine lv_if_eq (tgt := 48) hx hb dX5_tellPattern_15 (by decide) (fun c30 => ?_) (fun c30 => ?_)
        · have hf := i_t hf c30
          exact main26 x1 x2 M3 _ _ ls hW hS (lv_sub hl [0, 1, 2, 3] rfl) hf
        · have hf := i_f hf c30
          refine lv_lload_n hx hb dX5_tellPattern_18 rfl (lv_at hl 2 rfl) ?_
          refine lv_iload hx hb dX5_tellPattern_19 (lv_at hl 3 rfl) ?_
          refine lv_aload_n hx hb dX5_tellPattern_21 rfl (lv_at hl 0 rfl) ?_
          obtain ⟨x31, hg32, hf⟩ := b_o1 hf
          refine x_ci hB (x_rv hB hW hS (As := []) (rest := [.int x2, .long x1]) (ct_X5_here l G hg32) (cl_RX5_41 hB.2.2.2.2.1 ⟨Nat.le_of_ble_eq_true rfl, Nat.le_of_ble_eq_true rfl⟩) tl124 (by decide) rfl rfl hl.1 rfl (Nat.le_of_ble_eq_true rfl) dX5_tellPattern_22 ⟨Nat.le_refl _, Nat.le_refl _⟩) hS (fun H locs hW hS => ?_)
          refine lv_bipush (v := (97 : Int32)) hx hb dX5_tellPattern_25 (by decide) ?_
          refine lv_isub hx hb dX5_tellPattern_27 ?_
          obtain ⟨x33, hg34, hf⟩ := b_o1 hf
          refine x_cl hB (x_rn hB hW hS (As := [.long x1, .int x2, .int (x31 - (97 : Int32))]) (rest := []) (ct_X8_spelledOn l G hg34) (cl_RX5_93 hB.nst hB.2.2.2.2.1 ⟨Nat.le_of_ble_eq_true rfl, Nat.le_of_ble_eq_true rfl⟩) rfl hl.1 rfl (Nat.le_of_ble_eq_true rfl) dX5_tellPattern_28 ⟨Nat.le_refl _, Nat.le_refl _⟩) hS (fun H locs hW hS => ?_)
          refine lv_lstore_n (lv' := [(2, .long x33), (0, .ref (G.2.2.1 124)), (1, .ref (G.2.2.1 k1)), (4, .int x2)]) hx hb dX5_tellPattern_31 rfl hl (by decide) rfl (fun ls hl => ?_)
          refine lv_aload_n hx hb dX5_tellPattern_32 rfl (lv_at hl 1 rfl) ?_
          refine lv_dup hx hb dX5_tellPattern_33 rfl ?_
          refine fg5_3 hB hW tl124 wd1_190 dX5_tellPattern_34 ?_
          refine lv_iconst (v := (1 : Int32)) hx hb dX5_tellPattern_37 (by decide) ?_
          refine lv_iadd hx hb dX5_tellPattern_38 ?_
          refine fp5_3 hB hW hS tl124 wd1_190 dX5_tellPattern_39 (fun H locs M35 eM35 hW hS => ?_)
          have hf := nm_o hf eM35
          obtain ⟨x36, ex36⟩ : ∃ y : Int32, y = x2 + (1 : Int32) := ⟨_, rfl⟩
          have hf := nm_o hf ex36
          refine lv_iinc (v := x36) (lv' := [(4, .int x36), (2, .long x33), (0, .ref (G.2.2.1 124)), (1, .ref (G.2.2.1 k1))]) hx hb dX5_tellPattern_42 hl (k := 3) rfl (by rw [ex36]; rfl) (by decide) rfl (fun ls hl => ?_)
          refine lv_goto (tgt := 5) hx hb dX5_tellPattern_45 (by decide) ?_
          exact ih x33 x36 M35 _ _ ls hW hS (lv_sub hl [2, 3, 1, 0] rfl) hf
  exact loop5 FU (0 : Int64) (0 : Int32) M _ _ ls hW hS (lv_sub hl [2, 3, 1, 0] rfl) hL
def f_X8_glueFault (p1 : Int32) (p2 : Int32) (p3 : Int32) : Option Int32 := (if p1 < (2 : Int32) then some (-4 : Int32) else (if p2 < 0 then some (-4 : Int32) else (if 0 ≤ p3 then (if (9 : Int32) < p1 then some (-6 : Int32) else (if (9 : Int32) < p2 then some (-6 : Int32) else (if p3 ≤ p1 then some (0 : Int32) else some (-6 : Int32)))) else some (-4 : Int32))))
set_option maxHeartbeats 4000000 in
set_option maxRecDepth 100000 in
theorem ct_X8_glueFault (l : Launch) (G : GG) {p1 : Int32} {p2 : Int32} {p3 : Int32} {M : Mem} {r : Int32}  (hf : f_X8_glueFault p1 p2 p3 = some r) : Met l yX8_glueFault (wsq yX8_glueFault cX8_glueFault 3 (some .int)) (rmq 0 0) (va_Pc [.int p1, .int p2, .int p3] (World G M)) (Qi G r M) 0 0 (adA G) := by
  refine x_start (plainFor_of_name (by decide)) (Nat.le_of_ble_eq_true rfl) ?_
  intro p e s m args below meth c hB hr hlk hW hS ls hl
  have hx := hB.x
  have hb := hB.b
  have hl : lv_has ls 3 [(0, .int p1), (1, .int p2), (2, .int p3)] := hl
  unfold f_X8_glueFault at hf
  refine lv_iload_n hx hb dX8_glueFault_0 rfl (lv_at hl 0 rfl) ?_
  refine lv_iconst (v := (2 : Int32)) hx hb dX8_glueFault_1 (by decide) ?_
  refine lv_icmp_lt (tgt := 13) hx hb dX8_glueFault_2 (by decide) (fun c1 => ?_) (fun c1 => ?_)
  · have hf := i_t hf c1
    refine lv_bipush (v := (-4 : Int32)) hx hb dX8_glueFault_13 (by decide) ?_
    exact e_i hB hW hS hr hlk (Option.some.inj hf) rfl dX8_glueFault_15
  · have hf := i_f hf c1
    refine lv_iload_n hx hb dX8_glueFault_5 rfl (lv_at hl 1 rfl) ?_
    refine lv_if_lt (tgt := 13) hx hb dX8_glueFault_6 (by decide) (fun c2 => ?_) (fun c2 => ?_)
    · have hf := i_t hf c2
      refine lv_bipush (v := (-4 : Int32)) hx hb dX8_glueFault_13 (by decide) ?_
      exact e_i hB hW hS hr hlk (Option.some.inj hf) rfl dX8_glueFault_15
    · have hf := i_f hf c2
      refine lv_iload_n hx hb dX8_glueFault_9 rfl (lv_at hl 2 rfl) ?_
      refine lv_if_ge (tgt := 16) hx hb dX8_glueFault_10 (by decide) (fun c3 => ?_) (fun c3 => ?_)
      · have hf := i_t hf c3
        refine lv_iload_n hx hb dX8_glueFault_16 rfl (lv_at hl 0 rfl) ?_
        refine lv_bipush (v := (9 : Int32)) hx hb dX8_glueFault_17 (by decide) ?_
        refine lv_icmp_gt (tgt := 33) hx hb dX8_glueFault_19 (by decide) (fun c4 => ?_) (fun c4 => ?_)
        · have hf := i_t hf c4
          refine lv_bipush (v := (-6 : Int32)) hx hb dX8_glueFault_33 (by decide) ?_
          refine lv_goto (tgt := 39) hx hb dX8_glueFault_35 (by decide) ?_
          exact e_i hB hW hS hr hlk (Option.some.inj hf) rfl dX8_glueFault_39
        · have hf := i_f hf c4
          refine lv_iload_n hx hb dX8_glueFault_22 rfl (lv_at hl 1 rfl) ?_
          refine lv_bipush (v := (9 : Int32)) hx hb dX8_glueFault_23 (by decide) ?_
          refine lv_icmp_gt (tgt := 33) hx hb dX8_glueFault_25 (by decide) (fun c5 => ?_) (fun c5 => ?_)
          · have hf := i_t hf c5
            refine lv_bipush (v := (-6 : Int32)) hx hb dX8_glueFault_33 (by decide) ?_
            refine lv_goto (tgt := 39) hx hb dX8_glueFault_35 (by decide) ?_
            exact e_i hB hW hS hr hlk (Option.some.inj hf) rfl dX8_glueFault_39
          · have hf := i_f hf c5
            refine lv_iload_n hx hb dX8_glueFault_28 rfl (lv_at hl 2 rfl) ?_
            refine lv_iload_n hx hb dX8_glueFault_29 rfl (lv_at hl 0 rfl) ?_
            refine lv_icmp_le (tgt := 38) hx hb dX8_glueFault_30 (by decide) (fun c6 => ?_) (fun c6 => ?_)
            · have hf := i_t hf c6
              refine lv_iconst (v := (0 : Int32)) hx hb dX8_glueFault_38 (by decide) ?_
              exact e_i hB hW hS hr hlk (Option.some.inj hf) rfl dX8_glueFault_39
            · have hf := i_f hf c6
              refine lv_bipush (v := (-6 : Int32)) hx hb dX8_glueFault_33 (by decide) ?_
              refine lv_goto (tgt := 39) hx hb dX8_glueFault_35 (by decide) ?_
              exact e_i hB hW hS hr hlk (Option.some.inj hf) rfl dX8_glueFault_39
      · have hf := i_f hf c3
        refine lv_bipush (v := (-4 : Int32)) hx hb dX8_glueFault_13 (by decide) ?_
        exact e_i hB hW hS hr hlk (Option.some.inj hf) rfl dX8_glueFault_15
theorem cl_RX5_123 {R : Room} {s : State} {args : Array Value} (hN : Nst s) (ht : ∀ w ∈ lw_all, w.before args s = true) (hR : 0 + 1 ≤ R.frames ∧ 8 + (3 + 11) + 0 ≤ R.locals) : va_CN R s args RX5 123 yX8_glueFault "LinesOfFragments" cX8_glueFault 3 (some .int) (wsq yX8_glueFault cX8_glueFault 3 (some .int)) (rmq 0 0) 0 0 3 ∧ (Cond.static yX8_glueFault).before args s = true ∧ True := ⟨va_cnB 3 ht (goodC wd3_47) rfl rfl rfl (hN _ (List.mem_of_getElem? (l := nestL) (i := 12) rfl)) (ht _ wd1_1) (by decide +kernel) hR, ht _ wd3_46, trivial⟩
theorem cl_RX5_127 {R : Room} {s : State} {args : Array Value} (ht : ∀ w ∈ lw_all, w.before args s = true) (hR : 0 + 1 ≤ R.frames ∧ 8 + (4 + 11) + 0 ≤ R.locals) : CallW R s args RX5 RX3 127 yX3_takeGlue cX3_takeGlue 4 none (wsq yX3_takeGlue cX3_takeGlue 4 none) (rmq 0 0) 0 0 3 := cwV 3 ht (goodV wd3_48 wd2_212 wd2_213 wd1_2 wd2_214) rfl rfl rfl (by decide +kernel) hR
def f_X5_tellGlue (k1 : Nat) (M : Mem) : Option (Int32 × Mem) := (bq2 (f_X5_number (1 : Int32) M) (fun (x1 : Int32) (M2 : Mem) => bq2 (f_X5_number (1 : Int32) M2) (fun (x4 : Int32) (M5 : Mem) => bq2 (f_X5_number (1 : Int32) M5) (fun (x7 : Int32) (M8 : Mem) => bq1 (f_X8_glueFault x1 x4 x7) (fun (x10 : Int32) => (if x10 = 0 then (bq1 (f_X3_takeGlue k1 x1 x4 x7 M8) (fun (M13 : Mem) => some ((1 : Int32), M13))) else some ((0 : Int32), M8)))))))
set_option maxHeartbeats 4000000 in
set_option maxRecDepth 100000 in
theorem ct_X5_tellGlue (l : Launch) (G : GG) {k1 : Nat} {M : Mem} {r : Int32} {Mr : Mem} (hk1 : isT 3 k1) (hf : f_X5_tellGlue k1 M = some (r, Mr)) : Met l yX5_tellGlue (wsq yX5_tellGlue cX5_tellGlue 5 (some .boolean)) (rmq 3 64) (va_Pc [.ref (G.2.2.1 124), .ref (G.2.2.1 k1)] (World G M)) (Qi G r Mr) 0 0 (adA G) := by
  refine x_start (plainFor_of_name (by decide)) (Nat.le_of_ble_eq_true rfl) ?_
  intro p e s m args below meth c hB hr hlk hW hS ls hl
  have hx := hB.x
  have hb := hB.b
  have hl : lv_has ls 5 [(0, .ref (G.2.2.1 124)), (1, .ref (G.2.2.1 k1))] := hl
  unfold f_X5_tellGlue at hf
  refine lv_aload_n hx hb dX5_tellGlue_0 rfl (lv_at hl 0 rfl) ?_
  refine lv_iconst (v := (1 : Int32)) hx hb dX5_tellGlue_1 (by decide) ?_
  obtain ⟨x1, M2, hg3, hf⟩ := b_o2 hf
  refine x_ci hB (x_rv hB hW hS (As := [.int (1 : Int32)]) (rest := []) (ct_X5_number l G hg3) (cl_RX5_110 hB.2.2.2.2.1 ⟨Nat.le_of_ble_eq_true rfl, Nat.le_of_ble_eq_true rfl⟩) tl124 (by decide) rfl rfl hl.1 rfl (Nat.le_of_ble_eq_true rfl) dX5_tellGlue_2 ⟨Nat.le_refl _, Nat.le_refl _⟩) hS (fun H locs hW hS => ?_)
  refine lv_istore_n (lv' := [(2, .int x1), (0, .ref (G.2.2.1 124)), (1, .ref (G.2.2.1 k1))]) hx hb dX5_tellGlue_5 rfl hl (by decide) rfl (fun ls hl => ?_)
  refine lv_aload_n hx hb dX5_tellGlue_6 rfl (lv_at hl 1 rfl) ?_
  refine lv_iconst (v := (1 : Int32)) hx hb dX5_tellGlue_7 (by decide) ?_
  obtain ⟨x4, M5, hg6, hf⟩ := b_o2 hf
  refine x_ci hB (x_rv hB hW hS (As := [.int (1 : Int32)]) (rest := []) (ct_X5_number l G hg6) (cl_RX5_110 hB.2.2.2.2.1 ⟨Nat.le_of_ble_eq_true rfl, Nat.le_of_ble_eq_true rfl⟩) tl124 (by decide) rfl rfl hl.1 rfl (Nat.le_of_ble_eq_true rfl) dX5_tellGlue_8 ⟨Nat.le_refl _, Nat.le_refl _⟩) hS (fun H locs hW hS => ?_)
  refine lv_istore_n (lv' := [(3, .int x4), (2, .int x1), (0, .ref (G.2.2.1 124)), (1, .ref (G.2.2.1 k1))]) hx hb dX5_tellGlue_11 rfl hl (by decide) rfl (fun ls hl => ?_)
  refine lv_aload_n hx hb dX5_tellGlue_12 rfl (lv_at hl 2 rfl) ?_
  refine lv_iconst (v := (1 : Int32)) hx hb dX5_tellGlue_13 (by decide) ?_
  obtain ⟨x7, M8, hg9, hf⟩ := b_o2 hf
  refine x_ci hB (x_rv hB hW hS (As := [.int (1 : Int32)]) (rest := []) (ct_X5_number l G hg9) (cl_RX5_110 hB.2.2.2.2.1 ⟨Nat.le_of_ble_eq_true rfl, Nat.le_of_ble_eq_true rfl⟩) tl124 (by decide) rfl rfl hl.1 rfl (Nat.le_of_ble_eq_true rfl) dX5_tellGlue_14 ⟨Nat.le_refl _, Nat.le_refl _⟩) hS (fun H locs hW hS => ?_)
  refine lv_istore (lv' := [(4, .int x7), (3, .int x4), (2, .int x1), (0, .ref (G.2.2.1 124)), (1, .ref (G.2.2.1 k1))]) hx hb dX5_tellGlue_17 hl (by decide) rfl (fun ls hl => ?_)
  refine lv_iload_n hx hb dX5_tellGlue_19 rfl (lv_at hl 2 rfl) ?_
  refine lv_iload_n hx hb dX5_tellGlue_20 rfl (lv_at hl 1 rfl) ?_
  refine lv_iload hx hb dX5_tellGlue_21 (lv_at hl 0 rfl) ?_
  obtain ⟨x10, hg11, hf⟩ := b_o1 hf
  refine x_ci hB (x_rn hB hW hS (As := [.int x1, .int x4, .int x7]) (rest := []) (ct_X8_glueFault l G hg11) (cl_RX5_123 hB.nst hB.2.2.2.2.1 ⟨Nat.le_of_ble_eq_true rfl, Nat.le_of_ble_eq_true rfl⟩) rfl hl.1 rfl (Nat.le_of_ble_eq_true rfl) dX5_tellGlue_23 ⟨Nat.le_refl _, Nat.le_refl _⟩) hS (fun H locs hW hS => ?_)
  refine lv_if_eq (tgt := 31) hx hb dX5_tellGlue_26 (by decide) (fun c12 => ?_) (fun c12 => ?_)
  · have hf := i_t hf c12
    refine lv_aload_n hx hb dX5_tellGlue_31 rfl (lv_at hl 4 rfl) ?_
    refine lv_iload_n hx hb dX5_tellGlue_32 rfl (lv_at hl 2 rfl) ?_
    refine lv_iload_n hx hb dX5_tellGlue_33 rfl (lv_at hl 1 rfl) ?_
    refine lv_iload hx hb dX5_tellGlue_34 (lv_at hl 0 rfl) ?_
    obtain ⟨M13, hg14, hf⟩ := b_o1 hf
    refine x_cv hB (x_rv hB hW hS (As := [.int x1, .int x4, .int x7]) (rest := []) (ct_X3_takeGlue l G hk1 hg14) (cl_RX5_127 hB.2.2.2.2.1 ⟨Nat.le_of_ble_eq_true rfl, Nat.le_of_ble_eq_true rfl⟩) hk1 (by decide) rfl rfl hl.1 rfl (Nat.le_of_ble_eq_true rfl) dX5_tellGlue_36 ⟨Nat.le_refl _, Nat.le_refl _⟩) hS (fun H locs hW hS => ?_)
    refine lv_iconst (v := (1 : Int32)) hx hb dX5_tellGlue_39 (by decide) ?_
    exact e_z (by decide) hB hW hS hr hlk (s_1 hf) (s_2 hf) dX5_tellGlue_40
  · have hf := i_f hf c12
    refine lv_iconst (v := (0 : Int32)) hx hb dX5_tellGlue_29 (by decide) ?_
    exact e_z (by decide) hB hW hS hr hlk (s_1 hf) (s_2 hf) dX5_tellGlue_30
def f_X8_isOther (p1 : Int32) (p2 : Int32) : Option Int32 := (if p1 < 0 then some (1 : Int32) else (if p1 < p2 then some (0 : Int32) else some (1 : Int32)))
set_option maxHeartbeats 4000000 in
set_option maxRecDepth 100000 in
theorem ct_X8_isOther (l : Launch) (G : GG) {p1 : Int32} {p2 : Int32} {M : Mem} {r : Int32}  (hf : f_X8_isOther p1 p2 = some r) : Met l yX8_isOther (wsq yX8_isOther cX8_isOther 2 (some .boolean)) (rmq 0 0) (va_Pc [.int p1, .int p2] (World G M)) (Qi G r M) 0 0 (adA G) := by
  refine x_start (plainFor_of_name (by decide)) (Nat.le_of_ble_eq_true rfl) ?_
  intro p e s m args below meth c hB hr hlk hW hS ls hl
  have hx := hB.x
  have hb := hB.b
  have hl : lv_has ls 2 [(0, .int p1), (1, .int p2)] := hl
  unfold f_X8_isOther at hf
  refine lv_iload_n hx hb dX8_isOther_0 rfl (lv_at hl 0 rfl) ?_
  refine lv_if_lt (tgt := 9) hx hb dX8_isOther_1 (by decide) (fun c1 => ?_) (fun c1 => ?_)
  · have hf := i_t hf c1
    refine lv_iconst (v := (1 : Int32)) hx hb dX8_isOther_9 (by decide) ?_
    refine lv_goto (tgt := 14) hx hb dX8_isOther_10 (by decide) ?_
    exact e_z (by decide) hB hW hS hr hlk (Option.some.inj hf) rfl dX8_isOther_14
  · have hf := i_f hf c1
    refine lv_iload_n hx hb dX8_isOther_4 rfl (lv_at hl 0 rfl) ?_
    refine lv_iload_n hx hb dX8_isOther_5 rfl (lv_at hl 1 rfl) ?_
    refine lv_icmp_lt (tgt := 13) hx hb dX8_isOther_6 (by decide) (fun c2 => ?_) (fun c2 => ?_)
    · have hf := i_t hf c2
      refine lv_iconst (v := (0 : Int32)) hx hb dX8_isOther_13 (by decide) ?_
      exact e_z (by decide) hB hW hS hr hlk (Option.some.inj hf) rfl dX8_isOther_14
    · have hf := i_f hf c2
      refine lv_iconst (v := (1 : Int32)) hx hb dX8_isOther_9 (by decide) ?_
      refine lv_goto (tgt := 14) hx hb dX8_isOther_10 (by decide) ?_
      exact e_z (by decide) hB hW hS hr hlk (Option.some.inj hf) rfl dX8_isOther_14
theorem cl_RX5_131 {R : Room} {s : State} {args : Array Value} (hN : Nst s) (ht : ∀ w ∈ lw_all, w.before args s = true) (hR : 0 + 1 ≤ R.frames ∧ 8 + (2 + 11) + 0 ≤ R.locals) : va_CN R s args RX5 131 yX8_isOther "LinesOfFragments" cX8_isOther 2 (some .boolean) (wsq yX8_isOther cX8_isOther 2 (some .boolean)) (rmq 0 0) 0 0 2 ∧ (Cond.static yX8_isOther).before args s = true ∧ True := ⟨va_cnB 2 ht (goodC wd3_55) rfl rfl rfl (hN _ (List.mem_of_getElem? (l := nestL) (i := 13) rfl)) (ht _ wd1_1) (by decide +kernel) hR, ht _ wd3_54, trivial⟩
def f_X5_tellKind (k1 : Nat) (M : Mem) : Option (Int32 × Mem) := (bq2 (f_X5_number (1 : Int32) M) (fun (x1 : Int32) (M2 : Mem) => bq2 (f_X5_number (1 : Int32) M2) (fun (x4 : Int32) (M5 : Mem) => bq1 (f_X8_isOther x1 (6 : Int32)) (fun (x7 : Int32) => (if x7 = 0 then (nmq (si M5 k1 11 x1) (fun (M10 : Mem) => nmq (si M10 k1 12 x4) (fun (M11 : Mem) => some ((1 : Int32), M11)))) else some ((0 : Int32), M5))))))
set_option maxHeartbeats 4000000 in
set_option maxRecDepth 100000 in
theorem ct_X5_tellKind (l : Launch) (G : GG) {k1 : Nat} {M : Mem} {r : Int32} {Mr : Mem} (hk1 : isT 3 k1) (hf : f_X5_tellKind k1 M = some (r, Mr)) : Met l yX5_tellKind (wsq yX5_tellKind cX5_tellKind 4 (some .boolean)) (rmq 3 64) (va_Pc [.ref (G.2.2.1 124), .ref (G.2.2.1 k1)] (World G M)) (Qi G r Mr) 0 0 (adA G) := by
  refine x_start (plainFor_of_name (by decide)) (Nat.le_of_ble_eq_true rfl) ?_
  intro p e s m args below meth c hB hr hlk hW hS ls hl
  have hx := hB.x
  have hb := hB.b
  have hl : lv_has ls 4 [(0, .ref (G.2.2.1 124)), (1, .ref (G.2.2.1 k1))] := hl
  unfold f_X5_tellKind at hf
  refine lv_aload_n hx hb dX5_tellKind_0 rfl (lv_at hl 0 rfl) ?_
  refine lv_iconst (v := (1 : Int32)) hx hb dX5_tellKind_1 (by decide) ?_
  obtain ⟨x1, M2, hg3, hf⟩ := b_o2 hf
  refine x_ci hB (x_rv hB hW hS (As := [.int (1 : Int32)]) (rest := []) (ct_X5_number l G hg3) (cl_RX5_110 hB.2.2.2.2.1 ⟨Nat.le_of_ble_eq_true rfl, Nat.le_of_ble_eq_true rfl⟩) tl124 (by decide) rfl rfl hl.1 rfl (Nat.le_of_ble_eq_true rfl) dX5_tellKind_2 ⟨Nat.le_refl _, Nat.le_refl _⟩) hS (fun H locs hW hS => ?_)
  refine lv_istore_n (lv' := [(2, .int x1), (0, .ref (G.2.2.1 124)), (1, .ref (G.2.2.1 k1))]) hx hb dX5_tellKind_5 rfl hl (by decide) rfl (fun ls hl => ?_)
  refine lv_aload_n hx hb dX5_tellKind_6 rfl (lv_at hl 1 rfl) ?_
  refine lv_iconst (v := (1 : Int32)) hx hb dX5_tellKind_7 (by decide) ?_
  obtain ⟨x4, M5, hg6, hf⟩ := b_o2 hf
  refine x_ci hB (x_rv hB hW hS (As := [.int (1 : Int32)]) (rest := []) (ct_X5_number l G hg6) (cl_RX5_110 hB.2.2.2.2.1 ⟨Nat.le_of_ble_eq_true rfl, Nat.le_of_ble_eq_true rfl⟩) tl124 (by decide) rfl rfl hl.1 rfl (Nat.le_of_ble_eq_true rfl) dX5_tellKind_8 ⟨Nat.le_refl _, Nat.le_refl _⟩) hS (fun H locs hW hS => ?_)
  refine lv_istore_n (lv' := [(3, .int x4), (2, .int x1), (0, .ref (G.2.2.1 124)), (1, .ref (G.2.2.1 k1))]) hx hb dX5_tellKind_11 rfl hl (by decide) rfl (fun ls hl => ?_)
  refine lv_iload_n hx hb dX5_tellKind_12 rfl (lv_at hl 1 rfl) ?_
  refine lv_bipush (v := (6 : Int32)) hx hb dX5_tellKind_13 (by decide) ?_
  obtain ⟨x7, hg8, hf⟩ := b_o1 hf
  refine x_ci hB (x_rn hB hW hS (As := [.int x1, .int (6 : Int32)]) (rest := []) (ct_X8_isOther l G hg8) (cl_RX5_131 hB.nst hB.2.2.2.2.1 ⟨Nat.le_of_ble_eq_true rfl, Nat.le_of_ble_eq_true rfl⟩) rfl hl.1 rfl (Nat.le_of_ble_eq_true rfl) dX5_tellKind_15 ⟨Nat.le_refl _, Nat.le_refl _⟩) hS (fun H locs hW hS => ?_)
  refine lv_if_eq (tgt := 23) hx hb dX5_tellKind_18 (by decide) (fun c9 => ?_) (fun c9 => ?_)
  · have hf := i_t hf c9
    refine lv_aload_n hx hb dX5_tellKind_23 rfl (lv_at hl 3 rfl) ?_
    refine lv_iload_n hx hb dX5_tellKind_24 rfl (lv_at hl 1 rfl) ?_
    refine fp3_11 hB hW hS hk1 wd1_128 dX5_tellKind_25 (fun H locs M10 eM10 hW hS => ?_)
    have hf := nm_o hf eM10
    refine lv_aload_n hx hb dX5_tellKind_28 rfl (lv_at hl 3 rfl) ?_
    refine lv_iload_n hx hb dX5_tellKind_29 rfl (lv_at hl 0 rfl) ?_
    refine fp3_12 hB hW hS hk1 wd1_131 dX5_tellKind_30 (fun H locs M11 eM11 hW hS => ?_)
    have hf := nm_o hf eM11
    refine lv_iconst (v := (1 : Int32)) hx hb dX5_tellKind_33 (by decide) ?_
    exact e_z (by decide) hB hW hS hr hlk (s_1 hf) (s_2 hf) dX5_tellKind_34
  · have hf := i_f hf c9
    refine lv_iconst (v := (0 : Int32)) hx hb dX5_tellKind_21 (by decide) ?_
    exact e_z (by decide) hB hW hS hr hlk (s_1 hf) (s_2 hf) dX5_tellKind_22
def f_X8_outside (p1 : Int32) (p2 : Int32) (p3 : Int32) : Option Int32 := (if p2 ≤ p1 then (if p1 ≤ p3 then some (0 : Int32) else some (-6 : Int32)) else some (-4 : Int32))
set_option maxHeartbeats 4000000 in
set_option maxRecDepth 100000 in
theorem ct_X8_outside (l : Launch) (G : GG) {p1 : Int32} {p2 : Int32} {p3 : Int32} {M : Mem} {r : Int32}  (hf : f_X8_outside p1 p2 p3 = some r) : Met l yX8_outside (wsq yX8_outside cX8_outside 3 (some .int)) (rmq 0 0) (va_Pc [.int p1, .int p2, .int p3] (World G M)) (Qi G r M) 0 0 (adA G) := by
  refine x_start (plainFor_of_name (by decide)) (Nat.le_of_ble_eq_true rfl) ?_
  intro p e s m args below meth c hB hr hlk hW hS ls hl
  have hx := hB.x
  have hb := hB.b
  have hl : lv_has ls 3 [(0, .int p1), (1, .int p2), (2, .int p3)] := hl
  unfold f_X8_outside at hf
  refine lv_iload_n hx hb dX8_outside_0 rfl (lv_at hl 0 rfl) ?_
  refine lv_iload_n hx hb dX8_outside_1 rfl (lv_at hl 1 rfl) ?_
  refine lv_icmp_ge (tgt := 8) hx hb dX8_outside_2 (by decide) (fun c1 => ?_) (fun c1 => ?_)
  · have hf := i_t hf c1
    refine lv_iload_n hx hb dX8_outside_8 rfl (lv_at hl 0 rfl) ?_
    refine lv_iload_n hx hb dX8_outside_9 rfl (lv_at hl 2 rfl) ?_
    refine lv_icmp_le (tgt := 18) hx hb dX8_outside_10 (by decide) (fun c2 => ?_) (fun c2 => ?_)
    · have hf := i_t hf c2
      refine lv_iconst (v := (0 : Int32)) hx hb dX8_outside_18 (by decide) ?_
      exact e_i hB hW hS hr hlk (Option.some.inj hf) rfl dX8_outside_19
    · have hf := i_f hf c2
      refine lv_bipush (v := (-6 : Int32)) hx hb dX8_outside_13 (by decide) ?_
      refine lv_goto (tgt := 19) hx hb dX8_outside_15 (by decide) ?_
      exact e_i hB hW hS hr hlk (Option.some.inj hf) rfl dX8_outside_19
  · have hf := i_f hf c1
    refine lv_bipush (v := (-4 : Int32)) hx hb dX8_outside_5 (by decide) ?_
    exact e_i hB hW hS hr hlk (Option.some.inj hf) rfl dX8_outside_7
theorem cl_RX5_144 {R : Room} {s : State} {args : Array Value} (hN : Nst s) (ht : ∀ w ∈ lw_all, w.before args s = true) (hR : 0 + 1 ≤ R.frames ∧ 8 + (3 + 11) + 0 ≤ R.locals) : va_CN R s args RX5 144 yX8_outside "LinesOfFragments" cX8_outside 3 (some .int) (wsq yX8_outside cX8_outside 3 (some .int)) (rmq 0 0) 0 0 3 ∧ (Cond.static yX8_outside).before args s = true ∧ True := ⟨va_cnB 3 ht (goodC wd3_62) rfl rfl rfl (hN _ (List.mem_of_getElem? (l := nestL) (i := 14) rfl)) (ht _ wd1_1) (by decide +kernel) hR, ht _ wd3_61, trivial⟩
def f_X5_tellNumber (p1 : Int32) (k2 : Nat) (M : Mem) : Option (Int32 × Mem) := (bq1 (f_X5_digitsBehind p1) (fun (x1 : Int32) => bq2 (f_X5_number x1 M) (fun (x3 : Int32) (M4 : Mem) => (if p1 = (104 : Int32) then (nmq (si M4 k2 8 x3) (fun (M7 : Mem) => some ((1 : Int32), M7))) else if p1 = (105 : Int32) then some ((0 : Int32), M4) else if p1 = (106 : Int32) then some ((0 : Int32), M4) else if p1 = (107 : Int32) then some ((0 : Int32), M4) else if p1 = (108 : Int32) then (nmq (si M4 k2 3 x3) (fun (M12 : Mem) => bq1 (f_X8_outside x3 (10 : Int32) (60 : Int32)) (fun (x13 : Int32) => (if x13 = 0 then some ((1 : Int32), M12) else some ((0 : Int32), M12))))) else if p1 = (109 : Int32) then (nmq (si M4 k2 10 x3) (fun (M17 : Mem) => bq1 (f_X8_isOther x3 (3 : Int32)) (fun (x18 : Int32) => (if x18 = 0 then some ((1 : Int32), M17) else some ((0 : Int32), M17))))) else if p1 = (110 : Int32) then some ((0 : Int32), M4) else if p1 = (111 : Int32) then (nmq (si M4 k2 9 x3) (fun (M23 : Mem) => some ((1 : Int32), M23))) else if p1 = (112 : Int32) then some ((0 : Int32), M4) else if p1 = (113 : Int32) then some ((0 : Int32), M4) else if p1 = (114 : Int32) then some ((0 : Int32), M4) else if p1 = (115 : Int32) then some ((0 : Int32), M4) else if p1 = (116 : Int32) then (nmq (si M4 k2 7 x3) (fun (M29 : Mem) => bq1 (f_X8_outside x3 (0 : Int32) (40 : Int32)) (fun (x30 : Int32) => (if x30 = 0 then some ((1 : Int32), M29) else some ((0 : Int32), M29))))) else some ((0 : Int32), M4)))))
set_option maxHeartbeats 4000000 in
set_option maxRecDepth 100000 in
theorem ct_X5_tellNumber (l : Launch) (G : GG) {p1 : Int32} {k2 : Nat} {M : Mem} {r : Int32} {Mr : Mem} (hk2 : isT 3 k2) (hf : f_X5_tellNumber p1 k2 M = some (r, Mr)) : Met l yX5_tellNumber (wsq yX5_tellNumber cX5_tellNumber 4 (some .boolean)) (rmq 3 64) (va_Pc [.ref (G.2.2.1 124), .int p1, .ref (G.2.2.1 k2)] (World G M)) (Qi G r Mr) 0 0 (adA G) := by
  refine x_start (plainFor_of_name (by decide)) (Nat.le_of_ble_eq_true rfl) ?_
  intro p e s m args below meth c hB hr hlk hW hS ls hl
  have hx := hB.x
  have hb := hB.b
  have hl : lv_has ls 4 [(0, .ref (G.2.2.1 124)), (1, .int p1), (2, .ref (G.2.2.1 k2))] := hl
  unfold f_X5_tellNumber at hf
  refine lv_aload_n hx hb dX5_tellNumber_0 rfl (lv_at hl 0 rfl) ?_
  refine lv_iload_n hx hb dX5_tellNumber_1 rfl (lv_at hl 1 rfl) ?_
  obtain ⟨x1, hg2, hf⟩ := b_o1 hf
  refine x_ci hB (x_rs hB hW hS (As := [.int p1]) (rest := [.ref (G.2.2.1 124)]) (ct_X5_digitsBehind l G hg2) (cl_RX5_45 hB.2.2.2.2.1 ⟨Nat.le_of_ble_eq_true rfl, Nat.le_of_ble_eq_true rfl⟩) rfl hl.1 rfl (Nat.le_of_ble_eq_true rfl) dX5_tellNumber_2 ⟨Nat.le_refl _, Nat.le_refl _⟩) hS (fun H locs hW hS => ?_)
  obtain ⟨x3, M4, hg5, hf⟩ := b_o2 hf
  refine x_ci hB (x_rv hB hW hS (As := [.int x1]) (rest := []) (ct_X5_number l G hg5) (cl_RX5_110 hB.2.2.2.2.1 ⟨Nat.le_of_ble_eq_true rfl, Nat.le_of_ble_eq_true rfl⟩) tl124 (by decide) rfl rfl hl.1 rfl (Nat.le_of_ble_eq_true rfl) dX5_tellNumber_5 ⟨Nat.le_refl _, Nat.le_refl _⟩) hS (fun H locs hW hS => ?_)
  refine lv_istore_n (lv' := [(3, .int x3), (0, .ref (G.2.2.1 124)), (1, .int p1), (2, .ref (G.2.2.1 k2))]) hx hb dX5_tellNumber_8 rfl hl (by decide) rfl (fun ls hl => ?_)
  refine lv_iload_n hx hb dX5_tellNumber_9 rfl (lv_at hl 2 rfl) ?_
  by_cases c6 : p1 = (104 : Int32)
  · have hf := i_t hf c6
    refine lv_tableIn (tgt := 119) hx hb dX5_tellNumber_10 (by rw [c6]; decide) (by rw [c6]; decide) (by rw [c6] <;> rfl) (by decide) ?_
    refine lv_aload_n hx hb dX5_tellNumber_119 rfl (lv_at hl 3 rfl) ?_
    refine lv_iload_n hx hb dX5_tellNumber_120 rfl (lv_at hl 0 rfl) ?_
    refine fp3_8 hB hW hS hk2 wd1_117 dX5_tellNumber_121 (fun H locs M7 eM7 hW hS => ?_)
    have hf := nm_o hf eM7
    refine lv_iconst (v := (1 : Int32)) hx hb dX5_tellNumber_124 (by decide) ?_
    exact e_z (by decide) hB hW hS hr hlk (s_1 hf) (s_2 hf) dX5_tellNumber_125
  · have hf := i_f hf c6
    by_cases c8 : p1 = (105 : Int32)
    · have hf := i_t hf c8
      refine lv_tableIn (tgt := 152) hx hb dX5_tellNumber_10 (by rw [c8]; decide) (by rw [c8]; decide) (by rw [c8] <;> rfl) (by decide) ?_
      refine lv_iconst (v := (0 : Int32)) hx hb dX5_tellNumber_152 (by decide) ?_
      exact e_z (by decide) hB hW hS hr hlk (s_1 hf) (s_2 hf) dX5_tellNumber_153
    · have hf := i_f hf c8
      by_cases c9 : p1 = (106 : Int32)
      · have hf := i_t hf c9
        refine lv_tableIn (tgt := 152) hx hb dX5_tellNumber_10 (by rw [c9]; decide) (by rw [c9]; decide) (by rw [c9] <;> rfl) (by decide) ?_
        refine lv_iconst (v := (0 : Int32)) hx hb dX5_tellNumber_152 (by decide) ?_
        exact e_z (by decide) hB hW hS hr hlk (s_1 hf) (s_2 hf) dX5_tellNumber_153
      · have hf := i_f hf c9
        by_cases c10 : p1 = (107 : Int32)
        · have hf := i_t hf c10
          refine lv_tableIn (tgt := 152) hx hb dX5_tellNumber_10 (by rw [c10]; decide) (by rw [c10]; decide) (by rw [c10] <;> rfl) (by decide) ?_
          refine lv_iconst (v := (0 : Int32)) hx hb dX5_tellNumber_152 (by decide) ?_
          exact e_z (by decide) hB hW hS hr hlk (s_1 hf) (s_2 hf) dX5_tellNumber_153
        · have hf := i_f hf c10
          by_cases c11 : p1 = (108 : Int32)
          · have hf := i_t hf c11
            refine lv_tableIn (tgt := 76) hx hb dX5_tellNumber_10 (by rw [c11]; decide) (by rw [c11]; decide) (by rw [c11] <;> rfl) (by decide) ?_
            refine lv_aload_n hx hb dX5_tellNumber_76 rfl (lv_at hl 3 rfl) ?_
            refine lv_iload_n hx hb dX5_tellNumber_77 rfl (lv_at hl 0 rfl) ?_
            refine fp3_3 hB hW hS hk2 wd1_103 dX5_tellNumber_78 (fun H locs M12 eM12 hW hS => ?_)
            have hf := nm_o hf eM12
            refine lv_iload_n hx hb dX5_tellNumber_81 rfl (lv_at hl 0 rfl) ?_
            refine lv_bipush (v := (10 : Int32)) hx hb dX5_tellNumber_82 (by decide) ?_
            refine lv_bipush (v := (60 : Int32)) hx hb dX5_tellNumber_84 (by decide) ?_
            obtain ⟨x13, hg14, hf⟩ := b_o1 hf
            refine x_ci hB (x_rn hB hW hS (As := [.int x3, .int (10 : Int32), .int (60 : Int32)]) (rest := []) (ct_X8_outside l G hg14) (cl_RX5_144 hB.nst hB.2.2.2.2.1 ⟨Nat.le_of_ble_eq_true rfl, Nat.le_of_ble_eq_true rfl⟩) rfl hl.1 rfl (Nat.le_of_ble_eq_true rfl) dX5_tellNumber_86 ⟨Nat.le_refl _, Nat.le_refl _⟩) hS (fun H locs hW hS => ?_)
            refine lv_if_ne (tgt := 96) hx hb dX5_tellNumber_89 (by decide) (fun c15 => ?_) (fun c15 => ?_)
            · have hf := i_f hf c15
              refine lv_iconst (v := (0 : Int32)) hx hb dX5_tellNumber_96 (by decide) ?_
              exact e_z (by decide) hB hW hS hr hlk (s_1 hf) (s_2 hf) dX5_tellNumber_97
            · have hf := i_t hf c15
              refine lv_iconst (v := (1 : Int32)) hx hb dX5_tellNumber_92 (by decide) ?_
              refine lv_goto (tgt := 97) hx hb dX5_tellNumber_93 (by decide) ?_
              exact e_z (by decide) hB hW hS hr hlk (s_1 hf) (s_2 hf) dX5_tellNumber_97
          · have hf := i_f hf c11
            by_cases c16 : p1 = (109 : Int32)
            · have hf := i_t hf c16
              refine lv_tableIn (tgt := 133) hx hb dX5_tellNumber_10 (by rw [c16]; decide) (by rw [c16]; decide) (by rw [c16] <;> rfl) (by decide) ?_
              refine lv_aload_n hx hb dX5_tellNumber_133 rfl (lv_at hl 3 rfl) ?_
              refine lv_iload_n hx hb dX5_tellNumber_134 rfl (lv_at hl 0 rfl) ?_
              refine fp3_10 hB hW hS hk2 wd1_125 dX5_tellNumber_135 (fun H locs M17 eM17 hW hS => ?_)
              have hf := nm_o hf eM17
              refine lv_iload_n hx hb dX5_tellNumber_138 rfl (lv_at hl 0 rfl) ?_
              refine lv_iconst (v := (3 : Int32)) hx hb dX5_tellNumber_139 (by decide) ?_
              obtain ⟨x18, hg19, hf⟩ := b_o1 hf
              refine x_ci hB (x_rn hB hW hS (As := [.int x3, .int (3 : Int32)]) (rest := []) (ct_X8_isOther l G hg19) (cl_RX5_131 hB.nst hB.2.2.2.2.1 ⟨Nat.le_of_ble_eq_true rfl, Nat.le_of_ble_eq_true rfl⟩) rfl hl.1 rfl (Nat.le_of_ble_eq_true rfl) dX5_tellNumber_140 ⟨Nat.le_refl _, Nat.le_refl _⟩) hS (fun H locs hW hS => ?_)
              refine lv_if_ne (tgt := 150) hx hb dX5_tellNumber_143 (by decide) (fun c20 => ?_) (fun c20 => ?_)
              · have hf := i_f hf c20
                refine lv_iconst (v := (0 : Int32)) hx hb dX5_tellNumber_150 (by decide) ?_
                exact e_z (by decide) hB hW hS hr hlk (s_1 hf) (s_2 hf) dX5_tellNumber_151
              · have hf := i_t hf c20
                refine lv_iconst (v := (1 : Int32)) hx hb dX5_tellNumber_146 (by decide) ?_
                refine lv_goto (tgt := 151) hx hb dX5_tellNumber_147 (by decide) ?_
                exact e_z (by decide) hB hW hS hr hlk (s_1 hf) (s_2 hf) dX5_tellNumber_151
            · have hf := i_f hf c16
              by_cases c21 : p1 = (110 : Int32)
              · have hf := i_t hf c21
                refine lv_tableIn (tgt := 152) hx hb dX5_tellNumber_10 (by rw [c21]; decide) (by rw [c21]; decide) (by rw [c21] <;> rfl) (by decide) ?_
                refine lv_iconst (v := (0 : Int32)) hx hb dX5_tellNumber_152 (by decide) ?_
                exact e_z (by decide) hB hW hS hr hlk (s_1 hf) (s_2 hf) dX5_tellNumber_153
              · have hf := i_f hf c21
                by_cases c22 : p1 = (111 : Int32)
                · have hf := i_t hf c22
                  refine lv_tableIn (tgt := 126) hx hb dX5_tellNumber_10 (by rw [c22]; decide) (by rw [c22]; decide) (by rw [c22] <;> rfl) (by decide) ?_
                  refine lv_aload_n hx hb dX5_tellNumber_126 rfl (lv_at hl 3 rfl) ?_
                  refine lv_iload_n hx hb dX5_tellNumber_127 rfl (lv_at hl 0 rfl) ?_
                  refine fp3_9 hB hW hS hk2 wd1_121 dX5_tellNumber_128 (fun H locs M23 eM23 hW hS => ?_)
                  have hf := nm_o hf eM23
                  refine lv_iconst (v := (1 : Int32)) hx hb dX5_tellNumber_131 (by decide) ?_
                  exact e_z (by decide) hB hW hS hr hlk (s_1 hf) (s_2 hf) dX5_tellNumber_132
                · have hf := i_f hf c22
                  by_cases c24 : p1 = (112 : Int32)
                  · have hf := i_t hf c24
                    refine lv_tableIn (tgt := 152) hx hb dX5_tellNumber_10 (by rw [c24]; decide) (by rw [c24]; decide) (by rw [c24] <;> rfl) (by decide) ?_
                    refine lv_iconst (v := (0 : Int32)) hx hb dX5_tellNumber_152 (by decide) ?_
                    exact e_z (by decide) hB hW hS hr hlk (s_1 hf) (s_2 hf) dX5_tellNumber_153
                  · have hf := i_f hf c24
                    by_cases c25 : p1 = (113 : Int32)
                    · have hf := i_t hf c25
                      refine lv_tableIn (tgt := 152) hx hb dX5_tellNumber_10 (by rw [c25]; decide) (by rw [c25]; decide) (by rw [c25] <;> rfl) (by decide) ?_
                      refine lv_iconst (v := (0 : Int32)) hx hb dX5_tellNumber_152 (by decide) ?_
                      exact e_z (by decide) hB hW hS hr hlk (s_1 hf) (s_2 hf) dX5_tellNumber_153
                    · have hf := i_f hf c25
                      by_cases c26 : p1 = (114 : Int32)
                      · have hf := i_t hf c26
                        refine lv_tableIn (tgt := 152) hx hb dX5_tellNumber_10 (by rw [c26]; decide) (by rw [c26]; decide) (by rw [c26] <;> rfl) (by decide) ?_
                        refine lv_iconst (v := (0 : Int32)) hx hb dX5_tellNumber_152 (by decide) ?_
                        exact e_z (by decide) hB hW hS hr hlk (s_1 hf) (s_2 hf) dX5_tellNumber_153
                      · have hf := i_f hf c26
                        by_cases c27 : p1 = (115 : Int32)
                        · have hf := i_t hf c27
                          refine lv_tableIn (tgt := 152) hx hb dX5_tellNumber_10 (by rw [c27]; decide) (by rw [c27]; decide) (by rw [c27] <;> rfl) (by decide) ?_
                          refine lv_iconst (v := (0 : Int32)) hx hb dX5_tellNumber_152 (by decide) ?_
                          exact e_z (by decide) hB hW hS hr hlk (s_1 hf) (s_2 hf) dX5_tellNumber_153
                        · have hf := i_f hf c27
                          by_cases c28 : p1 = (116 : Int32)
                          · have hf := i_t hf c28
                            refine lv_tableIn (tgt := 98) hx hb dX5_tellNumber_10 (by rw [c28]; decide) (by rw [c28]; decide) (by rw [c28] <;> rfl) (by decide) ?_
                            refine lv_aload_n hx hb dX5_tellNumber_98 rfl (lv_at hl 3 rfl) ?_
                            refine lv_iload_n hx hb dX5_tellNumber_99 rfl (lv_at hl 0 rfl) ?_
                            refine fp3_7 hB hW hS hk2 wd1_114 dX5_tellNumber_100 (fun H locs M29 eM29 hW hS => ?_)
                            have hf := nm_o hf eM29
                            refine lv_iload_n hx hb dX5_tellNumber_103 rfl (lv_at hl 0 rfl) ?_
                            refine lv_iconst (v := (0 : Int32)) hx hb dX5_tellNumber_104 (by decide) ?_
                            refine lv_bipush (v := (40 : Int32)) hx hb dX5_tellNumber_105 (by decide) ?_
                            obtain ⟨x30, hg31, hf⟩ := b_o1 hf
                            refine x_ci hB (x_rn hB hW hS (As := [.int x3, .int (0 : Int32), .int (40 : Int32)]) (rest := []) (ct_X8_outside l G hg31) (cl_RX5_144 hB.nst hB.2.2.2.2.1 ⟨Nat.le_of_ble_eq_true rfl, Nat.le_of_ble_eq_true rfl⟩) rfl hl.1 rfl (Nat.le_of_ble_eq_true rfl) dX5_tellNumber_107 ⟨Nat.le_refl _, Nat.le_refl _⟩) hS (fun H locs hW hS => ?_)
                            refine lv_if_ne (tgt := 117) hx hb dX5_tellNumber_110 (by decide) (fun c32 => ?_) (fun c32 => ?_)
                            · have hf := i_f hf c32
                              refine lv_iconst (v := (0 : Int32)) hx hb dX5_tellNumber_117 (by decide) ?_
                              exact e_z (by decide) hB hW hS hr hlk (s_1 hf) (s_2 hf) dX5_tellNumber_118
                            · have hf := i_t hf c32
                              refine lv_iconst (v := (1 : Int32)) hx hb dX5_tellNumber_113 (by decide) ?_
                              refine lv_goto (tgt := 118) hx hb dX5_tellNumber_114 (by decide) ?_
                              exact e_z (by decide) hB hW hS hr hlk (s_1 hf) (s_2 hf) dX5_tellNumber_118
                          · have hf := i_f hf c28
                            refine lv_tableOut (tgt := 152) hx hb dX5_tellNumber_10 (sw_out (lo := 104) (hi := 116) (fun v h1 h2 hv => ?_)) (by decide) ?_
                            · rcases (show v = 104 ∨ v = 105 ∨ v = 106 ∨ v = 107 ∨ v = 108 ∨ v = 109 ∨ v = 110 ∨ v = 111 ∨ v = 112 ∨ v = 113 ∨ v = 114 ∨ v = 115 ∨ v = 116 by omega) with rfl | rfl | rfl | rfl | rfl | rfl | rfl | rfl | rfl | rfl | rfl | rfl | rfl
                              · exact c6 hv
                              · exact c8 hv
                              · exact c9 hv
                              · exact c10 hv
                              · exact c11 hv
                              · exact c16 hv
                              · exact c21 hv
                              · exact c22 hv
                              · exact c24 hv
                              · exact c25 hv
                              · exact c26 hv
                              · exact c27 hv
                              · exact c28 hv
                            · skip
                              refine lv_iconst (v := (0 : Int32)) hx hb dX5_tellNumber_152 (by decide) ?_
                              exact e_z (by decide) hB hW hS hr hlk (s_1 hf) (s_2 hf) dX5_tellNumber_153
theorem cl_RX5_68 {R : Room} {s : State} {args : Array Value} (ht : ∀ w ∈ lw_all, w.before args s = true) (hR : 3 + 1 ≤ R.frames ∧ 8 + (5 + 11) + 70 ≤ R.locals) : CallW R s args RX5 RX5 68 yX5_tellWord cX5_tellWord 5 (some .boolean) (wsq yX5_tellWord cX5_tellWord 5 (some .boolean)) (rmq 3 70) 0 0 1 := cwV 1 ht (goodV wd2_223 wd2_225 wsel_8 wd1_6 wd2_226) rfl rfl rfl (by decide +kernel) hR
theorem cl_RX5_72 {R : Room} {s : State} {args : Array Value} (ht : ∀ w ∈ lw_all, w.before args s = true) (hR : 2 + 1 ≤ R.frames ∧ 8 + (2 + 11) + 43 ≤ R.locals) : CallW R s args RX5 RX5 72 yX5_tellForced cX5_tellForced 2 (some .boolean) (wsq yX5_tellForced cX5_tellForced 2 (some .boolean)) (rmq 2 43) 0 0 1 := cwV 1 ht (goodV wd3_3 wd3_5 wsel_10 wd1_6 wd3_6) rfl rfl rfl (by decide +kernel) hR
theorem cl_RX5_79 {R : Room} {s : State} {args : Array Value} (ht : ∀ w ∈ lw_all, w.before args s = true) (hR : 3 + 1 ≤ R.frames ∧ 8 + (7 + 11) + 71 ≤ R.locals) : CallW R s args RX5 RX5 79 yX5_tellPattern cX5_tellPattern 7 (some .boolean) (wsq yX5_tellPattern cX5_tellPattern 7 (some .boolean)) (rmq 3 71) 0 0 1 := cwV 1 ht (goodV wd3_12 wd3_14 wsel_11 wd1_6 wd3_15) rfl rfl rfl (by decide +kernel) hR
theorem cl_RX5_83 {R : Room} {s : State} {args : Array Value} (ht : ∀ w ∈ lw_all, w.before args s = true) (hR : 3 + 1 ≤ R.frames ∧ 8 + (5 + 11) + 64 ≤ R.locals) : CallW R s args RX5 RX5 83 yX5_tellGlue cX5_tellGlue 5 (some .boolean) (wsq yX5_tellGlue cX5_tellGlue 5 (some .boolean)) (rmq 3 64) 0 0 1 := cwV 1 ht (goodV wd3_41 wd3_43 wsel_15 wd1_6 wd3_44) rfl rfl rfl (by decide +kernel) hR
theorem cl_RX5_86 {R : Room} {s : State} {args : Array Value} (ht : ∀ w ∈ lw_all, w.before args s = true) (hR : 3 + 1 ≤ R.frames ∧ 8 + (4 + 11) + 64 ≤ R.locals) : CallW R s args RX5 RX5 86 yX5_tellKind cX5_tellKind 4 (some .boolean) (wsq yX5_tellKind cX5_tellKind 4 (some .boolean)) (rmq 3 64) 0 0 1 := cwV 1 ht (goodV wd3_49 wd3_51 wsel_16 wd1_6 wd3_52) rfl rfl rfl (by decide +kernel) hR
theorem cl_RX5_89 {R : Room} {s : State} {args : Array Value} (ht : ∀ w ∈ lw_all, w.before args s = true) (hR : 3 + 1 ≤ R.frames ∧ 8 + (4 + 11) + 64 ≤ R.locals) : CallW R s args RX5 RX5 89 yX5_tellNumber cX5_tellNumber 4 (some .boolean) (wsq yX5_tellNumber cX5_tellNumber 4 (some .boolean)) (rmq 3 64) 0 0 2 := cwV 2 ht (goodV wd3_56 wd3_58 wsel_17 wd1_6 wd3_59) rfl rfl rfl (by decide +kernel) hR
def f_X5_tellStatement (k1 : Nat) (M : Mem) : Option (Int32 × Mem) := (bq1 (f_X5_here M) (fun (x1 : Int32) => nmq (si M 124 3 ((gi M 124 3) + (1 : Int32))) (fun (M3 : Mem) => (if x1 = (103 : Int32) then (bq2 (f_X5_tellGlue k1 M3) (fun (x5 : Int32) (M6 : Mem) => gq (zB x5) (some (x5, M6)))) else if x1 = (107 : Int32) then (bq2 (f_X5_tellKind k1 M3) (fun (x10 : Int32) (M11 : Mem) => gq (zB x10) (some (x10, M11)))) else if x1 = (110 : Int32) then (bq2 (f_X5_tellForced (k1 + 2) M3) (fun (x15 : Int32) (M16 : Mem) => gq (zB x15) (some (x15, M16)))) else if x1 = (112 : Int32) then (bq2 (f_X5_tellPattern (k1 + 6) M3) (fun (x20 : Int32) (M21 : Mem) => gq (zB x20) (some (x20, M21)))) else if x1 = (119 : Int32) then (bq2 (f_X5_tellWord (k1 + 2) M3) (fun (x25 : Int32) (M26 : Mem) => gq (zB x25) (some (x25, M26)))) else (bq2 (f_X5_tellNumber x1 k1 M3) (fun (x29 : Int32) (M30 : Mem) => gq (zB x29) (some (x29, M30))))))))
set_option maxHeartbeats 4000000 in
set_option maxRecDepth 100000 in
theorem ct_X5_tellStatement (l : Launch) (G : GG) {k1 : Nat} {M : Mem} {r : Int32} {Mr : Mem} (hk1 : isT 3 k1) (hf : f_X5_tellStatement k1 M = some (r, Mr)) : Met l yX5_tellStatement (wsq yX5_tellStatement cX5_tellStatement 3 (some .boolean)) (rmq 4 97) (va_Pc [.ref (G.2.2.1 124), .ref (G.2.2.1 k1)] (World G M)) (Qi G r Mr) 0 0 (adA G) := by
  refine x_start (plainFor_of_name (by decide)) (Nat.le_of_ble_eq_true rfl) ?_
  intro p e s m args below meth c hB hr hlk hW hS ls hl
  have hx := hB.x
  have hb := hB.b
  have hl : lv_has ls 3 [(0, .ref (G.2.2.1 124)), (1, .ref (G.2.2.1 k1))] := hl
  unfold f_X5_tellStatement at hf
  refine lv_aload_n hx hb dX5_tellStatement_0 rfl (lv_at hl 0 rfl) ?_
  obtain ⟨x1, hg2, hf⟩ := b_o1 hf
  refine x_ci hB (x_rv hB hW hS (As := []) (rest := []) (ct_X5_here l G hg2) (cl_RX5_41 hB.2.2.2.2.1 ⟨Nat.le_of_ble_eq_true rfl, Nat.le_of_ble_eq_true rfl⟩) tl124 (by decide) rfl rfl hl.1 rfl (Nat.le_of_ble_eq_true rfl) dX5_tellStatement_1 ⟨Nat.le_refl _, Nat.le_refl _⟩) hS (fun H locs hW hS => ?_)
  refine lv_istore_n (lv' := [(2, .int x1), (0, .ref (G.2.2.1 124)), (1, .ref (G.2.2.1 k1))]) hx hb dX5_tellStatement_4 rfl hl (by decide) rfl (fun ls hl => ?_)
  refine lv_aload_n hx hb dX5_tellStatement_5 rfl (lv_at hl 1 rfl) ?_
  refine lv_dup hx hb dX5_tellStatement_6 rfl ?_
  refine fg5_3 hB hW tl124 wd1_190 dX5_tellStatement_7 ?_
  refine lv_iconst (v := (1 : Int32)) hx hb dX5_tellStatement_10 (by decide) ?_
  refine lv_iadd hx hb dX5_tellStatement_11 ?_
  refine fp5_3 hB hW hS tl124 wd1_190 dX5_tellStatement_12 (fun H locs M3 eM3 hW hS => ?_)
  have hf := nm_o hf eM3
  refine lv_iload_n hx hb dX5_tellStatement_15 rfl (lv_at hl 0 rfl) ?_
  by_cases c4 : x1 = (103 : Int32)
  · have hf := i_t hf c4
    refine lv_lookup (tgt := 95) hx hb dX5_tellStatement_16 (by decide) (by rw [c4] <;> rfl) (by decide) ?_
    refine lv_aload_n hx hb dX5_tellStatement_95 rfl (lv_at hl 1 rfl) ?_
    refine lv_aload_n hx hb dX5_tellStatement_96 rfl (lv_at hl 2 rfl) ?_
    obtain ⟨x5, M6, hg7, hf⟩ := b_o2 hf
    refine x_ci hB (x_rv hB hW hS (As := [.ref (G.2.2.1 k1)]) (rest := []) (ct_X5_tellGlue l G hk1 hg7) (cl_RX5_83 hB.2.2.2.2.1 ⟨Nat.le_of_ble_eq_true rfl, Nat.le_of_ble_eq_true rfl⟩) tl124 (by decide) rfl rfl hl.1 rfl (Nat.le_of_ble_eq_true rfl) dX5_tellStatement_97 ⟨Nat.le_refl _, Nat.le_refl _⟩) hS (fun H locs hW hS => ?_)
    obtain ⟨h8, hf⟩ := g_o hf
    exact e_z h8 hB hW hS hr hlk (s_1 hf) (s_2 hf) dX5_tellStatement_100
  · have hf := i_f hf c4
    by_cases c9 : x1 = (107 : Int32)
    · have hf := i_t hf c9
      refine lv_lookup (tgt := 101) hx hb dX5_tellStatement_16 (by decide) (by rw [c9] <;> rfl) (by decide) ?_
      refine lv_aload_n hx hb dX5_tellStatement_101 rfl (lv_at hl 1 rfl) ?_
      refine lv_aload_n hx hb dX5_tellStatement_102 rfl (lv_at hl 2 rfl) ?_
      obtain ⟨x10, M11, hg12, hf⟩ := b_o2 hf
      refine x_ci hB (x_rv hB hW hS (As := [.ref (G.2.2.1 k1)]) (rest := []) (ct_X5_tellKind l G hk1 hg12) (cl_RX5_86 hB.2.2.2.2.1 ⟨Nat.le_of_ble_eq_true rfl, Nat.le_of_ble_eq_true rfl⟩) tl124 (by decide) rfl rfl hl.1 rfl (Nat.le_of_ble_eq_true rfl) dX5_tellStatement_103 ⟨Nat.le_refl _, Nat.le_refl _⟩) hS (fun H locs hW hS => ?_)
      obtain ⟨h13, hf⟩ := g_o hf
      exact e_z h13 hB hW hS hr hlk (s_1 hf) (s_2 hf) dX5_tellStatement_106
    · have hf := i_f hf c9
      by_cases c14 : x1 = (110 : Int32)
      · have hf := i_t hf c14
        refine lv_lookup (tgt := 77) hx hb dX5_tellStatement_16 (by decide) (by rw [c14] <;> rfl) (by decide) ?_
        refine lv_aload_n hx hb dX5_tellStatement_77 rfl (lv_at hl 1 rfl) ?_
        refine lv_aload_n hx hb dX5_tellStatement_78 rfl (lv_at hl 2 rfl) ?_
        refine fg3_1 hB hW hk1 wd1_96 dX5_tellStatement_79 ?_
        obtain ⟨x15, M16, hg17, hf⟩ := b_o2 hf
        refine x_ci hB (x_rv hB hW hS (As := [.ref (G.2.2.1 (k1 + 2))]) (rest := []) (ct_X5_tellForced l G (rf3_1 hk1) hg17) (cl_RX5_72 hB.2.2.2.2.1 ⟨Nat.le_of_ble_eq_true rfl, Nat.le_of_ble_eq_true rfl⟩) tl124 (by decide) rfl rfl hl.1 rfl (Nat.le_of_ble_eq_true rfl) dX5_tellStatement_82 ⟨Nat.le_refl _, Nat.le_refl _⟩) hS (fun H locs hW hS => ?_)
        obtain ⟨h18, hf⟩ := g_o hf
        exact e_z h18 hB hW hS hr hlk (s_1 hf) (s_2 hf) dX5_tellStatement_85
      · have hf := i_f hf c14
        by_cases c19 : x1 = (112 : Int32)
        · have hf := i_t hf c19
          refine lv_lookup (tgt := 86) hx hb dX5_tellStatement_16 (by decide) (by rw [c19] <;> rfl) (by decide) ?_
          refine lv_aload_n hx hb dX5_tellStatement_86 rfl (lv_at hl 1 rfl) ?_
          refine lv_aload_n hx hb dX5_tellStatement_87 rfl (lv_at hl 2 rfl) ?_
          refine fg3_2 hB hW hk1 wd1_99 dX5_tellStatement_88 ?_
          obtain ⟨x20, M21, hg22, hf⟩ := b_o2 hf
          refine x_ci hB (x_rv hB hW hS (As := [.ref (G.2.2.1 (k1 + 6))]) (rest := []) (ct_X5_tellPattern l G (rf3_2 hk1) hg22) (cl_RX5_79 hB.2.2.2.2.1 ⟨Nat.le_of_ble_eq_true rfl, Nat.le_of_ble_eq_true rfl⟩) tl124 (by decide) rfl rfl hl.1 rfl (Nat.le_of_ble_eq_true rfl) dX5_tellStatement_91 ⟨Nat.le_refl _, Nat.le_refl _⟩) hS (fun H locs hW hS => ?_)
          obtain ⟨h23, hf⟩ := g_o hf
          exact e_z h23 hB hW hS hr hlk (s_1 hf) (s_2 hf) dX5_tellStatement_94
        · have hf := i_f hf c19
          by_cases c24 : x1 = (119 : Int32)
          · have hf := i_t hf c24
            refine lv_lookup (tgt := 68) hx hb dX5_tellStatement_16 (by decide) (by rw [c24] <;> rfl) (by decide) ?_
            refine lv_aload_n hx hb dX5_tellStatement_68 rfl (lv_at hl 1 rfl) ?_
            refine lv_aload_n hx hb dX5_tellStatement_69 rfl (lv_at hl 2 rfl) ?_
            refine fg3_1 hB hW hk1 wd1_96 dX5_tellStatement_70 ?_
            obtain ⟨x25, M26, hg27, hf⟩ := b_o2 hf
            refine x_ci hB (x_rv hB hW hS (As := [.ref (G.2.2.1 (k1 + 2))]) (rest := []) (ct_X5_tellWord l G (rf3_1 hk1) hg27) (cl_RX5_68 hB.2.2.2.2.1 ⟨Nat.le_of_ble_eq_true rfl, Nat.le_of_ble_eq_true rfl⟩) tl124 (by decide) rfl rfl hl.1 rfl (Nat.le_of_ble_eq_true rfl) dX5_tellStatement_73 ⟨Nat.le_refl _, Nat.le_refl _⟩) hS (fun H locs hW hS => ?_)
            obtain ⟨h28, hf⟩ := g_o hf
            exact e_z h28 hB hW hS hr hlk (s_1 hf) (s_2 hf) dX5_tellStatement_76
          · have hf := i_f hf c24
            refine lv_lookup (tgt := 107) hx hb dX5_tellStatement_16 (by decide) (lk_out (by simp only [List.forall_mem_cons, List.not_mem_nil, false_implies, implies_true, and_true]; exact ⟨sw_ne c4, sw_ne c9, sw_ne c14, sw_ne c19, sw_ne c24⟩)) (by decide) ?_
            refine lv_aload_n hx hb dX5_tellStatement_107 rfl (lv_at hl 1 rfl) ?_
            refine lv_iload_n hx hb dX5_tellStatement_108 rfl (lv_at hl 0 rfl) ?_
            refine lv_aload_n hx hb dX5_tellStatement_109 rfl (lv_at hl 2 rfl) ?_
            obtain ⟨x29, M30, hg31, hf⟩ := b_o2 hf
            refine x_ci hB (x_rv hB hW hS (As := [.int x1, .ref (G.2.2.1 k1)]) (rest := []) (ct_X5_tellNumber l G hk1 hg31) (cl_RX5_89 hB.2.2.2.2.1 ⟨Nat.le_of_ble_eq_true rfl, Nat.le_of_ble_eq_true rfl⟩) tl124 (by decide) rfl rfl hl.1 rfl (Nat.le_of_ble_eq_true rfl) dX5_tellStatement_110 ⟨Nat.le_refl _, Nat.le_refl _⟩) hS (fun H locs hW hS => ?_)
            obtain ⟨h32, hf⟩ := g_o hf
            exact e_z h32 hB hW hS hr hlk (s_1 hf) (s_2 hf) dX5_tellStatement_113
theorem cl_RX5_33 {R : Room} {s : State} {args : Array Value} (ht : ∀ w ∈ lw_all, w.before args s = true) (hR : 4 + 1 ≤ R.frames ∧ 8 + (3 + 11) + 97 ≤ R.locals) : CallW R s args RX5 RX5 33 yX5_tellStatement cX5_tellStatement 3 (some .boolean) (wsq yX5_tellStatement cX5_tellStatement 3 (some .boolean)) (rmq 4 97) 0 0 1 := cwV 1 ht (goodV wd2_219 wd2_221 wsel_7 wd1_6 wd2_222) rfl rfl rfl (by decide +kernel) hR
def f_X5_tellTo_L12 (k1 : Nat) (K5 : Int32 → Mem → Option (Int32 × Mem)) (x3 : Int32) (M4 : Mem) : Option (Int32 × Mem) := (if (96 : Int32) ≤ x3 then some ((-1 : Int32), M4) else (if (gi M4 124 1) ≤ (gi M4 124 3) then some ((-1 : Int32), M4) else (nmq ((gi M4 124 3)) (fun (x9 : Int32) => bq2 (f_X5_tellStatement k1 M4) (fun (x10 : Int32) (M11 : Mem) => (if x10 = 0 then some (x9, M11) else (nmq (si M11 124 3 ((gi M11 124 3) + (1 : Int32))) (fun (M14 : Mem) => nmq (si M14 124 2 ((gi M14 124 2) + (1 : Int32))) (fun (M15 : Mem) => nmq (x3 + (1 : Int32)) (fun (x16 : Int32) => (K5 x16 M15)))))))))))
def f_X5_tellTo (k1 : Nat) (M : Mem) : Option (Int32 × Mem) := (nmq (si M 124 3 (0 : Int32)) (fun (M1 : Mem) => nmq (si M1 124 2 (0 : Int32)) (fun (M2 : Mem) => (lq2 (f_X5_tellTo_L12 k1) FU (0 : Int32) M2))))
set_option maxHeartbeats 4000000 in
set_option maxRecDepth 100000 in
theorem ct_X5_tellTo (l : Launch) (G : GG) {k1 : Nat} {M : Mem} {r : Int32} {Mr : Mem} (hk1 : isT 3 k1) (hf : f_X5_tellTo k1 M = some (r, Mr)) : Met l yX5_tellTo (wsq yX5_tellTo cX5_tellTo 4 (some .int)) (rmq 5 119) (va_Pc [.ref (G.2.2.1 124), .ref (G.2.2.1 k1)] (World G M)) (Qi G r Mr) 0 0 (adA G) := by
  refine x_start (plainFor_of_name (by decide)) (Nat.le_of_ble_eq_true rfl) ?_
  intro p e s m args below meth c hB hr hlk hW hS ls hl
  have hx := hB.x
  have hb := hB.b
  have hl : lv_has ls 4 [(0, .ref (G.2.2.1 124)), (1, .ref (G.2.2.1 k1))] := hl
  unfold f_X5_tellTo at hf
  refine lv_aload_n hx hb dX5_tellTo_0 rfl (lv_at hl 0 rfl) ?_
  refine lv_iconst (v := (0 : Int32)) hx hb dX5_tellTo_1 (by decide) ?_
  refine fp5_3 hB hW hS tl124 wd1_190 dX5_tellTo_2 (fun H locs M1 eM1 hW hS => ?_)
  have hf := nm_o hf eM1
  refine lv_aload_n hx hb dX5_tellTo_5 rfl (lv_at hl 0 rfl) ?_
  refine lv_iconst (v := (0 : Int32)) hx hb dX5_tellTo_6 (by decide) ?_
  refine fp5_2 hB hW hS tl124 wd1_189 dX5_tellTo_7 (fun H locs M2 eM2 hW hS => ?_)
  have hf := nm_o hf eM2
  refine lv_iconst (v := (0 : Int32)) hx hb dX5_tellTo_10 (by decide) ?_
  refine lv_istore_n (lv' := [(2, .int (0 : Int32)), (0, .ref (G.2.2.1 124)), (1, .ref (G.2.2.1 k1))]) hx hb dX5_tellTo_11 rfl hl (by decide) rfl (fun ls hl => ?_)
  have loop6 : ∀ (n : Nat) (x3 : Int32) (M4 : Mem) (H : Heap) (locs : List Loc) (ls : Array Slot), Wd G M4 H → va_S (adA G) s.heap H locs → lv_has ls 4 [(0, .ref (G.2.2.1 124)), (1, .ref (G.2.2.1 k1)), (2, .int x3)] → lq2 (f_X5_tellTo_L12 k1) n x3 M4 = some (r, Mr) → W p l e (rmq 5 119) s m args below meth c H locs 0 0 (MQ below (Qi G r Mr) args s 0 0 (adA G)) (F0 m 12 ls []) := by
    intro n
    induction n with
    | zero => intro x3 M4 H locs ls hW hS hl hf; exact (l_z2 hf).elim
    | succ n ih =>
      intro x3 M4 H locs ls hW hS hl hf
      have hf := l_s2 hf
      generalize lq2 (f_X5_tellTo_L12 k1) n = K5 at ih hf
      unfold f_X5_tellTo_L12 at hf
      refine lv_iload_n hx hb dX5_tellTo_12 rfl (lv_at hl 2 rfl) ?_
      refine lv_bipush (v := (96 : Int32)) hx hb dX5_tellTo_13 (by decide) ?_
      refine lv_icmp_ge (tgt := 70) hx hb dX5_tellTo_15 (by decide) (fun c7 => ?_) (fun c7 => ?_)
      · have hf := i_t hf c7
        refine lv_iconst (v := (-1 : Int32)) hx hb dX5_tellTo_70 (by decide) ?_
        exact e_i hB hW hS hr hlk (s_1 hf) (s_2 hf) dX5_tellTo_71
      · have hf := i_f hf c7
        refine lv_aload_n hx hb dX5_tellTo_18 rfl (lv_at hl 0 rfl) ?_
        refine fg5_3 hB hW tl124 wd1_190 dX5_tellTo_19 ?_
        refine lv_aload_n hx hb dX5_tellTo_22 rfl (lv_at hl 0 rfl) ?_
        refine fg5_1 hB hW tl124 wd1_186 dX5_tellTo_23 ?_
        refine lv_icmp_ge (tgt := 70) hx hb dX5_tellTo_26 (by decide) (fun c8 => ?_) (fun c8 => ?_)
        · have hf := i_t hf c8
          refine lv_iconst (v := (-1 : Int32)) hx hb dX5_tellTo_70 (by decide) ?_
          exact e_i hB hW hS hr hlk (s_1 hf) (s_2 hf) dX5_tellTo_71
        · have hf := i_f hf c8
          refine lv_aload_n hx hb dX5_tellTo_29 rfl (lv_at hl 0 rfl) ?_
          refine fg5_3 hB hW tl124 wd1_190 dX5_tellTo_30 ?_
          refine lv_topi (fun x9 ex9 => ?_)
          have hf := nm_o hf ex9
          refine lv_istore_n (lv' := [(3, .int x9), (0, .ref (G.2.2.1 124)), (1, .ref (G.2.2.1 k1)), (2, .int x3)]) hx hb dX5_tellTo_33 rfl hl (by decide) rfl (fun ls hl => ?_)
          refine lv_aload_n hx hb dX5_tellTo_34 rfl (lv_at hl 1 rfl) ?_
          refine lv_aload_n hx hb dX5_tellTo_35 rfl (lv_at hl 2 rfl) ?_
          obtain ⟨x10, M11, hg12, hf⟩ := b_o2 hf
          refine x_ci hB (x_rv hB hW hS (As := [.ref (G.2.2.1 k1)]) (rest := []) (ct_X5_tellStatement l G hk1 hg12) (cl_RX5_33 hB.2.2.2.2.1 ⟨Nat.le_of_ble_eq_true rfl, Nat.le_of_ble_eq_true rfl⟩) tl124 (by decide) rfl rfl hl.1 rfl (Nat.le_of_ble_eq_true rfl) dX5_tellTo_36 ⟨Nat.le_refl _, Nat.le_refl _⟩) hS (fun H locs hW hS => ?_)
          refine lv_if_ne (tgt := 44) hx hb dX5_tellTo_39 (by decide) (fun c13 => ?_) (fun c13 => ?_)
          · have hf := i_f hf c13
            refine lv_aload_n hx hb dX5_tellTo_44 rfl (lv_at hl 1 rfl) ?_
            refine lv_dup hx hb dX5_tellTo_45 rfl ?_
            refine fg5_3 hB hW tl124 wd1_190 dX5_tellTo_46 ?_
            refine lv_iconst (v := (1 : Int32)) hx hb dX5_tellTo_49 (by decide) ?_
            refine lv_iadd hx hb dX5_tellTo_50 ?_
            refine fp5_3 hB hW hS tl124 wd1_190 dX5_tellTo_51 (fun H locs M14 eM14 hW hS => ?_)
            have hf := nm_o hf eM14
            refine lv_aload_n hx hb dX5_tellTo_54 rfl (lv_at hl 1 rfl) ?_
            refine lv_dup hx hb dX5_tellTo_55 rfl ?_
            refine fg5_2 hB hW tl124 wd1_189 dX5_tellTo_56 ?_
            refine lv_iconst (v := (1 : Int32)) hx hb dX5_tellTo_59 (by decide) ?_
            refine lv_iadd hx hb dX5_tellTo_60 ?_
            refine fp5_2 hB hW hS tl124 wd1_189 dX5_tellTo_61 (fun H locs M15 eM15 hW hS => ?_)
            have hf := nm_o hf eM15
            obtain ⟨x16, ex16⟩ : ∃ y : Int32, y = x3 + (1 : Int32) := ⟨_, rfl⟩
            have hf := nm_o hf ex16
            refine lv_iinc (v := x16) (lv' := [(2, .int x16), (3, .int x9), (0, .ref (G.2.2.1 124)), (1, .ref (G.2.2.1 k1))]) hx hb dX5_tellTo_64 hl (k := 3) rfl (by rw [ex16]; rfl) (by decide) rfl (fun ls hl => ?_)
            refine lv_goto (tgt := 12) hx hb dX5_tellTo_67 (by decide) ?_
            exact ih x16 M15 _ _ ls hW hS (lv_sub hl [2, 3, 0] rfl) hf
          · have hf := i_t hf c13
            refine lv_iload_n hx hb dX5_tellTo_42 rfl (lv_at hl 0 rfl) ?_
            exact e_i hB hW hS hr hlk (s_1 hf) (s_2 hf) dX5_tellTo_43
  exact loop6 FU (0 : Int32) M2 _ _ ls hW hS (lv_sub hl [1, 2, 0] rfl) hf
def f_X5_forget (M : Mem) : Option Mem := (nmq (si M 124 1 (0 : Int32)) (fun (M1 : Mem) => some M1))
set_option maxHeartbeats 4000000 in
set_option maxRecDepth 100000 in
theorem ct_X5_forget (l : Launch) (G : GG)  {M : Mem} {Mr : Mem}  (hf : f_X5_forget M = some Mr) : Met l yX5_forget (wsq yX5_forget cX5_forget 1 none) (rmq 0 0) (va_Pc [.ref (G.2.2.1 124)] (World G M)) (Qv G Mr) 0 0 (adA G) := by
  refine x_start (plainFor_of_name (by decide)) (Nat.le_of_ble_eq_true rfl) ?_
  intro p e s m args below meth c hB hr hlk hW hS ls hl
  have hx := hB.x
  have hb := hB.b
  have hl : lv_has ls 1 [(0, .ref (G.2.2.1 124))] := hl
  unfold f_X5_forget at hf
  refine lv_aload_n hx hb dX5_forget_0 rfl (lv_at hl 0 rfl) ?_
  refine lv_iconst (v := (0 : Int32)) hx hb dX5_forget_1 (by decide) ?_
  refine fp5_1 hB hW hS tl124 wd1_186 dX5_forget_2 (fun H locs M1 eM1 hW hS => ?_)
  have hf := nm_o hf eM1
  exact e_v hB hW hS hr hlk (Option.some.inj hf) dX5_forget_5
def f_X1_forget (M : Mem) : Option Mem := (nmq (si M 34 2 (0 : Int32)) (fun (M1 : Mem) => some M1))
set_option maxHeartbeats 4000000 in
set_option maxRecDepth 100000 in
theorem ct_X1_forget (l : Launch) (G : GG)  {M : Mem} {Mr : Mem}  (hf : f_X1_forget M = some Mr) : Met l yX1_forget (wsq yX1_forget cX1_forget 1 none) (rmq 0 0) (va_Pc [.ref (G.2.2.1 34)] (World G M)) (Qv G Mr) 0 0 (adA G) := by
  refine x_start (plainFor_of_name (by decide)) (Nat.le_of_ble_eq_true rfl) ?_
  intro p e s m args below meth c hB hr hlk hW hS ls hl
  have hx := hB.x
  have hb := hB.b
  have hl : lv_has ls 1 [(0, .ref (G.2.2.1 34))] := hl
  unfold f_X1_forget at hf
  refine lv_aload_n hx hb dX1_forget_0 rfl (lv_at hl 0 rfl) ?_
  refine lv_iconst (v := (0 : Int32)) hx hb dX1_forget_1 (by decide) ?_
  refine fp1_2 hB hW hS tl34 wd1_170 dX1_forget_2 (fun H locs M1 eM1 hW hS => ?_)
  have hf := nm_o hf eM1
  exact e_v hB hW hS hr hlk (Option.some.inj hf) dX1_forget_5
theorem cl_RX8_61 {R : Room} {s : State} {args : Array Value} (ht : ∀ w ∈ lw_all, w.before args s = true) (hR : 5 + 1 ≤ R.frames ∧ 8 + (2 + 11) + 104 ≤ R.locals) : CallW R s args RX8 RX5 61 yX5_misspelt cX5_misspelt 2 (some .int) (wsq yX5_misspelt cX5_misspelt 2 (some .int)) (rmq 5 104) 0 0 0 := cwV 0 ht (goodV wd2_152 wd2_153 wd2_154 wd1_6 wd2_155) rfl rfl rfl (by decide +kernel) hR
theorem cl_RX8_65 {R : Room} {s : State} {args : Array Value} (ht : ∀ w ∈ lw_all, w.before args s = true) (hR : 3 + 1 ≤ R.frames ∧ 8 + (2 + 11) + 63 ≤ R.locals) : CallW R s args RX8 RX3 65 yX3_become cX3_become 2 none (wsq yX3_become cX3_become 2 none) (rmq 3 63) 0 0 1 := cwV 1 ht (goodV wd2_184 wd2_185 wd2_186 wd1_2 wd2_187) rfl rfl rfl (by decide +kernel) hR
theorem cl_RX8_69 {R : Room} {s : State} {args : Array Value} (ht : ∀ w ∈ lw_all, w.before args s = true) (hR : 5 + 1 ≤ R.frames ∧ 8 + (4 + 11) + 119 ≤ R.locals) : CallW R s args RX8 RX5 69 yX5_tellTo cX5_tellTo 4 (some .int) (wsq yX5_tellTo cX5_tellTo 4 (some .int)) (rmq 5 119) 0 0 1 := cwV 1 ht (goodV wd2_215 wd2_216 wd2_217 wd1_6 wd2_218) rfl rfl rfl (by decide +kernel) hR
theorem cl_RX8_73 {R : Room} {s : State} {args : Array Value} (ht : ∀ w ∈ lw_all, w.before args s = true) (hR : 0 + 1 ≤ R.frames ∧ 8 + (1 + 11) + 0 ≤ R.locals) : CallW R s args RX8 RX5 73 yX5_forget cX5_forget 1 none (wsq yX5_forget cX5_forget 1 none) (rmq 0 0) 0 0 0 := cwV 0 ht (goodV wd3_63 wd3_64 wd3_65 wd1_6 wd3_66) rfl rfl rfl (by decide +kernel) hR
theorem cl_RX8_76 {R : Room} {s : State} {args : Array Value} (ht : ∀ w ∈ lw_all, w.before args s = true) (hR : 0 + 1 ≤ R.frames ∧ 8 + (1 + 11) + 0 ≤ R.locals) : CallW R s args RX8 RX1 76 yX1_forget cX1_forget 1 none (wsq yX1_forget cX1_forget 1 none) (rmq 0 0) 0 0 0 := cwV 0 ht (goodV wd3_67 wd3_68 wd3_69 wd1_5 wd3_70) rfl rfl rfl (by decide +kernel) hR
def f_X8_sheet (M : Mem) : Option (Int32 × Mem) := (bq2 (f_X5_misspelt M) (fun (x1 : Int32) (M2 : Mem) => (bq3 ((if 0 ≤ x1 then (some (x1, (-1000 : Int32), M2)) else (bq1 (f_X3_become 12 1 M2) (fun (M19 : Mem) => bq2 (f_X5_tellTo 12 M19) (fun (x21 : Int32) (M22 : Mem) => (some (x21, (-2000 : Int32), M22)))))) : Option (Int32 × Int32 × Mem)) (fun (x4 : Int32) (x5 : Int32) (M6 : Mem) => (bq1 (f_X5_forget M6) (fun (M8 : Mem) => (if x4 < 0 then (bq1 (f_X3_become 1 12 M8) (fun (M11 : Mem) => bq1 (f_X1_forget M11) (fun (M13 : Mem) => some ((gi M13 124 2), M13)))) else some ((x5 - x4), M8))))))))
set_option maxHeartbeats 4000000 in
set_option maxRecDepth 100000 in
theorem ct_X8_sheet (l : Launch) (G : GG)  {M : Mem} {r : Int32} {Mr : Mem}  (hf : f_X8_sheet M = some (r, Mr)) : Met l yX8_sheet (wsq yX8_sheet cX8_sheet 3 (some .int)) (rmq 6 142) (va_Pc [.ref (G.2.2.1 0)] (World G M)) (Qi G r Mr) 0 0 (adA G) := by
  refine x_start (plainFor_of_name (by decide)) (Nat.le_of_ble_eq_true rfl) ?_
  intro p e s m args below meth c hB hr hlk hW hS ls hl
  have hx := hB.x
  have hb := hB.b
  have hl : lv_has ls 3 [(0, .ref (G.2.2.1 0))] := hl
  unfold f_X8_sheet at hf
  refine lv_aload_n hx hb dX8_sheet_0 rfl (lv_at hl 0 rfl) ?_
  refine fg8_4 hB hW tl0 wd2_95 dX8_sheet_1 ?_
  obtain ⟨x1, M2, hg3, hf⟩ := b_o2 hf
  refine x_ci hB (x_rv hB hW hS (As := []) (rest := []) (ct_X5_misspelt l G hg3) (cl_RX8_61 hB.2.2.2.2.1 ⟨Nat.le_of_ble_eq_true rfl, Nat.le_of_ble_eq_true rfl⟩) tl124 (by decide) rfl rfl hl.1 rfl (Nat.le_of_ble_eq_true rfl) dX8_sheet_4 ⟨Nat.le_refl _, Nat.le_refl _⟩) hS (fun H locs hW hS => ?_)
  refine lv_istore_n (lv' := [(1, .int x1), (0, .ref (G.2.2.1 0))]) hx hb dX8_sheet_7 rfl hl (by decide) rfl (fun ls hl => ?_)
  refine lv_sipush (v := (-1000 : Int32)) hx hb dX8_sheet_8 (by decide) ?_
  refine lv_istore_n (lv' := [(2, .int (-1000 : Int32)), (1, .int x1), (0, .ref (G.2.2.1 0))]) hx hb dX8_sheet_11 rfl hl (by decide) rfl (fun ls hl => ?_)
  refine lv_iload_n hx hb dX8_sheet_12 rfl (lv_at hl 1 rfl) ?_
  obtain ⟨y15, y16, M17, hR, hf⟩ := b_o3 hf
  have main7 : ∀ (x4 : Int32) (x5 : Int32) (M6 : Mem) (H : Heap) (locs : List Loc) (ls : Array Slot), Wd G M6 H → va_S (adA G) s.heap H locs → lv_has ls 3 [(0, .ref (G.2.2.1 0)), (1, .int x4), (2, .int x5)] → some (x4, x5, M6) = some (y15, y16, M17) → W p l e (rmq 6 142) s m args below meth c H locs 0 0 (MQ below (Qi G r Mr) args s 0 0 (adA G)) (F0 m 43 ls []) := by
    intro x4 x5 M6 H locs ls hW hS hl hE
    cases hE
    refine lv_aload_n hx hb dX8_sheet_43 rfl (lv_at hl 0 rfl) ?_
    refine fg8_4 hB hW tl0 wd2_95 dX8_sheet_44 ?_
    obtain ⟨M8, hg9, hf⟩ := b_o1 hf
    refine x_cv hB (x_rv hB hW hS (As := []) (rest := []) (ct_X5_forget l G hg9) (cl_RX8_73 hB.2.2.2.2.1 ⟨Nat.le_of_ble_eq_true rfl, Nat.le_of_ble_eq_true rfl⟩) tl124 (by decide) rfl rfl hl.1 rfl (Nat.le_of_ble_eq_true rfl) dX8_sheet_47 ⟨Nat.le_refl _, Nat.le_refl _⟩) hS (fun H locs hW hS => ?_)
    refine lv_iload_n hx hb dX8_sheet_50 rfl (lv_at hl 1 rfl) ?_
    refine lv_if_lt (tgt := 58) hx hb dX8_sheet_51 (by decide) (fun c10 => ?_) (fun c10 => ?_)
    · have hf := i_t hf c10
      refine lv_aload_n hx hb dX8_sheet_58 rfl (lv_at hl 0 rfl) ?_
      refine fg8_0 hB hW tl0 wd2_91 dX8_sheet_59 ?_
      refine lv_aload_n hx hb dX8_sheet_62 rfl (lv_at hl 0 rfl) ?_
      refine fg8_1 hB hW tl0 wd2_92 dX8_sheet_63 ?_
      obtain ⟨M11, hg12, hf⟩ := b_o1 hf
      refine x_cv hB (x_rv hB hW hS (As := [.ref (G.2.2.1 12)]) (rest := []) (ct_X3_become l G tl1 tl12 hg12) (cl_RX8_65 hB.2.2.2.2.1 ⟨Nat.le_of_ble_eq_true rfl, Nat.le_of_ble_eq_true rfl⟩) tl1 (by decide) rfl rfl hl.1 rfl (Nat.le_of_ble_eq_true rfl) dX8_sheet_66 ⟨Nat.le_refl _, Nat.le_refl _⟩) hS (fun H locs hW hS => ?_)
      refine lv_aload_n hx hb dX8_sheet_69 rfl (lv_at hl 0 rfl) ?_
      refine fg8_3 hB hW tl0 wd2_94 dX8_sheet_70 ?_
      obtain ⟨M13, hg14, hf⟩ := b_o1 hf
      refine x_cv hB (x_rv hB hW hS (As := []) (rest := []) (ct_X1_forget l G hg14) (cl_RX8_76 hB.2.2.2.2.1 ⟨Nat.le_of_ble_eq_true rfl, Nat.le_of_ble_eq_true rfl⟩) tl34 (by decide) rfl rfl hl.1 rfl (Nat.le_of_ble_eq_true rfl) dX8_sheet_73 ⟨Nat.le_refl _, Nat.le_refl _⟩) hS (fun H locs hW hS => ?_)
      refine lv_aload_n hx hb dX8_sheet_76 rfl (lv_at hl 0 rfl) ?_
      refine fg8_4 hB hW tl0 wd2_95 dX8_sheet_77 ?_
      refine fg5_2 hB hW tl124 wd1_188 dX8_sheet_80 ?_
      exact e_i hB hW hS hr hlk (s_1 hf) (s_2 hf) dX8_sheet_83
    · have hf := i_f hf c10
      refine lv_iload_n hx hb dX8_sheet_54 rfl (lv_at hl 2 rfl) ?_
      refine lv_iload_n hx hb dX8_sheet_55 rfl (lv_at hl 1 rfl) ?_
      refine lv_isub hx hb dX8_sheet_56 ?_
      exact e_i hB hW hS hr hlk (s_1 hf) (s_2 hf) dX8_sheet_57
  have hf := hR
  refine lv_if_ge (tgt := 43) hx hb dX8_sheet_13 (by decide) (fun c18 => ?_) (fun c18 => ?_)
  · have hf := i_t hf c18
    exact main7 x1 (-1000 : Int32) M2 _ _ ls hW hS (lv_sub hl [2, 1, 0] rfl) hf
  · have hf := i_f hf c18
    refine lv_aload_n hx hb dX8_sheet_16 rfl (lv_at hl 2 rfl) ?_
    refine fg8_1 hB hW tl0 wd2_92 dX8_sheet_17 ?_
    refine lv_aload_n hx hb dX8_sheet_20 rfl (lv_at hl 2 rfl) ?_
    refine fg8_0 hB hW tl0 wd2_91 dX8_sheet_21 ?_
    obtain ⟨M19, hg20, hf⟩ := b_o1 hf
    refine x_cv hB (x_rv hB hW hS (As := [.ref (G.2.2.1 1)]) (rest := []) (ct_X3_become l G tl12 tl1 hg20) (cl_RX8_65 hB.2.2.2.2.1 ⟨Nat.le_of_ble_eq_true rfl, Nat.le_of_ble_eq_true rfl⟩) tl12 (by decide) rfl rfl hl.1 rfl (Nat.le_of_ble_eq_true rfl) dX8_sheet_24 ⟨Nat.le_refl _, Nat.le_refl _⟩) hS (fun H locs hW hS => ?_)
    refine lv_aload_n hx hb dX8_sheet_27 rfl (lv_at hl 2 rfl) ?_
    refine fg8_4 hB hW tl0 wd2_95 dX8_sheet_28 ?_
    refine lv_aload_n hx hb dX8_sheet_31 rfl (lv_at hl 2 rfl) ?_
    refine fg8_1 hB hW tl0 wd2_92 dX8_sheet_32 ?_
    obtain ⟨x21, M22, hg23, hf⟩ := b_o2 hf
    refine x_ci hB (x_rv hB hW hS (As := [.ref (G.2.2.1 12)]) (rest := []) (ct_X5_tellTo l G tl12 hg23) (cl_RX8_69 hB.2.2.2.2.1 ⟨Nat.le_of_ble_eq_true rfl, Nat.le_of_ble_eq_true rfl⟩) tl124 (by decide) rfl rfl hl.1 rfl (Nat.le_of_ble_eq_true rfl) dX8_sheet_35 ⟨Nat.le_refl _, Nat.le_refl _⟩) hS (fun H locs hW hS => ?_)
    refine lv_istore_n (lv' := [(1, .int x21), (2, .int (-1000 : Int32)), (0, .ref (G.2.2.1 0))]) hx hb dX8_sheet_38 rfl hl (by decide) rfl (fun ls hl => ?_)
    refine lv_sipush (v := (-2000 : Int32)) hx hb dX8_sheet_39 (by decide) ?_
    refine lv_istore_n (lv' := [(2, .int (-2000 : Int32)), (1, .int x21), (0, .ref (G.2.2.1 0))]) hx hb dX8_sheet_42 rfl hl (by decide) rfl (fun ls hl => ?_)
    exact main7 x21 (-2000 : Int32) M22 _ _ ls hW hS (lv_sub hl [2, 1, 0] rfl) hf
def f_X8_isLetter (p1 : Int32) : Option Int32 := (if p1 < 0 then some (0 : Int32) else (if (8 : Int32) ≤ p1 then some (0 : Int32) else some (1 : Int32)))
set_option maxHeartbeats 4000000 in
set_option maxRecDepth 100000 in
theorem ct_X8_isLetter (l : Launch) (G : GG) {p1 : Int32} {M : Mem} {r : Int32}  (hf : f_X8_isLetter p1 = some r) : Met l yX8_isLetter (wsq yX8_isLetter cX8_isLetter 1 (some .boolean)) (rmq 0 0) (va_Pc [.int p1] (World G M)) (Qi G r M) 0 0 (adA G) := by
  refine x_start (plainFor_of_name (by decide)) (Nat.le_of_ble_eq_true rfl) ?_
  intro p e s m args below meth c hB hr hlk hW hS ls hl
  have hx := hB.x
  have hb := hB.b
  have hl : lv_has ls 1 [(0, .int p1)] := hl
  unfold f_X8_isLetter at hf
  refine lv_iload_n hx hb dX8_isLetter_0 rfl (lv_at hl 0 rfl) ?_
  refine lv_if_lt (tgt := 16) hx hb dX8_isLetter_1 (by decide) (fun c1 => ?_) (fun c1 => ?_)
  · have hf := i_t hf c1
    refine lv_iconst (v := (0 : Int32)) hx hb dX8_isLetter_16 (by decide) ?_
    exact e_z (by decide) hB hW hS hr hlk (Option.some.inj hf) rfl dX8_isLetter_17
  · have hf := i_f hf c1
    refine lv_iload_n hx hb dX8_isLetter_4 rfl (lv_at hl 0 rfl) ?_
    refine x_fwget hB hS wd3_78 dX8_isLetter_5 ?_
    refine x_fwlen hB hS dX8_isLetter_8 ?_
    refine lv_icmp_ge (tgt := 16) hx hb dX8_isLetter_9 (by decide) (fun c2 => ?_) (fun c2 => ?_)
    · have hf := i_t hf c2
      refine lv_iconst (v := (0 : Int32)) hx hb dX8_isLetter_16 (by decide) ?_
      exact e_z (by decide) hB hW hS hr hlk (Option.some.inj hf) rfl dX8_isLetter_17
    · have hf := i_f hf c2
      refine lv_iconst (v := (1 : Int32)) hx hb dX8_isLetter_12 (by decide) ?_
      refine lv_goto (tgt := 17) hx hb dX8_isLetter_13 (by decide) ?_
      exact e_z (by decide) hB hW hS hr hlk (Option.some.inj hf) rfl dX8_isLetter_17
def f_X1_slotAt (p1 : Int32) (M : Mem) : Option (Option Nat) := (nmq ((irm ((gi M 34 1) + p1) (8 : Int32))) (fun (x1 : Int32) => (if x1 < 0 then some none else (if (8 : Int32) ≤ x1 then some none else (gq (inB x1 8) (some (some (36 + 11 * (x1 : Int32).toNatClampNeg))))))))
set_option maxHeartbeats 4000000 in
set_option maxRecDepth 100000 in
theorem ct_X1_slotAt (l : Launch) (G : GG) {p1 : Int32} {M : Mem} {r : Option Nat}  (hf : f_X1_slotAt p1 M = some r) : Met l yX1_slotAt (wsq yX1_slotAt cX1_slotAt 3 (some (.object "LinesOfFragments$Paragraph"))) (rmq 0 0) (va_Pc [.ref (G.2.2.1 34), .int p1] (World G M)) (Qn G r M) 0 0 (adA G) := by
  refine x_start (plainFor_of_name (by decide)) (Nat.le_of_ble_eq_true rfl) ?_
  intro p e s m args below meth c hB hr hlk hW hS ls hl
  have hx := hB.x
  have hb := hB.b
  have hl : lv_has ls 3 [(0, .ref (G.2.2.1 34)), (1, .int p1)] := hl
  unfold f_X1_slotAt at hf
  refine lv_aload_n hx hb dX1_slotAt_0 rfl (lv_at hl 0 rfl) ?_
  refine fg1_1 hB hW tl34 wd1_169 dX1_slotAt_1 ?_
  refine lv_iload_n hx hb dX1_slotAt_4 rfl (lv_at hl 1 rfl) ?_
  refine lv_iadd hx hb dX1_slotAt_5 ?_
  refine lv_bipush (v := (8 : Int32)) hx hb dX1_slotAt_6 (by decide) ?_
  refine lv_irem hx hb dX1_slotAt_8 (by decide) ?_
  refine lv_topi (fun x1 ex1 => ?_)
  have hf := nm_o hf ex1
  refine lv_istore_n (lv' := [(2, .int x1), (0, .ref (G.2.2.1 34)), (1, .int p1)]) hx hb dX1_slotAt_9 rfl hl (by decide) rfl (fun ls hl => ?_)
  refine lv_iload_n hx hb dX1_slotAt_10 rfl (lv_at hl 0 rfl) ?_
  refine lv_if_lt (tgt := 32) hx hb dX1_slotAt_11 (by decide) (fun c2 => ?_) (fun c2 => ?_)
  · have hf := i_t hf c2
    refine lv_null hx hb dX1_slotAt_32 ?_
    exact e_n none hB hW hS hr hlk (Option.some.inj hf) dX1_slotAt_33
  · have hf := i_f hf c2
    refine lv_iload_n hx hb dX1_slotAt_14 rfl (lv_at hl 0 rfl) ?_
    refine lv_aload_n hx hb dX1_slotAt_15 rfl (lv_at hl 1 rfl) ?_
    refine fg1_0 hB hW tl34 wd1_168 dX1_slotAt_16 ?_
    refine x_alen hB hW tl35 (by decide) al35 (v := (8 : Int32)) rfl dX1_slotAt_19 ?_
    refine lv_icmp_ge (tgt := 32) hx hb dX1_slotAt_20 (by decide) (fun c3 => ?_) (fun c3 => ?_)
    · have hf := i_t hf c3
      refine lv_null hx hb dX1_slotAt_32 ?_
      exact e_n none hB hW hS hr hlk (Option.some.inj hf) dX1_slotAt_33
    · have hf := i_f hf c3
      refine lv_aload_n hx hb dX1_slotAt_23 rfl (lv_at hl 1 rfl) ?_
      refine fg1_0 hB hW tl34 wd1_168 dX1_slotAt_24 ?_
      refine lv_iload_n hx hb dX1_slotAt_27 rfl (lv_at hl 0 rfl) ?_
      obtain ⟨h4, hf⟩ := g_o hf
      refine x_aald hB hW tl35 al35 h4 dX1_slotAt_28 ?_
      refine lv_goto (tgt := 33) hx hb dX1_slotAt_29 (by decide) ?_
      exact e_n (some (36 + 11 * (x1 : Int32).toNatClampNeg)) hB hW hS hr hlk (Option.some.inj hf) dX1_slotAt_33
theorem cl_RX1_25 {R : Room} {s : State} {args : Array Value} (ht : ∀ w ∈ lw_all, w.before args s = true) (hR : 0 + 1 ≤ R.frames ∧ 8 + (3 + 11) + 0 ≤ R.locals) : CallW R s args RX1 RX1 25 yX1_slotAt cX1_slotAt 3 (some (.object "LinesOfFragments$Paragraph")) (wsq yX1_slotAt cX1_slotAt 3 (some (.object "LinesOfFragments$Paragraph"))) (rmq 0 0) 0 0 1 := cwV 1 ht (goodV wd3_84 wd3_86 wsel_18 wd1_5 wd3_87) rfl rfl rfl (by decide +kernel) hR
theorem cl_RX1_29 {R : Room} {s : State} {args : Array Value} (ht : ∀ w ∈ lw_all, w.before args s = true) (hR : 3 + 1 ≤ R.frames ∧ 8 + (2 + 11) + 63 ≤ R.locals) : CallW R s args RX1 RX3 29 yX3_become cX3_become 2 none (wsq yX3_become cX3_become 2 none) (rmq 3 63) 0 0 1 := cwV 1 ht (goodV wd3_88 wd2_185 wd2_186 wd1_2 wd2_187) rfl rfl rfl (by decide +kernel) hR
def f_X1_remember (k1 : Nat) (M : Mem) : Option Mem := (bq1 ((if (gi M 34 2) = (8 : Int32) then (nmq (si M 34 1 (irm ((gi M 34 1) + (1 : Int32)) (8 : Int32))) (fun (M19 : Mem) => nmq (si M19 34 2 ((gi M19 34 2) - (1 : Int32))) (fun (M20 : Mem) => (some (M20))))) else (some (M))) : Option (Mem)) (fun (M1 : Mem) => (bq1 (f_X1_slotAt (gi M1 34 2) M1) (fun (x3 : Option Nat) => oq x3 ((bq1 ((some (M1)) : Option (Mem)) (fun (M7 : Mem) => (nmq (si M7 34 2 ((gi M7 34 2) + (1 : Int32))) (fun (M9 : Mem) => some M9))))) (fun (k5 : Nat) => gq (dT 3 k5) ((bq1 ((bq1 (f_X3_become k5 k1 M1) (fun (M15 : Mem) => (some (M15)))) : Option (Mem)) (fun (M11 : Mem) => (nmq (si M11 34 2 ((gi M11 34 2) + (1 : Int32))) (fun (M13 : Mem) => some M13))))))))))
set_option maxHeartbeats 4000000 in
set_option maxRecDepth 100000 in
theorem ct_X1_remember (l : Launch) (G : GG) {k1 : Nat} {M : Mem} {Mr : Mem} (hk1 : isT 3 k1) (hf : f_X1_remember k1 M = some Mr) : Met l yX1_remember (wsq yX1_remember cX1_remember 3 none) (rmq 4 84) (va_Pc [.ref (G.2.2.1 34), .ref (G.2.2.1 k1)] (World G M)) (Qv G Mr) 0 0 (adA G) := by
  refine x_start (plainFor_of_name (by decide)) (Nat.le_of_ble_eq_true rfl) ?_
  intro p e s m args below meth c hB hr hlk hW hS ls hl
  have hx := hB.x
  have hb := hB.b
  have hl : lv_has ls 3 [(0, .ref (G.2.2.1 34)), (1, .ref (G.2.2.1 k1))] := hl
  unfold f_X1_remember at hf
  refine lv_aload_n hx hb dX1_remember_0 rfl (lv_at hl 0 rfl) ?_
  refine fg1_2 hB hW tl34 wd1_170 dX1_remember_1 ?_
  refine lv_bipush (v := (8 : Int32)) hx hb dX1_remember_4 (by decide) ?_
  obtain ⟨M17, hR, hf⟩ := b_o1 hf
  have main2 : ∀ (M1 : Mem) (H : Heap) (locs : List Loc) (ls : Array Slot), Wd G M1 H → va_S (adA G) s.heap H locs → lv_has ls 3 [(0, .ref (G.2.2.1 34)), (1, .ref (G.2.2.1 k1))] → some (M1) = some (M17) → W p l e (rmq 4 84) s m args below meth c H locs 0 0 (MQ below (Qv G Mr) args s 0 0 (adA G)) (F0 m 32 ls []) := by
    intro M1 H locs ls hW hS hl hE
    cases hE
    refine lv_aload_n hx hb dX1_remember_32 rfl (lv_at hl 0 rfl) ?_
    refine lv_aload_n hx hb dX1_remember_33 rfl (lv_at hl 0 rfl) ?_
    refine fg1_2 hB hW tl34 wd1_170 dX1_remember_34 ?_
    obtain ⟨x3, hg4, hf⟩ := b_o1 hf
    refine x_cn hB (x_rv hB hW hS (As := [.int (gi M17 34 2)]) (rest := []) (ct_X1_slotAt l G hg4) (cl_RX1_25 hB.2.2.2.2.1 ⟨Nat.le_of_ble_eq_true rfl, Nat.le_of_ble_eq_true rfl⟩) tl34 (by decide) rfl rfl hl.1 rfl (Nat.le_of_ble_eq_true rfl) dX1_remember_37 ⟨Nat.le_refl _, Nat.le_refl _⟩) hS (fun H locs hW hS => ?_)
    cases x3 with
    | none =>
      have hf := o_n hf
      refine lv_astore_nN (lv' := [(2, .null), (0, .ref (G.2.2.1 34)), (1, .ref (G.2.2.1 k1))]) hx hb dX1_remember_40 rfl hl (by decide) rfl (fun ls hl => ?_)
      refine lv_aload_nN hx hb dX1_remember_41 rfl (lv_at hl 0 rfl) ?_
      obtain ⟨M10, hR, hf⟩ := b_o1 hf
      have main8 : ∀ (M7 : Mem) (H : Heap) (locs : List Loc) (ls : Array Slot), Wd G M7 H → va_S (adA G) s.heap H locs → lv_has ls 3 [(0, .ref (G.2.2.1 34))] → some (M7) = some (M10) → W p l e (rmq 4 84) s m args below meth c H locs 0 0 (MQ below (Qv G Mr) args s 0 0 (adA G)) (F0 m 50 ls []) := by
        intro M7 H locs ls hW hS hl hE
        cases hE
        refine lv_aload_n hx hb dX1_remember_50 rfl (lv_at hl 0 rfl) ?_
        refine lv_dup hx hb dX1_remember_51 rfl ?_
        refine fg1_2 hB hW tl34 wd1_170 dX1_remember_52 ?_
        refine lv_iconst (v := (1 : Int32)) hx hb dX1_remember_55 (by decide) ?_
        refine lv_iadd hx hb dX1_remember_56 ?_
        refine fp1_2 hB hW hS tl34 wd1_170 dX1_remember_57 (fun H locs M9 eM9 hW hS => ?_)
        have hf := nm_o hf eM9
        exact e_v hB hW hS hr hlk (Option.some.inj hf) dX1_remember_60
      have hf := hR
      refine lv_ifnullN (tgt := 50) hx hb dX1_remember_42 (by decide) ?_
      exact main8 M17 _ _ ls hW hS (lv_sub hl [1] rfl) hf
    | some k5 =>
      have hf := o_s hf
      obtain ⟨hq6, hf⟩ := g_o hf
      refine lv_astore_n (lv' := [(2, .ref (G.2.2.1 k5)), (0, .ref (G.2.2.1 34)), (1, .ref (G.2.2.1 k1))]) hx hb dX1_remember_40 rfl hl (by decide) rfl (fun ls hl => ?_)
      refine lv_aload_n hx hb dX1_remember_41 rfl (lv_at hl 0 rfl) ?_
      obtain ⟨M14, hR, hf⟩ := b_o1 hf
      have main12 : ∀ (M11 : Mem) (H : Heap) (locs : List Loc) (ls : Array Slot), Wd G M11 H → va_S (adA G) s.heap H locs → lv_has ls 3 [(0, .ref (G.2.2.1 34))] → some (M11) = some (M14) → W p l e (rmq 4 84) s m args below meth c H locs 0 0 (MQ below (Qv G Mr) args s 0 0 (adA G)) (F0 m 50 ls []) := by
        intro M11 H locs ls hW hS hl hE
        cases hE
        refine lv_aload_n hx hb dX1_remember_50 rfl (lv_at hl 0 rfl) ?_
        refine lv_dup hx hb dX1_remember_51 rfl ?_
        refine fg1_2 hB hW tl34 wd1_170 dX1_remember_52 ?_
        refine lv_iconst (v := (1 : Int32)) hx hb dX1_remember_55 (by decide) ?_
        refine lv_iadd hx hb dX1_remember_56 ?_
        refine fp1_2 hB hW hS tl34 wd1_170 dX1_remember_57 (fun H locs M13 eM13 hW hS => ?_)
        have hf := nm_o hf eM13
        exact e_v hB hW hS hr hlk (Option.some.inj hf) dX1_remember_60
      have hf := hR
      refine lv_ifnull hx hb dX1_remember_42 ?_
      refine lv_aload_n hx hb dX1_remember_45 rfl (lv_at hl 0 rfl) ?_
      refine lv_aload_n hx hb dX1_remember_46 rfl (lv_at hl 2 rfl) ?_
      obtain ⟨M15, hg16, hf⟩ := b_o1 hf
      refine x_cv hB (x_rv hB hW hS (As := [.ref (G.2.2.1 k1)]) (rest := []) (ct_X3_become l G hq6 hk1 hg16) (cl_RX1_29 hB.2.2.2.2.1 ⟨Nat.le_of_ble_eq_true rfl, Nat.le_of_ble_eq_true rfl⟩) hq6 (by decide) rfl rfl hl.1 rfl (Nat.le_of_ble_eq_true rfl) dX1_remember_47 ⟨Nat.le_refl _, Nat.le_refl _⟩) hS (fun H locs hW hS => ?_)
      exact main12 M15 _ _ ls hW hS (lv_sub hl [1] rfl) hf
  have hf := hR
  refine lv_icmp_ne (tgt := 32) hx hb dX1_remember_6 (by decide) (fun c18 => ?_) (fun c18 => ?_)
  · have hf := i_f hf c18
    exact main2 M _ _ ls hW hS (lv_sub hl [0, 1] rfl) hf
  · have hf := i_t hf c18
    refine lv_aload_n hx hb dX1_remember_9 rfl (lv_at hl 0 rfl) ?_
    refine lv_aload_n hx hb dX1_remember_10 rfl (lv_at hl 0 rfl) ?_
    refine fg1_1 hB hW tl34 wd1_169 dX1_remember_11 ?_
    refine lv_iconst (v := (1 : Int32)) hx hb dX1_remember_14 (by decide) ?_
    refine lv_iadd hx hb dX1_remember_15 ?_
    refine lv_bipush (v := (8 : Int32)) hx hb dX1_remember_16 (by decide) ?_
    refine lv_irem hx hb dX1_remember_18 (by decide) ?_
    refine fp1_1 hB hW hS tl34 wd1_169 dX1_remember_19 (fun H locs M19 eM19 hW hS => ?_)
    have hf := nm_o hf eM19
    refine lv_aload_n hx hb dX1_remember_22 rfl (lv_at hl 0 rfl) ?_
    refine lv_dup hx hb dX1_remember_23 rfl ?_
    refine fg1_2 hB hW tl34 wd1_170 dX1_remember_24 ?_
    refine lv_iconst (v := (1 : Int32)) hx hb dX1_remember_27 (by decide) ?_
    refine lv_isub hx hb dX1_remember_28 ?_
    refine fp1_2 hB hW hS tl34 wd1_170 dX1_remember_29 (fun H locs M20 eM20 hW hS => ?_)
    have hf := nm_o hf eM20
    exact main2 M20 _ _ ls hW hS (lv_sub hl [0, 1] rfl) hf
theorem cl_RX8_81 {R : Room} {s : State} {args : Array Value} (ht : ∀ w ∈ lw_all, w.before args s = true) (hR : 0 + 1 ≤ R.frames ∧ 8 + (1 + 11) + 0 ≤ R.locals) : CallB R s args RX8 81 yX8_isLetter cX8_isLetter 1 (some .boolean) (wsq yX8_isLetter cX8_isLetter 1 (some .boolean)) (rmq 0 0) 0 0 1 ∧ (Cond.static yX8_isLetter).before args s = true := va_cwS 1 ht (goodS wd3_75 wd3_76 wd1_1 wd3_77) rfl rfl rfl (by decide +kernel) hR
theorem cl_RX8_85 {R : Room} {s : State} {args : Array Value} (ht : ∀ w ∈ lw_all, w.before args s = true) (hR : 0 + 1 ≤ R.frames ∧ 8 + (3 + 11) + 0 ≤ R.locals) : CallB R s args RX8 85 yX8_outside cX8_outside 3 (some .int) (wsq yX8_outside cX8_outside 3 (some .int)) (rmq 0 0) 0 0 3 ∧ (Cond.static yX8_outside).before args s = true := va_cwS 3 ht (goodS wd3_79 wd3_61 wd1_1 wd3_62) rfl rfl rfl (by decide +kernel) hR
theorem cl_RX8_89 {R : Room} {s : State} {args : Array Value} (ht : ∀ w ∈ lw_all, w.before args s = true) (hR : 4 + 1 ≤ R.frames ∧ 8 + (3 + 11) + 84 ≤ R.locals) : CallW R s args RX8 RX1 89 yX1_remember cX1_remember 3 none (wsq yX1_remember cX1_remember 3 none) (rmq 4 84) 0 0 1 := cwV 1 ht (goodV wd3_80 wd3_81 wd3_82 wd1_5 wd3_83) rfl rfl rfl (by decide +kernel) hR
def f_X8_widens (p1 : Int32) (p2 : Int32) (M : Mem) : Option (Int32 × Mem) := (bq1 (f_X8_isLetter p1) (fun (x1 : Int32) => (if x1 = 0 then (bq2 (f_X8_refuse (-1 : Int32) M) (fun (x16 : Int32) (M17 : Mem) => some (x16, M17))) else (bq1 (f_X8_outside p2 (2 : Int32) (9 : Int32)) (fun (x4 : Int32) => (if x4 = 0 then (bq1 (f_X1_remember 1 M) (fun (M7 : Mem) => bq1 (f_X8_at 2 p1 M7) (fun (x9 : Int32) => bq1 (f_X8_put 2 p1 p2 M7) (fun (M11 : Mem) => some (x9, M11))))) else (bq2 (f_X8_refuse x4 M) (fun (x13 : Int32) (M14 : Mem) => some (x13, M14)))))))))
set_option maxHeartbeats 4000000 in
set_option maxRecDepth 100000 in
theorem ct_X8_widens (l : Launch) (G : GG) {p1 : Int32} {p2 : Int32} {M : Mem} {r : Int32} {Mr : Mem}  (hf : f_X8_widens p1 p2 M = some (r, Mr)) : Met l yX8_widens (wsq yX8_widens cX8_widens 5 (some .int)) (rmq 5 106) (va_Pc [.ref (G.2.2.1 0), .int p1, .int p2] (World G M)) (Qi G r Mr) 0 0 (adA G) := by
  refine x_start (plainFor_of_name (by decide)) (Nat.le_of_ble_eq_true rfl) ?_
  intro p e s m args below meth c hB hr hlk hW hS ls hl
  have hx := hB.x
  have hb := hB.b
  have hl : lv_has ls 5 [(0, .ref (G.2.2.1 0)), (1, .int p1), (2, .int p2)] := hl
  unfold f_X8_widens at hf
  refine lv_iload_n hx hb dX8_widens_0 rfl (lv_at hl 1 rfl) ?_
  obtain ⟨x1, hg2, hf⟩ := b_o1 hf
  refine x_ci hB (x_rs hB hW hS (As := [.int p1]) (rest := []) (ct_X8_isLetter l G hg2) (cl_RX8_81 hB.2.2.2.2.1 ⟨Nat.le_of_ble_eq_true rfl, Nat.le_of_ble_eq_true rfl⟩) rfl hl.1 rfl (Nat.le_of_ble_eq_true rfl) dX8_widens_1 ⟨Nat.le_refl _, Nat.le_refl _⟩) hS (fun H locs hW hS => ?_)
  refine lv_if_ne (tgt := 13) hx hb dX8_widens_4 (by decide) (fun c3 => ?_) (fun c3 => ?_)
  · have hf := i_f hf c3
    refine lv_iload_n hx hb dX8_widens_13 rfl (lv_at hl 2 rfl) ?_
    refine lv_iconst (v := (2 : Int32)) hx hb dX8_widens_14 (by decide) ?_
    refine lv_bipush (v := (9 : Int32)) hx hb dX8_widens_15 (by decide) ?_
    obtain ⟨x4, hg5, hf⟩ := b_o1 hf
    refine x_ci hB (x_rs hB hW hS (As := [.int p2, .int (2 : Int32), .int (9 : Int32)]) (rest := []) (ct_X8_outside l G hg5) (cl_RX8_85 hB.2.2.2.2.1 ⟨Nat.le_of_ble_eq_true rfl, Nat.le_of_ble_eq_true rfl⟩) rfl hl.1 rfl (Nat.le_of_ble_eq_true rfl) dX8_widens_17 ⟨Nat.le_refl _, Nat.le_refl _⟩) hS (fun H locs hW hS => ?_)
    refine lv_istore_n (lv' := [(3, .int x4), (0, .ref (G.2.2.1 0)), (1, .int p1), (2, .int p2)]) hx hb dX8_widens_20 rfl hl (by decide) rfl (fun ls hl => ?_)
    refine lv_iload_n hx hb dX8_widens_21 rfl (lv_at hl 0 rfl) ?_
    refine lv_if_eq (tgt := 31) hx hb dX8_widens_22 (by decide) (fun c6 => ?_) (fun c6 => ?_)
    · have hf := i_t hf c6
      refine lv_aload_n hx hb dX8_widens_31 rfl (lv_at hl 1 rfl) ?_
      refine fg8_3 hB hW tl0 wd2_94 dX8_widens_32 ?_
      refine lv_aload_n hx hb dX8_widens_35 rfl (lv_at hl 1 rfl) ?_
      refine fg8_0 hB hW tl0 wd2_91 dX8_widens_36 ?_
      obtain ⟨M7, hg8, hf⟩ := b_o1 hf
      refine x_cv hB (x_rv hB hW hS (As := [.ref (G.2.2.1 1)]) (rest := []) (ct_X1_remember l G tl1 hg8) (cl_RX8_89 hB.2.2.2.2.1 ⟨Nat.le_of_ble_eq_true rfl, Nat.le_of_ble_eq_true rfl⟩) tl34 (by decide) rfl rfl hl.1 rfl (Nat.le_of_ble_eq_true rfl) dX8_widens_39 ⟨Nat.le_refl _, Nat.le_refl _⟩) hS (fun H locs hW hS => ?_)
      refine lv_aload_n hx hb dX8_widens_42 rfl (lv_at hl 1 rfl) ?_
      refine fg8_0 hB hW tl0 wd2_91 dX8_widens_43 ?_
      refine fg3_0 hB hW tl1 wd1_91 dX8_widens_46 ?_
      refine lv_iload_n hx hb dX8_widens_49 rfl (lv_at hl 2 rfl) ?_
      obtain ⟨x9, hg10, hf⟩ := b_o1 hf
      refine x_ci hB (x_rs hB hW hS (As := [.ref (G.2.2.1 2), .int p1]) (rest := []) (ct_X8_at l G tl2 hg10) (cl_RX8_95 hB.2.2.2.2.1 ⟨Nat.le_of_ble_eq_true rfl, Nat.le_of_ble_eq_true rfl⟩) rfl hl.1 rfl (Nat.le_of_ble_eq_true rfl) dX8_widens_50 ⟨Nat.le_refl _, Nat.le_refl _⟩) hS (fun H locs hW hS => ?_)
      refine lv_istore (lv' := [(4, .int x9), (3, .int x4), (0, .ref (G.2.2.1 0)), (1, .int p1), (2, .int p2)]) hx hb dX8_widens_53 hl (by decide) rfl (fun ls hl => ?_)
      refine lv_aload_n hx hb dX8_widens_55 rfl (lv_at hl 2 rfl) ?_
      refine fg8_0 hB hW tl0 wd2_91 dX8_widens_56 ?_
      refine fg3_0 hB hW tl1 wd1_91 dX8_widens_59 ?_
      refine lv_iload_n hx hb dX8_widens_62 rfl (lv_at hl 3 rfl) ?_
      refine lv_iload_n hx hb dX8_widens_63 rfl (lv_at hl 4 rfl) ?_
      obtain ⟨M11, hg12, hf⟩ := b_o1 hf
      refine x_cv hB (x_rs hB hW hS (As := [.ref (G.2.2.1 2), .int p1, .int p2]) (rest := []) (ct_X8_put l G tl2 hg12) (cl_RX8_99 hB.2.2.2.2.1 ⟨Nat.le_of_ble_eq_true rfl, Nat.le_of_ble_eq_true rfl⟩) rfl hl.1 rfl (Nat.le_of_ble_eq_true rfl) dX8_widens_64 ⟨Nat.le_refl _, Nat.le_refl _⟩) hS (fun H locs hW hS => ?_)
      refine lv_iload hx hb dX8_widens_67 (lv_at hl 0 rfl) ?_
      exact e_i hB hW hS hr hlk (s_1 hf) (s_2 hf) dX8_widens_69
    · have hf := i_f hf c6
      refine lv_aload_n hx hb dX8_widens_25 rfl (lv_at hl 1 rfl) ?_
      refine lv_iload_n hx hb dX8_widens_26 rfl (lv_at hl 0 rfl) ?_
      obtain ⟨x13, M14, hg15, hf⟩ := b_o2 hf
      refine x_ci hB (x_rv hB hW hS (As := [.int x4]) (rest := []) (ct_X8_refuse l G hg15) (cl_RX8_50 hB.2.2.2.2.1 ⟨Nat.le_of_ble_eq_true rfl, Nat.le_of_ble_eq_true rfl⟩) tl0 (by decide) rfl rfl hl.1 rfl (Nat.le_of_ble_eq_true rfl) dX8_widens_27 ⟨Nat.le_refl _, Nat.le_refl _⟩) hS (fun H locs hW hS => ?_)
      exact e_i hB hW hS hr hlk (s_1 hf) (s_2 hf) dX8_widens_30
  · have hf := i_t hf c3
    refine lv_aload_n hx hb dX8_widens_7 rfl (lv_at hl 0 rfl) ?_
    refine lv_iconst (v := (-1 : Int32)) hx hb dX8_widens_8 (by decide) ?_
    obtain ⟨x16, M17, hg18, hf⟩ := b_o2 hf
    refine x_ci hB (x_rv hB hW hS (As := [.int (-1 : Int32)]) (rest := []) (ct_X8_refuse l G hg18) (cl_RX8_50 hB.2.2.2.2.1 ⟨Nat.le_of_ble_eq_true rfl, Nat.le_of_ble_eq_true rfl⟩) tl0 (by decide) rfl rfl hl.1 rfl (Nat.le_of_ble_eq_true rfl) dX8_widens_9 ⟨Nat.le_refl _, Nat.le_refl _⟩) hS (fun H locs hW hS => ?_)
    exact e_i hB hW hS hr hlk (s_1 hf) (s_2 hf) dX8_widens_12
def f_X8_isLetterOrNone (p1 : Int32) : Option Int32 := (if p1 = (-1 : Int32) then some (1 : Int32) else (bq1 (f_X8_isLetter p1) (fun (x2 : Int32) => (if x2 = 0 then some (0 : Int32) else some (1 : Int32)))))
set_option maxHeartbeats 4000000 in
set_option maxRecDepth 100000 in
theorem ct_X8_isLetterOrNone (l : Launch) (G : GG) {p1 : Int32} {M : Mem} {r : Int32}  (hf : f_X8_isLetterOrNone p1 = some r) : Met l yX8_isLetterOrNone (wsq yX8_isLetterOrNone cX8_isLetterOrNone 1 (some .boolean)) (rmq 1 20) (va_Pc [.int p1] (World G M)) (Qi G r M) 0 0 (adA G) := by
  refine x_start (plainFor_of_name (by decide)) (Nat.le_of_ble_eq_true rfl) ?_
  intro p e s m args below meth c hB hr hlk hW hS ls hl
  have hx := hB.x
  have hb := hB.b
  have hl : lv_has ls 1 [(0, .int p1)] := hl
  unfold f_X8_isLetterOrNone at hf
  refine lv_iload_n hx hb dX8_isLetterOrNone_0 rfl (lv_at hl 0 rfl) ?_
  refine lv_iconst (v := (-1 : Int32)) hx hb dX8_isLetterOrNone_1 (by decide) ?_
  refine lv_icmp_eq (tgt := 12) hx hb dX8_isLetterOrNone_2 (by decide) (fun c1 => ?_) (fun c1 => ?_)
  · have hf := i_t hf c1
    refine lv_iconst (v := (1 : Int32)) hx hb dX8_isLetterOrNone_12 (by decide) ?_
    refine lv_goto (tgt := 17) hx hb dX8_isLetterOrNone_13 (by decide) ?_
    exact e_z (by decide) hB hW hS hr hlk (Option.some.inj hf) rfl dX8_isLetterOrNone_17
  · have hf := i_f hf c1
    refine lv_iload_n hx hb dX8_isLetterOrNone_5 rfl (lv_at hl 0 rfl) ?_
    obtain ⟨x2, hg3, hf⟩ := b_o1 hf
    refine x_ci hB (x_rs hB hW hS (As := [.int p1]) (rest := []) (ct_X8_isLetter l G hg3) (cl_RX8_81 hB.2.2.2.2.1 ⟨Nat.le_of_ble_eq_true rfl, Nat.le_of_ble_eq_true rfl⟩) rfl hl.1 rfl (Nat.le_of_ble_eq_true rfl) dX8_isLetterOrNone_6 ⟨Nat.le_refl _, Nat.le_refl _⟩) hS (fun H locs hW hS => ?_)
    refine lv_if_eq (tgt := 16) hx hb dX8_isLetterOrNone_9 (by decide) (fun c4 => ?_) (fun c4 => ?_)
    · have hf := i_t hf c4
      refine lv_iconst (v := (0 : Int32)) hx hb dX8_isLetterOrNone_16 (by decide) ?_
      exact e_z (by decide) hB hW hS hr hlk (Option.some.inj hf) rfl dX8_isLetterOrNone_17
    · have hf := i_f hf c4
      refine lv_iconst (v := (1 : Int32)) hx hb dX8_isLetterOrNone_12 (by decide) ?_
      refine lv_goto (tgt := 17) hx hb dX8_isLetterOrNone_13 (by decide) ?_
      exact e_z (by decide) hB hW hS hr hlk (Option.some.inj hf) rfl dX8_isLetterOrNone_17
theorem cl_RX8_384 {R : Room} {s : State} {args : Array Value} (ht : ∀ w ∈ lw_all, w.before args s = true) (hR : 0 + 1 ≤ R.frames ∧ 8 + (4 + 11) + 0 ≤ R.locals) : CallB R s args RX8 384 yX8_spelledOn cX8_spelledOn 4 (some .long) (wsq yX8_spelledOn cX8_spelledOn 4 (some .long)) (rmq 0 0) 0 0 3 ∧ (Cond.static yX8_spelledOn).before args s = true := va_cwS 3 ht (goodS wd3_100 wd2_228 wd1_1 wd2_229) rfl rfl rfl (by decide +kernel) hR
def f_X8_spellingOf (p1 : Int32) (p2 : Int32) (p3 : Int32) : Option Int64 := (bq1 (f_X8_spelledOn (0 : Int64) (0 : Int32) p1) (fun (x1 : Int64) => bq1 (f_X8_spelledOn x1 (1 : Int32) p2) (fun (x3 : Int64) => bq1 (f_X8_spelledOn x3 (2 : Int32) p3) (fun (x5 : Int64) => some x5))))
set_option maxHeartbeats 4000000 in
set_option maxRecDepth 100000 in
theorem ct_X8_spellingOf (l : Launch) (G : GG) {p1 : Int32} {p2 : Int32} {p3 : Int32} {M : Mem} {r : Int64}  (hf : f_X8_spellingOf p1 p2 p3 = some r) : Met l yX8_spellingOf (wsq yX8_spellingOf cX8_spellingOf 3 (some .long)) (rmq 1 23) (va_Pc [.int p1, .int p2, .int p3] (World G M)) (Ql G r M) 0 0 (adA G) := by
  refine x_start (plainFor_of_name (by decide)) (Nat.le_of_ble_eq_true rfl) ?_
  intro p e s m args below meth c hB hr hlk hW hS ls hl
  have hx := hB.x
  have hb := hB.b
  have hl : lv_has ls 3 [(0, .int p1), (1, .int p2), (2, .int p3)] := hl
  unfold f_X8_spellingOf at hf
  refine lv_lconst (v := (0 : Int64)) hx hb dX8_spellingOf_0 (by decide) ?_
  refine lv_iconst (v := (0 : Int32)) hx hb dX8_spellingOf_1 (by decide) ?_
  refine lv_iload_n hx hb dX8_spellingOf_2 rfl (lv_at hl 0 rfl) ?_
  obtain ⟨x1, hg2, hf⟩ := b_o1 hf
  refine x_cl hB (x_rs hB hW hS (As := [.long (0 : Int64), .int (0 : Int32), .int p1]) (rest := []) (ct_X8_spelledOn l G hg2) (cl_RX8_384 hB.2.2.2.2.1 ⟨Nat.le_of_ble_eq_true rfl, Nat.le_of_ble_eq_true rfl⟩) rfl hl.1 rfl (Nat.le_of_ble_eq_true rfl) dX8_spellingOf_3 ⟨Nat.le_refl _, Nat.le_refl _⟩) hS (fun H locs hW hS => ?_)
  refine lv_iconst (v := (1 : Int32)) hx hb dX8_spellingOf_6 (by decide) ?_
  refine lv_iload_n hx hb dX8_spellingOf_7 rfl (lv_at hl 1 rfl) ?_
  obtain ⟨x3, hg4, hf⟩ := b_o1 hf
  refine x_cl hB (x_rs hB hW hS (As := [.long x1, .int (1 : Int32), .int p2]) (rest := []) (ct_X8_spelledOn l G hg4) (cl_RX8_384 hB.2.2.2.2.1 ⟨Nat.le_of_ble_eq_true rfl, Nat.le_of_ble_eq_true rfl⟩) rfl hl.1 rfl (Nat.le_of_ble_eq_true rfl) dX8_spellingOf_8 ⟨Nat.le_refl _, Nat.le_refl _⟩) hS (fun H locs hW hS => ?_)
  refine lv_iconst (v := (2 : Int32)) hx hb dX8_spellingOf_11 (by decide) ?_
  refine lv_iload_n hx hb dX8_spellingOf_12 rfl (lv_at hl 2 rfl) ?_
  obtain ⟨x5, hg6, hf⟩ := b_o1 hf
  refine x_cl hB (x_rs hB hW hS (As := [.long x3, .int (2 : Int32), .int p3]) (rest := []) (ct_X8_spelledOn l G hg6) (cl_RX8_384 hB.2.2.2.2.1 ⟨Nat.le_of_ble_eq_true rfl, Nat.le_of_ble_eq_true rfl⟩) rfl hl.1 rfl (Nat.le_of_ble_eq_true rfl) dX8_spellingOf_13 ⟨Nat.le_refl _, Nat.le_refl _⟩) hS (fun H locs hW hS => ?_)
  exact e_l hB hW hS hr hlk (Option.some.inj hf) rfl dX8_spellingOf_16
theorem cl_RX8_103 {R : Room} {s : State} {args : Array Value} (ht : ∀ w ∈ lw_all, w.before args s = true) (hR : 1 + 1 ≤ R.frames ∧ 8 + (1 + 11) + 20 ≤ R.locals) : CallB R s args RX8 103 yX8_isLetterOrNone cX8_isLetterOrNone 1 (some .boolean) (wsq yX8_isLetterOrNone cX8_isLetterOrNone 1 (some .boolean)) (rmq 1 20) 0 0 1 ∧ (Cond.static yX8_isLetterOrNone).before args s = true := va_cwS 1 ht (goodS wd3_93 wd3_94 wd1_1 wd3_95) rfl rfl rfl (by decide +kernel) hR
theorem cl_RX8_110 {R : Room} {s : State} {args : Array Value} (ht : ∀ w ∈ lw_all, w.before args s = true) (hR : 0 + 1 ≤ R.frames ∧ 8 + (1 + 11) + 0 ≤ R.locals) : CallW R s args RX8 RX7 110 yX7_isFull cX7_isFull 1 (some .boolean) (wsq yX7_isFull cX7_isFull 1 (some .boolean)) (rmq 0 0) 0 0 0 := cwV 0 ht (goodV wd3_96 wd2_231 wd2_232 wd1_3 wd2_233) rfl rfl rfl (by decide +kernel) hR
theorem cl_RX8_113 {R : Room} {s : State} {args : Array Value} (ht : ∀ w ∈ lw_all, w.before args s = true) (hR : 1 + 1 ≤ R.frames ∧ 8 + (3 + 11) + 23 ≤ R.locals) : CallB R s args RX8 113 yX8_spellingOf cX8_spellingOf 3 (some .long) (wsq yX8_spellingOf cX8_spellingOf 3 (some .long)) (rmq 1 23) 0 0 3 ∧ (Cond.static yX8_spellingOf).before args s = true := va_cwS 3 ht (goodS wd3_97 wd3_98 wd1_1 wd3_99) rfl rfl rfl (by decide +kernel) hR
theorem cl_RX8_117 {R : Room} {s : State} {args : Array Value} (ht : ∀ w ∈ lw_all, w.before args s = true) (hR : 2 + 1 ≤ R.frames ∧ 8 + (4 + 11) + 47 ≤ R.locals) : CallW R s args RX8 RX7 117 yX7_add cX7_add 4 (some .int) (wsq yX7_add cX7_add 4 (some .int)) (rmq 2 47) 0 0 2 := cwV 2 ht (goodV wd3_101 wd2_235 wd2_236 wd1_3 wd2_237) rfl rfl rfl (by decide +kernel) hR
def f_X8_adds (p1 : Int32) (p2 : Int32) (p3 : Int32) (M : Mem) : Option (Int32 × Mem) := (bq1 (f_X8_isLetter p1) (fun (x1 : Int32) => (jq (fun (M3 : Mem) => (bq2 (f_X8_refuse (-1 : Int32) M3) (fun (x6 : Int32) (M7 : Mem) => some (x6, M7)))) (fun (K5 : Mem → Option (Int32 × Mem)) => (if x1 = 0 then (K5 M) else (bq1 (f_X8_isLetterOrNone p2) (fun (x10 : Int32) => (if x10 = 0 then (K5 M) else (bq1 (f_X8_isLetterOrNone p3) (fun (x13 : Int32) => (if x13 = 0 then (K5 M) else (jq (fun (_ : Unit) => (bq1 (f_X7_isFull 3 M) (fun (x18 : Int32) => (if x18 = 0 then (bq1 (f_X1_remember 1 M) (fun (M21 : Mem) => (nmq ((if p3 < 0 then (if p2 < 0 then ((1 : Int32)) else ((2 : Int32))) else ((3 : Int32)))) (fun (x23 : Int32) => (bq1 (f_X8_spellingOf p1 p2 p3) (fun (x25 : Int64) => bq2 (f_X7_add 3 x25 x23 M21) (fun (x27 : Int32) (M28 : Mem) => some (x27, M28)))))))) else (bq2 (f_X8_refuse (-6 : Int32) M) (fun (x33 : Int32) (M34 : Mem) => some (x33, M34))))))) (fun (K17 : Unit → Option (Int32 × Mem)) => (if 0 ≤ p2 then (K17 ()) else (if p3 < 0 then (K17 ()) else (K5 M))))))))))))))))
set_option maxHeartbeats 4000000 in
set_option maxRecDepth 100000 in
theorem ct_X8_adds (l : Launch) (G : GG) {p1 : Int32} {p2 : Int32} {p3 : Int32} {M : Mem} {r : Int32} {Mr : Mem}  (hf : f_X8_adds p1 p2 p3 M = some (r, Mr)) : Met l yX8_adds (wsq yX8_adds cX8_adds 5 (some .int)) (rmq 5 106) (va_Pc [.ref (G.2.2.1 0), .int p1, .int p2, .int p3] (World G M)) (Qi G r Mr) 0 0 (adA G) := by
  refine x_start (plainFor_of_name (by decide)) (Nat.le_of_ble_eq_true rfl) ?_
  intro p e s m args below meth c hB hr hlk hW hS ls hl
  have hx := hB.x
  have hb := hB.b
  have hl : lv_has ls 5 [(0, .ref (G.2.2.1 0)), (1, .int p1), (2, .int p2), (3, .int p3)] := hl
  unfold f_X8_adds at hf
  refine lv_iload_n hx hb dX8_adds_0 rfl (lv_at hl 1 rfl) ?_
  obtain ⟨x1, hg2, hf⟩ := b_o1 hf
  refine x_ci hB (x_rs hB hW hS (As := [.int p1]) (rest := []) (ct_X8_isLetter l G hg2) (cl_RX8_81 hB.2.2.2.2.1 ⟨Nat.le_of_ble_eq_true rfl, Nat.le_of_ble_eq_true rfl⟩) rfl hl.1 rfl (Nat.le_of_ble_eq_true rfl) dX8_adds_1 ⟨Nat.le_refl _, Nat.le_refl _⟩) hS (fun H locs hW hS => ?_)
  obtain ⟨K5, eK5, hf⟩ := j_o hf
  have main4 : ∀ (M3 : Mem) (H : Heap) (locs : List Loc) (ls : Array Slot), Wd G M3 H → va_S (adA G) s.heap H locs → lv_has ls 5 [(0, .ref (G.2.2.1 0))] → K5 M3 = some (r, Mr) → W p l e (rmq 5 106) s m args below meth c H locs 0 0 (MQ below (Qi G r Mr) args s 0 0 (adA G)) (F0 m 29 ls []) := by
    intro M3 H locs ls hW hS hl hf
    subst eK5
    refine lv_aload_n hx hb dX8_adds_29 rfl (lv_at hl 0 rfl) ?_
    refine lv_iconst (v := (-1 : Int32)) hx hb dX8_adds_30 (by decide) ?_
    obtain ⟨x6, M7, hg8, hf⟩ := b_o2 hf
    refine x_ci hB (x_rv hB hW hS (As := [.int (-1 : Int32)]) (rest := []) (ct_X8_refuse l G hg8) (cl_RX8_50 hB.2.2.2.2.1 ⟨Nat.le_of_ble_eq_true rfl, Nat.le_of_ble_eq_true rfl⟩) tl0 (by decide) rfl rfl hl.1 rfl (Nat.le_of_ble_eq_true rfl) dX8_adds_31 ⟨Nat.le_refl _, Nat.le_refl _⟩) hS (fun H locs hW hS => ?_)
    exact e_i hB hW hS hr hlk (s_1 hf) (s_2 hf) dX8_adds_34
  refine lv_if_eq (tgt := 29) hx hb dX8_adds_4 (by decide) (fun c9 => ?_) (fun c9 => ?_)
  · have hf := i_t hf c9
    exact main4 M _ _ ls hW hS (lv_sub hl [0] rfl) hf
  · have hf := i_f hf c9
    refine lv_iload_n hx hb dX8_adds_7 rfl (lv_at hl 2 rfl) ?_
    obtain ⟨x10, hg11, hf⟩ := b_o1 hf
    refine x_ci hB (x_rs hB hW hS (As := [.int p2]) (rest := []) (ct_X8_isLetterOrNone l G hg11) (cl_RX8_103 hB.2.2.2.2.1 ⟨Nat.le_of_ble_eq_true rfl, Nat.le_of_ble_eq_true rfl⟩) rfl hl.1 rfl (Nat.le_of_ble_eq_true rfl) dX8_adds_8 ⟨Nat.le_refl _, Nat.le_refl _⟩) hS (fun H locs hW hS => ?_)
    refine lv_if_eq (tgt := 29) hx hb dX8_adds_11 (by decide) (fun c12 => ?_) (fun c12 => ?_)
    · have hf := i_t hf c12
      exact main4 M _ _ ls hW hS (lv_sub hl [0] rfl) hf
    · have hf := i_f hf c12
      refine lv_iload_n hx hb dX8_adds_14 rfl (lv_at hl 3 rfl) ?_
      obtain ⟨x13, hg14, hf⟩ := b_o1 hf
      refine x_ci hB (x_rs hB hW hS (As := [.int p3]) (rest := []) (ct_X8_isLetterOrNone l G hg14) (cl_RX8_103 hB.2.2.2.2.1 ⟨Nat.le_of_ble_eq_true rfl, Nat.le_of_ble_eq_true rfl⟩) rfl hl.1 rfl (Nat.le_of_ble_eq_true rfl) dX8_adds_15 ⟨Nat.le_refl _, Nat.le_refl _⟩) hS (fun H locs hW hS => ?_)
      refine lv_if_eq (tgt := 29) hx hb dX8_adds_18 (by decide) (fun c15 => ?_) (fun c15 => ?_)
      · have hf := i_t hf c15
        exact main4 M _ _ ls hW hS (lv_sub hl [0] rfl) hf
      · have hf := i_f hf c15
        refine lv_iload_n hx hb dX8_adds_21 rfl (lv_at hl 2 rfl) ?_
        obtain ⟨K17, eK17, hf⟩ := j_o hf
        have main16 : ∀ (_ : Unit) (H : Heap) (locs : List Loc) (ls : Array Slot), Wd G M H → va_S (adA G) s.heap H locs → lv_has ls 5 [(0, .ref (G.2.2.1 0)), (1, .int p1), (2, .int p2), (3, .int p3)] → K17 () = some (r, Mr) → W p l e (rmq 5 106) s m args below meth c H locs 0 0 (MQ below (Qi G r Mr) args s 0 0 (adA G)) (F0 m 35 ls []) := by
          intro _ H locs ls hW hS hl hf
          subst eK17
          refine lv_aload_n hx hb dX8_adds_35 rfl (lv_at hl 0 rfl) ?_
          refine fg8_0 hB hW tl0 wd2_91 dX8_adds_36 ?_
          refine fg3_1 hB hW tl1 wd1_95 dX8_adds_39 ?_
          obtain ⟨x18, hg19, hf⟩ := b_o1 hf
          refine x_ci hB (x_rv hB hW hS (As := []) (rest := []) (ct_X7_isFull l G tl3 hg19) (cl_RX8_110 hB.2.2.2.2.1 ⟨Nat.le_of_ble_eq_true rfl, Nat.le_of_ble_eq_true rfl⟩) tl3 (by decide) rfl rfl hl.1 rfl (Nat.le_of_ble_eq_true rfl) dX8_adds_42 ⟨Nat.le_refl _, Nat.le_refl _⟩) hS (fun H locs hW hS => ?_)
          refine lv_if_eq (tgt := 55) hx hb dX8_adds_45 (by decide) (fun c20 => ?_) (fun c20 => ?_)
          · have hf := i_t hf c20
            refine lv_aload_n hx hb dX8_adds_55 rfl (lv_at hl 0 rfl) ?_
            refine fg8_3 hB hW tl0 wd2_94 dX8_adds_56 ?_
            refine lv_aload_n hx hb dX8_adds_59 rfl (lv_at hl 0 rfl) ?_
            refine fg8_0 hB hW tl0 wd2_91 dX8_adds_60 ?_
            obtain ⟨M21, hg22, hf⟩ := b_o1 hf
            refine x_cv hB (x_rv hB hW hS (As := [.ref (G.2.2.1 1)]) (rest := []) (ct_X1_remember l G tl1 hg22) (cl_RX8_89 hB.2.2.2.2.1 ⟨Nat.le_of_ble_eq_true rfl, Nat.le_of_ble_eq_true rfl⟩) tl34 (by decide) rfl rfl hl.1 rfl (Nat.le_of_ble_eq_true rfl) dX8_adds_63 ⟨Nat.le_refl _, Nat.le_refl _⟩) hS (fun H locs hW hS => ?_)
            refine lv_iload_n hx hb dX8_adds_66 rfl (lv_at hl 3 rfl) ?_
            obtain ⟨y30, evy30⟩ : ∃ z : Int32, (if p3 < 0 then (if p2 < 0 then ((1 : Int32)) else ((2 : Int32))) else ((3 : Int32))) = z := ⟨_, rfl⟩
            have hf := nm_o hf evy30.symm
            have main24 : ∀ (x23 : Int32) (H : Heap) (locs : List Loc) (ls : Array Slot), Wd G M21 H → va_S (adA G) s.heap H locs → lv_has ls 5 [(0, .ref (G.2.2.1 0)), (1, .int p1), (2, .int p2), (3, .int p3)] → x23 = y30 → W p l e (rmq 5 106) s m args below meth c H locs 0 0 (MQ below (Qi G r Mr) args s 0 0 (adA G)) (F0 m 83 ls [.int x23]) := by
              intro x23 H locs ls hW hS hl hE
              have hE := hE.symm
              subst hE
              refine lv_istore (lv' := [(4, .int y30), (0, .ref (G.2.2.1 0)), (1, .int p1), (2, .int p2), (3, .int p3)]) hx hb dX8_adds_83 hl (by decide) rfl (fun ls hl => ?_)
              refine lv_aload_n hx hb dX8_adds_85 rfl (lv_at hl 1 rfl) ?_
              refine fg8_0 hB hW tl0 wd2_91 dX8_adds_86 ?_
              refine fg3_1 hB hW tl1 wd1_95 dX8_adds_89 ?_
              refine lv_iload_n hx hb dX8_adds_92 rfl (lv_at hl 2 rfl) ?_
              refine lv_iload_n hx hb dX8_adds_93 rfl (lv_at hl 3 rfl) ?_
              refine lv_iload_n hx hb dX8_adds_94 rfl (lv_at hl 4 rfl) ?_
              obtain ⟨x25, hg26, hf⟩ := b_o1 hf
              refine x_cl hB (x_rs hB hW hS (As := [.int p1, .int p2, .int p3]) (rest := [.ref (G.2.2.1 3)]) (ct_X8_spellingOf l G hg26) (cl_RX8_113 hB.2.2.2.2.1 ⟨Nat.le_of_ble_eq_true rfl, Nat.le_of_ble_eq_true rfl⟩) rfl hl.1 rfl (Nat.le_of_ble_eq_true rfl) dX8_adds_95 ⟨Nat.le_refl _, Nat.le_refl _⟩) hS (fun H locs hW hS => ?_)
              refine lv_iload hx hb dX8_adds_98 (lv_at hl 0 rfl) ?_
              obtain ⟨x27, M28, hg29, hf⟩ := b_o2 hf
              refine x_ci hB (x_rv hB hW hS (As := [.long x25, .int y30]) (rest := []) (ct_X7_add l G tl3 hg29) (cl_RX8_117 hB.2.2.2.2.1 ⟨Nat.le_of_ble_eq_true rfl, Nat.le_of_ble_eq_true rfl⟩) tl3 (by decide) rfl rfl hl.1 rfl (Nat.le_of_ble_eq_true rfl) dX8_adds_100 ⟨Nat.le_refl _, Nat.le_refl _⟩) hS (fun H locs hW hS => ?_)
              exact e_i hB hW hS hr hlk (s_1 hf) (s_2 hf) dX8_adds_103
            have hf := evy30
            refine lv_if_lt (tgt := 74) hx hb dX8_adds_67 (by decide) (fun c31 => ?_) (fun c31 => ?_)
            · have hf := i_t hf c31
              refine lv_iload_n hx hb dX8_adds_74 rfl (lv_at hl 2 rfl) ?_
              refine lv_if_lt (tgt := 82) hx hb dX8_adds_75 (by decide) (fun c32 => ?_) (fun c32 => ?_)
              · have hf := i_t hf c32
                refine lv_iconst (v := (1 : Int32)) hx hb dX8_adds_82 (by decide) ?_
                exact main24 (1 : Int32) _ _ ls hW hS (lv_sub hl [0, 1, 2, 3] rfl) hf
              · have hf := i_f hf c32
                refine lv_iconst (v := (2 : Int32)) hx hb dX8_adds_78 (by decide) ?_
                refine lv_goto (tgt := 83) hx hb dX8_adds_79 (by decide) ?_
                exact main24 (2 : Int32) _ _ ls hW hS (lv_sub hl [0, 1, 2, 3] rfl) hf
            · have hf := i_f hf c31
              refine lv_iconst (v := (3 : Int32)) hx hb dX8_adds_70 (by decide) ?_
              refine lv_goto (tgt := 83) hx hb dX8_adds_71 (by decide) ?_
              exact main24 (3 : Int32) _ _ ls hW hS (lv_sub hl [0, 1, 2, 3] rfl) hf
          · have hf := i_f hf c20
            refine lv_aload_n hx hb dX8_adds_48 rfl (lv_at hl 0 rfl) ?_
            refine lv_bipush (v := (-6 : Int32)) hx hb dX8_adds_49 (by decide) ?_
            obtain ⟨x33, M34, hg35, hf⟩ := b_o2 hf
            refine x_ci hB (x_rv hB hW hS (As := [.int (-6 : Int32)]) (rest := []) (ct_X8_refuse l G hg35) (cl_RX8_50 hB.2.2.2.2.1 ⟨Nat.le_of_ble_eq_true rfl, Nat.le_of_ble_eq_true rfl⟩) tl0 (by decide) rfl rfl hl.1 rfl (Nat.le_of_ble_eq_true rfl) dX8_adds_51 ⟨Nat.le_refl _, Nat.le_refl _⟩) hS (fun H locs hW hS => ?_)
            exact e_i hB hW hS hr hlk (s_1 hf) (s_2 hf) dX8_adds_54
        refine lv_if_ge (tgt := 35) hx hb dX8_adds_22 (by decide) (fun c36 => ?_) (fun c36 => ?_)
        · have hf := i_t hf c36
          exact main16 () _ _ ls hW hS (lv_sub hl [0, 1, 2, 3] rfl) hf
        · have hf := i_f hf c36
          refine lv_iload_n hx hb dX8_adds_25 rfl (lv_at hl 3 rfl) ?_
          refine lv_if_lt (tgt := 35) hx hb dX8_adds_26 (by decide) (fun c37 => ?_) (fun c37 => ?_)
          · have hf := i_t hf c37
            exact main16 () _ _ ls hW hS (lv_sub hl [0, 1, 2, 3] rfl) hf
          · have hf := i_f hf c37
            exact main4 M _ _ ls hW hS (lv_sub hl [0] rfl) hf
def f_X7_has (k0 : Nat) (p1 : Int32) (M : Mem) : Option Int32 := (if p1 < 0 then some (0 : Int32) else (if (gi M k0 3) ≤ p1 then some (0 : Int32) else some (1 : Int32)))
set_option maxHeartbeats 4000000 in
set_option maxRecDepth 100000 in
theorem ct_X7_has (l : Launch) (G : GG) {k0 : Nat} {p1 : Int32} {M : Mem} {r : Int32} (hk0 : isT 7 k0) (hf : f_X7_has k0 p1 M = some r) : Met l yX7_has (wsq yX7_has cX7_has 2 (some .boolean)) (rmq 0 0) (va_Pc [.ref (G.2.2.1 k0), .int p1] (World G M)) (Qi G r M) 0 0 (adA G) := by
  refine x_start (plainFor_of_name (by decide)) (Nat.le_of_ble_eq_true rfl) ?_
  intro p e s m args below meth c hB hr hlk hW hS ls hl
  have hx := hB.x
  have hb := hB.b
  have hl : lv_has ls 2 [(0, .ref (G.2.2.1 k0)), (1, .int p1)] := hl
  unfold f_X7_has at hf
  refine lv_iload_n hx hb dX7_has_0 rfl (lv_at hl 1 rfl) ?_
  refine lv_if_lt (tgt := 16) hx hb dX7_has_1 (by decide) (fun c1 => ?_) (fun c1 => ?_)
  · have hf := i_t hf c1
    refine lv_iconst (v := (0 : Int32)) hx hb dX7_has_16 (by decide) ?_
    exact e_z (by decide) hB hW hS hr hlk (Option.some.inj hf) rfl dX7_has_17
  · have hf := i_f hf c1
    refine lv_iload_n hx hb dX7_has_4 rfl (lv_at hl 1 rfl) ?_
    refine lv_aload_n hx hb dX7_has_5 rfl (lv_at hl 0 rfl) ?_
    refine fg7_3 hB hW hk0 wd1_50 dX7_has_6 ?_
    refine lv_icmp_ge (tgt := 16) hx hb dX7_has_9 (by decide) (fun c2 => ?_) (fun c2 => ?_)
    · have hf := i_t hf c2
      refine lv_iconst (v := (0 : Int32)) hx hb dX7_has_16 (by decide) ?_
      exact e_z (by decide) hB hW hS hr hlk (Option.some.inj hf) rfl dX7_has_17
    · have hf := i_f hf c2
      refine lv_iconst (v := (1 : Int32)) hx hb dX7_has_12 (by decide) ?_
      refine lv_goto (tgt := 17) hx hb dX7_has_13 (by decide) ?_
      exact e_z (by decide) hB hW hS hr hlk (Option.some.inj hf) rfl dX7_has_17
theorem cl_RX8_121 {R : Room} {s : State} {args : Array Value} (ht : ∀ w ∈ lw_all, w.before args s = true) (hR : 0 + 1 ≤ R.frames ∧ 8 + (2 + 11) + 0 ≤ R.locals) : CallW R s args RX8 RX7 121 yX7_has cX7_has 2 (some .boolean) (wsq yX7_has cX7_has 2 (some .boolean)) (rmq 0 0) 0 0 1 := cwV 1 ht (goodV wd3_106 wd3_107 wd3_108 wd1_3 wd3_109) rfl rfl rfl (by decide +kernel) hR
theorem cl_RX8_124 {R : Room} {s : State} {args : Array Value} (ht : ∀ w ∈ lw_all, w.before args s = true) (hR : 1 + 1 ≤ R.frames ∧ 8 + (2 + 11) + 22 ≤ R.locals) : CallW R s args RX8 RX7 124 yX7_turnForced cX7_turnForced 2 (some .int) (wsq yX7_turnForced cX7_turnForced 2 (some .int)) (rmq 1 22) 0 0 1 := cwV 1 ht (goodV wd3_110 wd3_8 wd3_9 wd1_3 wd3_10) rfl rfl rfl (by decide +kernel) hR
def f_X8_forces (p1 : Int32) (M : Mem) : Option (Int32 × Mem) := (bq1 (f_X7_has 3 p1 M) (fun (x1 : Int32) => (if x1 = 0 then (bq2 (f_X8_refuse (-1 : Int32) M) (fun (x9 : Int32) (M10 : Mem) => some (x9, M10))) else (bq1 (f_X1_remember 1 M) (fun (M4 : Mem) => bq2 (f_X7_turnForced 3 p1 M4) (fun (x6 : Int32) (M7 : Mem) => some (x6, M7)))))))
set_option maxHeartbeats 4000000 in
set_option maxRecDepth 100000 in
theorem ct_X8_forces (l : Launch) (G : GG) {p1 : Int32} {M : Mem} {r : Int32} {Mr : Mem}  (hf : f_X8_forces p1 M = some (r, Mr)) : Met l yX8_forces (wsq yX8_forces cX8_forces 2 (some .int)) (rmq 5 106) (va_Pc [.ref (G.2.2.1 0), .int p1] (World G M)) (Qi G r Mr) 0 0 (adA G) := by
  refine x_start (plainFor_of_name (by decide)) (Nat.le_of_ble_eq_true rfl) ?_
  intro p e s m args below meth c hB hr hlk hW hS ls hl
  have hx := hB.x
  have hb := hB.b
  have hl : lv_has ls 2 [(0, .ref (G.2.2.1 0)), (1, .int p1)] := hl
  unfold f_X8_forces at hf
  refine lv_aload_n hx hb dX8_forces_0 rfl (lv_at hl 0 rfl) ?_
  refine fg8_0 hB hW tl0 wd2_91 dX8_forces_1 ?_
  refine fg3_1 hB hW tl1 wd1_95 dX8_forces_4 ?_
  refine lv_iload_n hx hb dX8_forces_7 rfl (lv_at hl 1 rfl) ?_
  obtain ⟨x1, hg2, hf⟩ := b_o1 hf
  refine x_ci hB (x_rv hB hW hS (As := [.int p1]) (rest := []) (ct_X7_has l G tl3 hg2) (cl_RX8_121 hB.2.2.2.2.1 ⟨Nat.le_of_ble_eq_true rfl, Nat.le_of_ble_eq_true rfl⟩) tl3 (by decide) rfl rfl hl.1 rfl (Nat.le_of_ble_eq_true rfl) dX8_forces_8 ⟨Nat.le_refl _, Nat.le_refl _⟩) hS (fun H locs hW hS => ?_)
  refine lv_if_ne (tgt := 20) hx hb dX8_forces_11 (by decide) (fun c3 => ?_) (fun c3 => ?_)
  · have hf := i_f hf c3
    refine lv_aload_n hx hb dX8_forces_20 rfl (lv_at hl 0 rfl) ?_
    refine fg8_3 hB hW tl0 wd2_94 dX8_forces_21 ?_
    refine lv_aload_n hx hb dX8_forces_24 rfl (lv_at hl 0 rfl) ?_
    refine fg8_0 hB hW tl0 wd2_91 dX8_forces_25 ?_
    obtain ⟨M4, hg5, hf⟩ := b_o1 hf
    refine x_cv hB (x_rv hB hW hS (As := [.ref (G.2.2.1 1)]) (rest := []) (ct_X1_remember l G tl1 hg5) (cl_RX8_89 hB.2.2.2.2.1 ⟨Nat.le_of_ble_eq_true rfl, Nat.le_of_ble_eq_true rfl⟩) tl34 (by decide) rfl rfl hl.1 rfl (Nat.le_of_ble_eq_true rfl) dX8_forces_28 ⟨Nat.le_refl _, Nat.le_refl _⟩) hS (fun H locs hW hS => ?_)
    refine lv_aload_n hx hb dX8_forces_31 rfl (lv_at hl 0 rfl) ?_
    refine fg8_0 hB hW tl0 wd2_91 dX8_forces_32 ?_
    refine fg3_1 hB hW tl1 wd1_95 dX8_forces_35 ?_
    refine lv_iload_n hx hb dX8_forces_38 rfl (lv_at hl 1 rfl) ?_
    obtain ⟨x6, M7, hg8, hf⟩ := b_o2 hf
    refine x_ci hB (x_rv hB hW hS (As := [.int p1]) (rest := []) (ct_X7_turnForced l G tl3 hg8) (cl_RX8_124 hB.2.2.2.2.1 ⟨Nat.le_of_ble_eq_true rfl, Nat.le_of_ble_eq_true rfl⟩) tl3 (by decide) rfl rfl hl.1 rfl (Nat.le_of_ble_eq_true rfl) dX8_forces_39 ⟨Nat.le_refl _, Nat.le_refl _⟩) hS (fun H locs hW hS => ?_)
    exact e_i hB hW hS hr hlk (s_1 hf) (s_2 hf) dX8_forces_42
  · have hf := i_t hf c3
    refine lv_aload_n hx hb dX8_forces_14 rfl (lv_at hl 0 rfl) ?_
    refine lv_iconst (v := (-1 : Int32)) hx hb dX8_forces_15 (by decide) ?_
    obtain ⟨x9, M10, hg11, hf⟩ := b_o2 hf
    refine x_ci hB (x_rv hB hW hS (As := [.int (-1 : Int32)]) (rest := []) (ct_X8_refuse l G hg11) (cl_RX8_50 hB.2.2.2.2.1 ⟨Nat.le_of_ble_eq_true rfl, Nat.le_of_ble_eq_true rfl⟩) tl0 (by decide) rfl rfl hl.1 rfl (Nat.le_of_ble_eq_true rfl) dX8_forces_16 ⟨Nat.le_refl _, Nat.le_refl _⟩) hS (fun H locs hW hS => ?_)
    exact e_i hB hW hS hr hlk (s_1 hf) (s_2 hf) dX8_forces_19
def f_X7_spellingOf (k0 : Nat) (p1 : Int32) (M : Mem) : Option Int64 := (if p1 < 0 then some (0 : Int64) else (if (16 : Int32) ≤ p1 then some (0 : Int64) else (gq (inB p1 16) (some (gl M (k0 + 1) ((p1 : Int32).toNatClampNeg))))))
set_option maxHeartbeats 4000000 in
set_option maxRecDepth 100000 in
theorem ct_X7_spellingOf (l : Launch) (G : GG) {k0 : Nat} {p1 : Int32} {M : Mem} {r : Int64} (hk0 : isT 7 k0) (hf : f_X7_spellingOf k0 p1 M = some r) : Met l yX7_spellingOf (wsq yX7_spellingOf cX7_spellingOf 2 (some .long)) (rmq 0 0) (va_Pc [.ref (G.2.2.1 k0), .int p1] (World G M)) (Ql G r M) 0 0 (adA G) := by
  refine x_start (plainFor_of_name (by decide)) (Nat.le_of_ble_eq_true rfl) ?_
  intro p e s m args below meth c hB hr hlk hW hS ls hl
  have hx := hB.x
  have hb := hB.b
  have hl : lv_has ls 2 [(0, .ref (G.2.2.1 k0)), (1, .int p1)] := hl
  unfold f_X7_spellingOf at hf
  refine lv_iload_n hx hb dX7_spellingOf_0 rfl (lv_at hl 1 rfl) ?_
  refine lv_if_lt (tgt := 22) hx hb dX7_spellingOf_1 (by decide) (fun c1 => ?_) (fun c1 => ?_)
  · have hf := i_t hf c1
    refine lv_lconst (v := (0 : Int64)) hx hb dX7_spellingOf_22 (by decide) ?_
    exact e_l hB hW hS hr hlk (Option.some.inj hf) rfl dX7_spellingOf_23
  · have hf := i_f hf c1
    refine lv_iload_n hx hb dX7_spellingOf_4 rfl (lv_at hl 1 rfl) ?_
    refine lv_aload_n hx hb dX7_spellingOf_5 rfl (lv_at hl 0 rfl) ?_
    refine fg7_0 hB hW hk0 wd1_46 dX7_spellingOf_6 ?_
    refine x_alen hB hW (rf7_0 hk0) (by decide) (ra7_0 hk0) (v := (16 : Int32)) rfl dX7_spellingOf_9 ?_
    refine lv_icmp_ge (tgt := 22) hx hb dX7_spellingOf_10 (by decide) (fun c2 => ?_) (fun c2 => ?_)
    · have hf := i_t hf c2
      refine lv_lconst (v := (0 : Int64)) hx hb dX7_spellingOf_22 (by decide) ?_
      exact e_l hB hW hS hr hlk (Option.some.inj hf) rfl dX7_spellingOf_23
    · have hf := i_f hf c2
      refine lv_aload_n hx hb dX7_spellingOf_13 rfl (lv_at hl 0 rfl) ?_
      refine fg7_0 hB hW hk0 wd1_46 dX7_spellingOf_14 ?_
      refine lv_iload_n hx hb dX7_spellingOf_17 rfl (lv_at hl 1 rfl) ?_
      obtain ⟨h3, hf⟩ := g_o hf
      refine x_lald hB hW (rf7_0 hk0) (ra7_0 hk0) h3 dX7_spellingOf_18 ?_
      refine lv_goto (tgt := 23) hx hb dX7_spellingOf_19 (by decide) ?_
      exact e_l hB hW hS hr hlk (Option.some.inj hf) rfl dX7_spellingOf_23
theorem cl_RX7_46 {R : Room} {s : State} {args : Array Value} (ht : ∀ w ∈ lw_all, w.before args s = true) (hR : 0 + 1 ≤ R.frames ∧ 8 + (2 + 11) + 0 ≤ R.locals) : CallW R s args RX7 RX7 46 yX7_spellingOf cX7_spellingOf 2 (some .long) (wsq yX7_spellingOf cX7_spellingOf 2 (some .long)) (rmq 0 0) 0 0 1 := cwV 1 ht (goodV wd3_119 wd3_120 wd3_121 wd1_3 wd3_122) rfl rfl rfl (by decide +kernel) hR
def f_X7_drop_L12 (k0 : Nat) (K4 : Int32 → Mem → Option (Mem)) (x2 : Int32) (M3 : Mem) : Option (Mem) := (if (gi M3 k0 3) ≤ x2 then (some (M3)) else (bq1 (f_X7_spellingOf k0 (x2 + (1 : Int32)) M3) (fun (x10 : Int64) => bq1 (f_X8_at (k0 + 2) (x2 + (1 : Int32)) M3) (fun (x12 : Int32) => bq1 (f_X8_at (k0 + 3) (x2 + (1 : Int32)) M3) (fun (x14 : Int32) => bq1 (f_X7_write k0 x2 x10 x12 x14 M3) (fun (M16 : Mem) => nmq (x2 + (1 : Int32)) (fun (x18 : Int32) => (K4 x18 M16))))))))
def f_X7_drop (k0 : Nat) (p1 : Int32) (M : Mem) : Option (Int32 × Mem) := (nmq (si M k0 3 ((gi M k0 3) - (1 : Int32))) (fun (M1 : Mem) => (bq1 (lq2 (f_X7_drop_L12 k0) FU p1 M1) (fun (M6 : Mem) => some ((gi M6 k0 3), M6)))))
set_option maxHeartbeats 4000000 in
set_option maxRecDepth 100000 in
theorem ct_X7_drop (l : Launch) (G : GG) {k0 : Nat} {p1 : Int32} {M : Mem} {r : Int32} {Mr : Mem} (hk0 : isT 7 k0) (hf : f_X7_drop k0 p1 M = some (r, Mr)) : Met l yX7_drop (wsq yX7_drop cX7_drop 3 (some .int)) (rmq 2 47) (va_Pc [.ref (G.2.2.1 k0), .int p1] (World G M)) (Qi G r Mr) 0 0 (adA G) := by
  refine x_start (plainFor_of_name (by decide)) (Nat.le_of_ble_eq_true rfl) ?_
  intro p e s m args below meth c hB hr hlk hW hS ls hl
  have hx := hB.x
  have hb := hB.b
  have hl : lv_has ls 3 [(0, .ref (G.2.2.1 k0)), (1, .int p1)] := hl
  unfold f_X7_drop at hf
  refine lv_aload_n hx hb dX7_drop_0 rfl (lv_at hl 0 rfl) ?_
  refine lv_dup hx hb dX7_drop_1 rfl ?_
  refine fg7_3 hB hW hk0 wd1_50 dX7_drop_2 ?_
  refine lv_iconst (v := (1 : Int32)) hx hb dX7_drop_5 (by decide) ?_
  refine lv_isub hx hb dX7_drop_6 ?_
  refine fp7_3 hB hW hS hk0 wd1_50 dX7_drop_7 (fun H locs M1 eM1 hW hS => ?_)
  have hf := nm_o hf eM1
  refine lv_iload_n hx hb dX7_drop_10 rfl (lv_at hl 1 rfl) ?_
  refine lv_istore_n (lv' := [(2, .int p1), (0, .ref (G.2.2.1 k0)), (1, .int p1)]) hx hb dX7_drop_11 rfl hl (by decide) rfl (fun ls hl => ?_)
  obtain ⟨M7, hL, hf⟩ := b_o1 hf
  have main8 : ∀ (M6 : Mem) (H : Heap) (locs : List Loc) (ls : Array Slot), Wd G M6 H → va_S (adA G) s.heap H locs → lv_has ls 3 [(0, .ref (G.2.2.1 k0))] → some (M6) = some (M7) → W p l e (rmq 2 47) s m args below meth c H locs 0 0 (MQ below (Qi G r Mr) args s 0 0 (adA G)) (F0 m 58 ls []) := by
    intro M6 H locs ls hW hS hl hE
    cases hE
    refine lv_aload_n hx hb dX7_drop_58 rfl (lv_at hl 0 rfl) ?_
    refine fg7_3 hB hW hk0 wd1_50 dX7_drop_59 ?_
    exact e_i hB hW hS hr hlk (s_1 hf) (s_2 hf) dX7_drop_62
  have loop5 : ∀ (n : Nat) (x2 : Int32) (M3 : Mem) (H : Heap) (locs : List Loc) (ls : Array Slot), Wd G M3 H → va_S (adA G) s.heap H locs → lv_has ls 3 [(0, .ref (G.2.2.1 k0)), (2, .int x2)] → lq2 (f_X7_drop_L12 k0) n x2 M3 = some (M7) → W p l e (rmq 2 47) s m args below meth c H locs 0 0 (MQ below (Qi G r Mr) args s 0 0 (adA G)) (F0 m 12 ls []) := by
    intro n
    induction n with
    | zero => intro x2 M3 H locs ls hW hS hl hf; exact (l_z2 hf).elim
    | succ n ih =>
      intro x2 M3 H locs ls hW hS hl hf
      have hf := l_s2 hf
      generalize lq2 (f_X7_drop_L12 k0) n = K4 at ih hf
      unfold f_X7_drop_L12 at hf
      refine lv_iload_n hx hb dX7_drop_12 rfl (lv_at hl 1 rfl) ?_
      refine lv_aload_n hx hb dX7_drop_13 rfl (lv_at hl 0 rfl) ?_
      refine fg7_3 hB hW hk0 wd1_50 dX7_drop_14 ?_
      refine lv_icmp_ge (tgt := 58) hx hb dX7_drop_17 (by decide) (fun c9 => ?_) (fun c9 => ?_)
      · have hf := i_t hf c9
        exact main8 M3 _ _ ls hW hS (lv_sub hl [0] rfl) hf
      · have hf := i_f hf c9
        refine lv_aload_n hx hb dX7_drop_20 rfl (lv_at hl 0 rfl) ?_
        refine lv_iload_n hx hb dX7_drop_21 rfl (lv_at hl 1 rfl) ?_
        refine lv_aload_n hx hb dX7_drop_22 rfl (lv_at hl 0 rfl) ?_
        refine lv_iload_n hx hb dX7_drop_23 rfl (lv_at hl 1 rfl) ?_
        refine lv_iconst (v := (1 : Int32)) hx hb dX7_drop_24 (by decide) ?_
        refine lv_iadd hx hb dX7_drop_25 ?_
        obtain ⟨x10, hg11, hf⟩ := b_o1 hf
        refine x_cl hB (x_rv hB hW hS (As := [.int (x2 + (1 : Int32))]) (rest := [.int x2, .ref (G.2.2.1 k0)]) (ct_X7_spellingOf l G hk0 hg11) (cl_RX7_46 hB.2.2.2.2.1 ⟨Nat.le_of_ble_eq_true rfl, Nat.le_of_ble_eq_true rfl⟩) hk0 (by decide) rfl rfl hl.1 rfl (Nat.le_of_ble_eq_true rfl) dX7_drop_26 ⟨Nat.le_refl _, Nat.le_refl _⟩) hS (fun H locs hW hS => ?_)
        refine lv_aload_n hx hb dX7_drop_29 rfl (lv_at hl 0 rfl) ?_
        refine fg7_1 hB hW hk0 wd1_47 dX7_drop_30 ?_
        refine lv_iload_n hx hb dX7_drop_33 rfl (lv_at hl 1 rfl) ?_
        refine lv_iconst (v := (1 : Int32)) hx hb dX7_drop_34 (by decide) ?_
        refine lv_iadd hx hb dX7_drop_35 ?_
        obtain ⟨x12, hg13, hf⟩ := b_o1 hf
        refine x_ci hB (x_rn hB hW hS (As := [.ref (G.2.2.1 (k0 + 2)), .int (x2 + (1 : Int32))]) (rest := [.long x10, .int x2, .ref (G.2.2.1 k0)]) (ct_X8_at l G (rf7_1 hk0) hg13) (cl_RX7_34 hB.nst hB.2.2.2.2.1 ⟨Nat.le_of_ble_eq_true rfl, Nat.le_of_ble_eq_true rfl⟩) rfl hl.1 rfl (Nat.le_of_ble_eq_true rfl) dX7_drop_36 ⟨Nat.le_refl _, Nat.le_refl _⟩) hS (fun H locs hW hS => ?_)
        refine lv_aload_n hx hb dX7_drop_39 rfl (lv_at hl 0 rfl) ?_
        refine fg7_2 hB hW hk0 wd1_48 dX7_drop_40 ?_
        refine lv_iload_n hx hb dX7_drop_43 rfl (lv_at hl 1 rfl) ?_
        refine lv_iconst (v := (1 : Int32)) hx hb dX7_drop_44 (by decide) ?_
        refine lv_iadd hx hb dX7_drop_45 ?_
        obtain ⟨x14, hg15, hf⟩ := b_o1 hf
        refine x_ci hB (x_rn hB hW hS (As := [.ref (G.2.2.1 (k0 + 3)), .int (x2 + (1 : Int32))]) (rest := [.int x12, .long x10, .int x2, .ref (G.2.2.1 k0)]) (ct_X8_at l G (rf7_2 hk0) hg15) (cl_RX7_34 hB.nst hB.2.2.2.2.1 ⟨Nat.le_of_ble_eq_true rfl, Nat.le_of_ble_eq_true rfl⟩) rfl hl.1 rfl (Nat.le_of_ble_eq_true rfl) dX7_drop_46 ⟨Nat.le_refl _, Nat.le_refl _⟩) hS (fun H locs hW hS => ?_)
        obtain ⟨M16, hg17, hf⟩ := b_o1 hf
        refine x_cv hB (x_rv hB hW hS (As := [.int x2, .long x10, .int x12, .int x14]) (rest := []) (ct_X7_write l G hk0 hg17) (cl_RX7_38 hB.2.2.2.2.1 ⟨Nat.le_of_ble_eq_true rfl, Nat.le_of_ble_eq_true rfl⟩) hk0 (by decide) rfl rfl hl.1 rfl (Nat.le_of_ble_eq_true rfl) dX7_drop_49 ⟨Nat.le_refl _, Nat.le_refl _⟩) hS (fun H locs hW hS => ?_)
        obtain ⟨x18, ex18⟩ : ∃ y : Int32, y = x2 + (1 : Int32) := ⟨_, rfl⟩
        have hf := nm_o hf ex18
        refine lv_iinc (v := x18) (lv' := [(2, .int x18), (0, .ref (G.2.2.1 k0))]) hx hb dX7_drop_52 hl (k := 1) rfl (by rw [ex18]; rfl) (by decide) rfl (fun ls hl => ?_)
        refine lv_goto (tgt := 12) hx hb dX7_drop_55 (by decide) ?_
        exact ih x18 M16 _ _ ls hW hS (lv_sub hl [1, 0] rfl) hf
  exact loop5 FU p1 M1 _ _ ls hW hS (lv_sub hl [1, 0] rfl) hL
theorem cl_RX8_127 {R : Room} {s : State} {args : Array Value} (ht : ∀ w ∈ lw_all, w.before args s = true) (hR : 2 + 1 ≤ R.frames ∧ 8 + (3 + 11) + 47 ≤ R.locals) : CallW R s args RX8 RX7 127 yX7_drop cX7_drop 3 (some .int) (wsq yX7_drop cX7_drop 3 (some .int)) (rmq 2 47) 0 0 1 := cwV 1 ht (goodV wd3_115 wd3_116 wd3_117 wd1_3 wd3_118) rfl rfl rfl (by decide +kernel) hR
def f_X8_drops (p1 : Int32) (M : Mem) : Option (Int32 × Mem) := (bq1 (f_X7_has 3 p1 M) (fun (x1 : Int32) => (if x1 = 0 then (bq2 (f_X8_refuse (-1 : Int32) M) (fun (x9 : Int32) (M10 : Mem) => some (x9, M10))) else (bq1 (f_X1_remember 1 M) (fun (M4 : Mem) => bq2 (f_X7_drop 3 p1 M4) (fun (x6 : Int32) (M7 : Mem) => some (x6, M7)))))))
set_option maxHeartbeats 4000000 in
set_option maxRecDepth 100000 in
theorem ct_X8_drops (l : Launch) (G : GG) {p1 : Int32} {M : Mem} {r : Int32} {Mr : Mem}  (hf : f_X8_drops p1 M = some (r, Mr)) : Met l yX8_drops (wsq yX8_drops cX8_drops 2 (some .int)) (rmq 5 106) (va_Pc [.ref (G.2.2.1 0), .int p1] (World G M)) (Qi G r Mr) 0 0 (adA G) := by
  refine x_start (plainFor_of_name (by decide)) (Nat.le_of_ble_eq_true rfl) ?_
  intro p e s m args below meth c hB hr hlk hW hS ls hl
  have hx := hB.x
  have hb := hB.b
  have hl : lv_has ls 2 [(0, .ref (G.2.2.1 0)), (1, .int p1)] := hl
  unfold f_X8_drops at hf
  refine lv_aload_n hx hb dX8_drops_0 rfl (lv_at hl 0 rfl) ?_
  refine fg8_0 hB hW tl0 wd2_91 dX8_drops_1 ?_
  refine fg3_1 hB hW tl1 wd1_95 dX8_drops_4 ?_
  refine lv_iload_n hx hb dX8_drops_7 rfl (lv_at hl 1 rfl) ?_
  obtain ⟨x1, hg2, hf⟩ := b_o1 hf
  refine x_ci hB (x_rv hB hW hS (As := [.int p1]) (rest := []) (ct_X7_has l G tl3 hg2) (cl_RX8_121 hB.2.2.2.2.1 ⟨Nat.le_of_ble_eq_true rfl, Nat.le_of_ble_eq_true rfl⟩) tl3 (by decide) rfl rfl hl.1 rfl (Nat.le_of_ble_eq_true rfl) dX8_drops_8 ⟨Nat.le_refl _, Nat.le_refl _⟩) hS (fun H locs hW hS => ?_)
  refine lv_if_ne (tgt := 20) hx hb dX8_drops_11 (by decide) (fun c3 => ?_) (fun c3 => ?_)
  · have hf := i_f hf c3
    refine lv_aload_n hx hb dX8_drops_20 rfl (lv_at hl 0 rfl) ?_
    refine fg8_3 hB hW tl0 wd2_94 dX8_drops_21 ?_
    refine lv_aload_n hx hb dX8_drops_24 rfl (lv_at hl 0 rfl) ?_
    refine fg8_0 hB hW tl0 wd2_91 dX8_drops_25 ?_
    obtain ⟨M4, hg5, hf⟩ := b_o1 hf
    refine x_cv hB (x_rv hB hW hS (As := [.ref (G.2.2.1 1)]) (rest := []) (ct_X1_remember l G tl1 hg5) (cl_RX8_89 hB.2.2.2.2.1 ⟨Nat.le_of_ble_eq_true rfl, Nat.le_of_ble_eq_true rfl⟩) tl34 (by decide) rfl rfl hl.1 rfl (Nat.le_of_ble_eq_true rfl) dX8_drops_28 ⟨Nat.le_refl _, Nat.le_refl _⟩) hS (fun H locs hW hS => ?_)
    refine lv_aload_n hx hb dX8_drops_31 rfl (lv_at hl 0 rfl) ?_
    refine fg8_0 hB hW tl0 wd2_91 dX8_drops_32 ?_
    refine fg3_1 hB hW tl1 wd1_95 dX8_drops_35 ?_
    refine lv_iload_n hx hb dX8_drops_38 rfl (lv_at hl 1 rfl) ?_
    obtain ⟨x6, M7, hg8, hf⟩ := b_o2 hf
    refine x_ci hB (x_rv hB hW hS (As := [.int p1]) (rest := []) (ct_X7_drop l G tl3 hg8) (cl_RX8_127 hB.2.2.2.2.1 ⟨Nat.le_of_ble_eq_true rfl, Nat.le_of_ble_eq_true rfl⟩) tl3 (by decide) rfl rfl hl.1 rfl (Nat.le_of_ble_eq_true rfl) dX8_drops_39 ⟨Nat.le_refl _, Nat.le_refl _⟩) hS (fun H locs hW hS => ?_)
    exact e_i hB hW hS hr hlk (s_1 hf) (s_2 hf) dX8_drops_42
  · have hf := i_t hf c3
    refine lv_aload_n hx hb dX8_drops_14 rfl (lv_at hl 0 rfl) ?_
    refine lv_iconst (v := (-1 : Int32)) hx hb dX8_drops_15 (by decide) ?_
    obtain ⟨x9, M10, hg11, hf⟩ := b_o2 hf
    refine x_ci hB (x_rv hB hW hS (As := [.int (-1 : Int32)]) (rest := []) (ct_X8_refuse l G hg11) (cl_RX8_50 hB.2.2.2.2.1 ⟨Nat.le_of_ble_eq_true rfl, Nat.le_of_ble_eq_true rfl⟩) tl0 (by decide) rfl rfl hl.1 rfl (Nat.le_of_ble_eq_true rfl) dX8_drops_16 ⟨Nat.le_refl _, Nat.le_refl _⟩) hS (fun H locs hW hS => ?_)
    exact e_i hB hW hS hr hlk (s_1 hf) (s_2 hf) dX8_drops_19
theorem cl_RX8_134 {R : Room} {s : State} {args : Array Value} (ht : ∀ w ∈ lw_all, w.before args s = true) (hR : 2 + 1 ≤ R.frames ∧ 8 + (4 + 11) + 45 ≤ R.locals) : CallW R s args RX8 RX4 134 yX4_hasRoomFor cX4_hasRoomFor 4 (some .boolean) (wsq yX4_hasRoomFor cX4_hasRoomFor 4 (some .boolean)) (rmq 2 45) 0 0 2 := cwV 2 ht (goodV wd3_127 wd3_21 wd3_22 wd1_4 wd3_23) rfl rfl rfl (by decide +kernel) hR
theorem cl_RX8_140 {R : Room} {s : State} {args : Array Value} (ht : ∀ w ∈ lw_all, w.before args s = true) (hR : 2 + 1 ≤ R.frames ∧ 8 + (7 + 11) + 45 ≤ R.locals) : CallW R s args RX8 RX4 140 yX4_take cX4_take 7 (some .int) (wsq yX4_take cX4_take 7 (some .int)) (rmq 2 45) 0 0 4 := cwV 4 ht (goodV wd3_128 wd3_34 wd3_35 wd1_4 wd3_36) rfl rfl rfl (by decide +kernel) hR
def f_X8_patterns (p1 : Int32) (p2 : Int32) (p3 : Int32) (p4 : Int32) (M : Mem) : Option (Int32 × Mem) := (nmq ((if 0 ≤ p2 then ((2 : Int32)) else ((1 : Int32)))) (fun (x1 : Int32) => (bq1 (f_X8_isLetter p1) (fun (x3 : Int32) => (jq (fun (M5 : Mem) => (bq2 (f_X8_refuse (-1 : Int32) M5) (fun (x8 : Int32) (M9 : Mem) => some (x8, M9)))) (fun (K7 : Mem → Option (Int32 × Mem)) => (if x3 = 0 then (K7 M) else (bq1 (f_X8_isLetterOrNone p2) (fun (x12 : Int32) => (if x12 = 0 then (K7 M) else (if p3 < 0 then (K7 M) else (if p3 ≤ x1 then (bq1 (f_X8_outside p4 (1 : Int32) (9 : Int32)) (fun (x17 : Int32) => (if x17 = 0 then (bq1 (f_X8_spellingOf p1 p2 (-1 : Int32)) (fun (x20 : Int64) => bq1 (f_X4_hasRoomFor 7 x20 p3 M) (fun (x22 : Int32) => (if x22 = 0 then (bq2 (f_X8_refuse (-6 : Int32) M) (fun (x30 : Int32) (M31 : Mem) => some (x30, M31))) else (bq1 (f_X1_remember 1 M) (fun (M25 : Mem) => bq2 (f_X4_take 7 x20 x1 p3 p4 M25) (fun (x27 : Int32) (M28 : Mem) => some (x27, M28)))))))) else (bq2 (f_X8_refuse x17 M) (fun (x33 : Int32) (M34 : Mem) => some (x33, M34)))))) else (K7 M)))))))))))))
set_option maxHeartbeats 4000000 in
set_option maxRecDepth 100000 in
theorem ct_X8_patterns (l : Launch) (G : GG) {p1 : Int32} {p2 : Int32} {p3 : Int32} {p4 : Int32} {M : Mem} {r : Int32} {Mr : Mem}  (hf : f_X8_patterns p1 p2 p3 p4 M = some (r, Mr)) : Met l yX8_patterns (wsq yX8_patterns cX8_patterns 9 (some .int)) (rmq 5 106) (va_Pc [.ref (G.2.2.1 0), .int p1, .int p2, .int p3, .int p4] (World G M)) (Qi G r Mr) 0 0 (adA G) := by
  refine x_start (plainFor_of_name (by decide)) (Nat.le_of_ble_eq_true rfl) ?_
  intro p e s m args below meth c hB hr hlk hW hS ls hl
  have hx := hB.x
  have hb := hB.b
  have hl : lv_has ls 9 [(0, .ref (G.2.2.1 0)), (1, .int p1), (2, .int p2), (3, .int p3), (4, .int p4)] := hl
  unfold f_X8_patterns at hf
  refine lv_iload_n hx hb dX8_patterns_0 rfl (lv_at hl 2 rfl) ?_
  obtain ⟨y36, evy36⟩ : ∃ z : Int32, (if 0 ≤ p2 then ((2 : Int32)) else ((1 : Int32))) = z := ⟨_, rfl⟩
  have hf := nm_o hf evy36.symm
  have main2 : ∀ (x1 : Int32) (H : Heap) (locs : List Loc) (ls : Array Slot), Wd G M H → va_S (adA G) s.heap H locs → lv_has ls 9 [(0, .ref (G.2.2.1 0)), (1, .int p1), (2, .int p2), (3, .int p3), (4, .int p4)] → x1 = y36 → W p l e (rmq 5 106) s m args below meth c H locs 0 0 (MQ below (Qi G r Mr) args s 0 0 (adA G)) (F0 m 9 ls [.int x1]) := by
    intro x1 H locs ls hW hS hl hE
    have hE := hE.symm
    subst hE
    refine lv_istore (lv' := [(5, .int y36), (0, .ref (G.2.2.1 0)), (1, .int p1), (2, .int p2), (3, .int p3), (4, .int p4)]) hx hb dX8_patterns_9 hl (by decide) rfl (fun ls hl => ?_)
    refine lv_iload_n hx hb dX8_patterns_11 rfl (lv_at hl 2 rfl) ?_
    obtain ⟨x3, hg4, hf⟩ := b_o1 hf
    refine x_ci hB (x_rs hB hW hS (As := [.int p1]) (rest := []) (ct_X8_isLetter l G hg4) (cl_RX8_81 hB.2.2.2.2.1 ⟨Nat.le_of_ble_eq_true rfl, Nat.le_of_ble_eq_true rfl⟩) rfl hl.1 rfl (Nat.le_of_ble_eq_true rfl) dX8_patterns_12 ⟨Nat.le_refl _, Nat.le_refl _⟩) hS (fun H locs hW hS => ?_)
    obtain ⟨K7, eK7, hf⟩ := j_o hf
    have main6 : ∀ (M5 : Mem) (H : Heap) (locs : List Loc) (ls : Array Slot), Wd G M5 H → va_S (adA G) s.heap H locs → lv_has ls 9 [(0, .ref (G.2.2.1 0))] → K7 M5 = some (r, Mr) → W p l e (rmq 5 106) s m args below meth c H locs 0 0 (MQ below (Qi G r Mr) args s 0 0 (adA G)) (F0 m 35 ls []) := by
      intro M5 H locs ls hW hS hl hf
      subst eK7
      refine lv_aload_n hx hb dX8_patterns_35 rfl (lv_at hl 0 rfl) ?_
      refine lv_iconst (v := (-1 : Int32)) hx hb dX8_patterns_36 (by decide) ?_
      obtain ⟨x8, M9, hg10, hf⟩ := b_o2 hf
      refine x_ci hB (x_rv hB hW hS (As := [.int (-1 : Int32)]) (rest := []) (ct_X8_refuse l G hg10) (cl_RX8_50 hB.2.2.2.2.1 ⟨Nat.le_of_ble_eq_true rfl, Nat.le_of_ble_eq_true rfl⟩) tl0 (by decide) rfl rfl hl.1 rfl (Nat.le_of_ble_eq_true rfl) dX8_patterns_37 ⟨Nat.le_refl _, Nat.le_refl _⟩) hS (fun H locs hW hS => ?_)
      exact e_i hB hW hS hr hlk (s_1 hf) (s_2 hf) dX8_patterns_40
    refine lv_if_eq (tgt := 35) hx hb dX8_patterns_15 (by decide) (fun c11 => ?_) (fun c11 => ?_)
    · have hf := i_t hf c11
      exact main6 M _ _ ls hW hS (lv_sub hl [1] rfl) hf
    · have hf := i_f hf c11
      refine lv_iload_n hx hb dX8_patterns_18 rfl (lv_at hl 3 rfl) ?_
      obtain ⟨x12, hg13, hf⟩ := b_o1 hf
      refine x_ci hB (x_rs hB hW hS (As := [.int p2]) (rest := []) (ct_X8_isLetterOrNone l G hg13) (cl_RX8_103 hB.2.2.2.2.1 ⟨Nat.le_of_ble_eq_true rfl, Nat.le_of_ble_eq_true rfl⟩) rfl hl.1 rfl (Nat.le_of_ble_eq_true rfl) dX8_patterns_19 ⟨Nat.le_refl _, Nat.le_refl _⟩) hS (fun H locs hW hS => ?_)
      refine lv_if_eq (tgt := 35) hx hb dX8_patterns_22 (by decide) (fun c14 => ?_) (fun c14 => ?_)
      · have hf := i_t hf c14
        exact main6 M _ _ ls hW hS (lv_sub hl [1] rfl) hf
      · have hf := i_f hf c14
        refine lv_iload_n hx hb dX8_patterns_25 rfl (lv_at hl 4 rfl) ?_
        refine lv_if_lt (tgt := 35) hx hb dX8_patterns_26 (by decide) (fun c15 => ?_) (fun c15 => ?_)
        · have hf := i_t hf c15
          exact main6 M _ _ ls hW hS (lv_sub hl [1] rfl) hf
        · have hf := i_f hf c15
          refine lv_iload_n hx hb dX8_patterns_29 rfl (lv_at hl 4 rfl) ?_
          refine lv_iload hx hb dX8_patterns_30 (lv_at hl 0 rfl) ?_
          refine lv_icmp_le (tgt := 41) hx hb dX8_patterns_32 (by decide) (fun c16 => ?_) (fun c16 => ?_)
          · have hf := i_t hf c16
            refine lv_iload hx hb dX8_patterns_41 (lv_at hl 5 rfl) ?_
            refine lv_iconst (v := (1 : Int32)) hx hb dX8_patterns_43 (by decide) ?_
            refine lv_bipush (v := (9 : Int32)) hx hb dX8_patterns_44 (by decide) ?_
            obtain ⟨x17, hg18, hf⟩ := b_o1 hf
            refine x_ci hB (x_rs hB hW hS (As := [.int p4, .int (1 : Int32), .int (9 : Int32)]) (rest := []) (ct_X8_outside l G hg18) (cl_RX8_85 hB.2.2.2.2.1 ⟨Nat.le_of_ble_eq_true rfl, Nat.le_of_ble_eq_true rfl⟩) rfl hl.1 rfl (Nat.le_of_ble_eq_true rfl) dX8_patterns_46 ⟨Nat.le_refl _, Nat.le_refl _⟩) hS (fun H locs hW hS => ?_)
            refine lv_istore (lv' := [(6, .int x17), (5, .int y36), (0, .ref (G.2.2.1 0)), (1, .int p1), (2, .int p2), (3, .int p3), (4, .int p4)]) hx hb dX8_patterns_49 hl (by decide) rfl (fun ls hl => ?_)
            refine lv_iload hx hb dX8_patterns_51 (lv_at hl 0 rfl) ?_
            refine lv_if_eq (tgt := 63) hx hb dX8_patterns_53 (by decide) (fun c19 => ?_) (fun c19 => ?_)
            · have hf := i_t hf c19
              refine lv_iload_n hx hb dX8_patterns_63 rfl (lv_at hl 3 rfl) ?_
              refine lv_iload_n hx hb dX8_patterns_64 rfl (lv_at hl 4 rfl) ?_
              refine lv_iconst (v := (-1 : Int32)) hx hb dX8_patterns_65 (by decide) ?_
              obtain ⟨x20, hg21, hf⟩ := b_o1 hf
              refine x_cl hB (x_rs hB hW hS (As := [.int p1, .int p2, .int (-1 : Int32)]) (rest := []) (ct_X8_spellingOf l G hg21) (cl_RX8_113 hB.2.2.2.2.1 ⟨Nat.le_of_ble_eq_true rfl, Nat.le_of_ble_eq_true rfl⟩) rfl hl.1 rfl (Nat.le_of_ble_eq_true rfl) dX8_patterns_66 ⟨Nat.le_refl _, Nat.le_refl _⟩) hS (fun H locs hW hS => ?_)
              refine lv_lstore (lv' := [(7, .long x20), (6, .int x17), (5, .int y36), (0, .ref (G.2.2.1 0)), (1, .int p1), (2, .int p2), (3, .int p3), (4, .int p4)]) hx hb dX8_patterns_69 hl (by decide) rfl (fun ls hl => ?_)
              refine lv_aload_n hx hb dX8_patterns_71 rfl (lv_at hl 3 rfl) ?_
              refine fg8_0 hB hW tl0 wd2_91 dX8_patterns_72 ?_
              refine fg3_2 hB hW tl1 wd1_98 dX8_patterns_75 ?_
              refine lv_lload hx hb dX8_patterns_78 (lv_at hl 0 rfl) ?_
              refine lv_iload_n hx hb dX8_patterns_80 rfl (lv_at hl 6 rfl) ?_
              obtain ⟨x22, hg23, hf⟩ := b_o1 hf
              refine x_ci hB (x_rv hB hW hS (As := [.long x20, .int p3]) (rest := []) (ct_X4_hasRoomFor l G tl7 hg23) (cl_RX8_134 hB.2.2.2.2.1 ⟨Nat.le_of_ble_eq_true rfl, Nat.le_of_ble_eq_true rfl⟩) tl7 (by decide) rfl rfl hl.1 rfl (Nat.le_of_ble_eq_true rfl) dX8_patterns_81 ⟨Nat.le_refl _, Nat.le_refl _⟩) hS (fun H locs hW hS => ?_)
              refine lv_if_ne (tgt := 94) hx hb dX8_patterns_84 (by decide) (fun c24 => ?_) (fun c24 => ?_)
              · have hf := i_f hf c24
                refine lv_aload_n hx hb dX8_patterns_94 rfl (lv_at hl 3 rfl) ?_
                refine fg8_3 hB hW tl0 wd2_94 dX8_patterns_95 ?_
                refine lv_aload_n hx hb dX8_patterns_98 rfl (lv_at hl 3 rfl) ?_
                refine fg8_0 hB hW tl0 wd2_91 dX8_patterns_99 ?_
                obtain ⟨M25, hg26, hf⟩ := b_o1 hf
                refine x_cv hB (x_rv hB hW hS (As := [.ref (G.2.2.1 1)]) (rest := []) (ct_X1_remember l G tl1 hg26) (cl_RX8_89 hB.2.2.2.2.1 ⟨Nat.le_of_ble_eq_true rfl, Nat.le_of_ble_eq_true rfl⟩) tl34 (by decide) rfl rfl hl.1 rfl (Nat.le_of_ble_eq_true rfl) dX8_patterns_102 ⟨Nat.le_refl _, Nat.le_refl _⟩) hS (fun H locs hW hS => ?_)
                refine lv_aload_n hx hb dX8_patterns_105 rfl (lv_at hl 3 rfl) ?_
                refine fg8_0 hB hW tl0 wd2_91 dX8_patterns_106 ?_
                refine fg3_2 hB hW tl1 wd1_98 dX8_patterns_109 ?_
                refine lv_lload hx hb dX8_patterns_112 (lv_at hl 0 rfl) ?_
                refine lv_iload hx hb dX8_patterns_114 (lv_at hl 2 rfl) ?_
                refine lv_iload_n hx hb dX8_patterns_116 rfl (lv_at hl 6 rfl) ?_
                refine lv_iload hx hb dX8_patterns_117 (lv_at hl 7 rfl) ?_
                obtain ⟨x27, M28, hg29, hf⟩ := b_o2 hf
                refine x_ci hB (x_rv hB hW hS (As := [.long x20, .int y36, .int p3, .int p4]) (rest := []) (ct_X4_take l G tl7 hg29) (cl_RX8_140 hB.2.2.2.2.1 ⟨Nat.le_of_ble_eq_true rfl, Nat.le_of_ble_eq_true rfl⟩) tl7 (by decide) rfl rfl hl.1 rfl (Nat.le_of_ble_eq_true rfl) dX8_patterns_119 ⟨Nat.le_refl _, Nat.le_refl _⟩) hS (fun H locs hW hS => ?_)
                exact e_i hB hW hS hr hlk (s_1 hf) (s_2 hf) dX8_patterns_122
              · have hf := i_t hf c24
                refine lv_aload_n hx hb dX8_patterns_87 rfl (lv_at hl 3 rfl) ?_
                refine lv_bipush (v := (-6 : Int32)) hx hb dX8_patterns_88 (by decide) ?_
                obtain ⟨x30, M31, hg32, hf⟩ := b_o2 hf
                refine x_ci hB (x_rv hB hW hS (As := [.int (-6 : Int32)]) (rest := []) (ct_X8_refuse l G hg32) (cl_RX8_50 hB.2.2.2.2.1 ⟨Nat.le_of_ble_eq_true rfl, Nat.le_of_ble_eq_true rfl⟩) tl0 (by decide) rfl rfl hl.1 rfl (Nat.le_of_ble_eq_true rfl) dX8_patterns_90 ⟨Nat.le_refl _, Nat.le_refl _⟩) hS (fun H locs hW hS => ?_)
                exact e_i hB hW hS hr hlk (s_1 hf) (s_2 hf) dX8_patterns_93
            · have hf := i_f hf c19
              refine lv_aload_n hx hb dX8_patterns_56 rfl (lv_at hl 2 rfl) ?_
              refine lv_iload hx hb dX8_patterns_57 (lv_at hl 0 rfl) ?_
              obtain ⟨x33, M34, hg35, hf⟩ := b_o2 hf
              refine x_ci hB (x_rv hB hW hS (As := [.int x17]) (rest := []) (ct_X8_refuse l G hg35) (cl_RX8_50 hB.2.2.2.2.1 ⟨Nat.le_of_ble_eq_true rfl, Nat.le_of_ble_eq_true rfl⟩) tl0 (by decide) rfl rfl hl.1 rfl (Nat.le_of_ble_eq_true rfl) dX8_patterns_59 ⟨Nat.le_refl _, Nat.le_refl _⟩) hS (fun H locs hW hS => ?_)
              exact e_i hB hW hS hr hlk (s_1 hf) (s_2 hf) dX8_patterns_62
          · have hf := i_f hf c16
            exact main6 M _ _ ls hW hS (lv_sub hl [1] rfl) hf
  have hf := evy36
  refine lv_if_ge (tgt := 8) hx hb dX8_patterns_1 (by decide) (fun c37 => ?_) (fun c37 => ?_)
  · have hf := i_t hf c37
    refine lv_iconst (v := (2 : Int32)) hx hb dX8_patterns_8 (by decide) ?_
    exact main2 (2 : Int32) _ _ ls hW hS (lv_sub hl [0, 1, 2, 3, 4] rfl) hf
  · have hf := i_f hf c37
    refine lv_iconst (v := (1 : Int32)) hx hb dX8_patterns_4 (by decide) ?_
    refine lv_goto (tgt := 9) hx hb dX8_patterns_5 (by decide) ?_
    exact main2 (1 : Int32) _ _ ls hW hS (lv_sub hl [0, 1, 2, 3, 4] rfl) hf
def f_X8_line (p1 : Int32) (M : Mem) : Option (Int32 × Mem) := (bq1 (f_X8_outside p1 (10 : Int32) (60 : Int32)) (fun (x1 : Int32) => (if x1 = 0 then (bq1 (f_X1_remember 1 M) (fun (M4 : Mem) => nmq ((gi M4 1 3)) (fun (x6 : Int32) => nmq (si M4 1 3 p1) (fun (M7 : Mem) => some (x6, M7))))) else (bq2 (f_X8_refuse x1 M) (fun (x8 : Int32) (M9 : Mem) => some (x8, M9))))))
set_option maxHeartbeats 4000000 in
set_option maxRecDepth 100000 in
theorem ct_X8_line (l : Launch) (G : GG) {p1 : Int32} {M : Mem} {r : Int32} {Mr : Mem}  (hf : f_X8_line p1 M = some (r, Mr)) : Met l yX8_line (wsq yX8_line cX8_line 4 (some .int)) (rmq 5 106) (va_Pc [.ref (G.2.2.1 0), .int p1] (World G M)) (Qi G r Mr) 0 0 (adA G) := by
  refine x_start (plainFor_of_name (by decide)) (Nat.le_of_ble_eq_true rfl) ?_
  intro p e s m args below meth c hB hr hlk hW hS ls hl
  have hx := hB.x
  have hb := hB.b
  have hl : lv_has ls 4 [(0, .ref (G.2.2.1 0)), (1, .int p1)] := hl
  unfold f_X8_line at hf
  refine lv_iload_n hx hb dX8_line_0 rfl (lv_at hl 1 rfl) ?_
  refine lv_bipush (v := (10 : Int32)) hx hb dX8_line_1 (by decide) ?_
  refine lv_bipush (v := (60 : Int32)) hx hb dX8_line_3 (by decide) ?_
  obtain ⟨x1, hg2, hf⟩ := b_o1 hf
  refine x_ci hB (x_rs hB hW hS (As := [.int p1, .int (10 : Int32), .int (60 : Int32)]) (rest := []) (ct_X8_outside l G hg2) (cl_RX8_85 hB.2.2.2.2.1 ⟨Nat.le_of_ble_eq_true rfl, Nat.le_of_ble_eq_true rfl⟩) rfl hl.1 rfl (Nat.le_of_ble_eq_true rfl) dX8_line_5 ⟨Nat.le_refl _, Nat.le_refl _⟩) hS (fun H locs hW hS => ?_)
  refine lv_istore_n (lv' := [(2, .int x1), (0, .ref (G.2.2.1 0)), (1, .int p1)]) hx hb dX8_line_8 rfl hl (by decide) rfl (fun ls hl => ?_)
  refine lv_iload_n hx hb dX8_line_9 rfl (lv_at hl 0 rfl) ?_
  refine lv_if_eq (tgt := 19) hx hb dX8_line_10 (by decide) (fun c3 => ?_) (fun c3 => ?_)
  · have hf := i_t hf c3
    refine lv_aload_n hx hb dX8_line_19 rfl (lv_at hl 1 rfl) ?_
    refine fg8_3 hB hW tl0 wd2_94 dX8_line_20 ?_
    refine lv_aload_n hx hb dX8_line_23 rfl (lv_at hl 1 rfl) ?_
    refine fg8_0 hB hW tl0 wd2_91 dX8_line_24 ?_
    obtain ⟨M4, hg5, hf⟩ := b_o1 hf
    refine x_cv hB (x_rv hB hW hS (As := [.ref (G.2.2.1 1)]) (rest := []) (ct_X1_remember l G tl1 hg5) (cl_RX8_89 hB.2.2.2.2.1 ⟨Nat.le_of_ble_eq_true rfl, Nat.le_of_ble_eq_true rfl⟩) tl34 (by decide) rfl rfl hl.1 rfl (Nat.le_of_ble_eq_true rfl) dX8_line_27 ⟨Nat.le_refl _, Nat.le_refl _⟩) hS (fun H locs hW hS => ?_)
    refine lv_aload_n hx hb dX8_line_30 rfl (lv_at hl 1 rfl) ?_
    refine fg8_0 hB hW tl0 wd2_91 dX8_line_31 ?_
    refine fg3_3 hB hW tl1 wd1_102 dX8_line_34 ?_
    refine lv_topi (fun x6 ex6 => ?_)
    have hf := nm_o hf ex6
    refine lv_istore_n (lv' := [(3, .int x6), (2, .int x1), (0, .ref (G.2.2.1 0)), (1, .int p1)]) hx hb dX8_line_37 rfl hl (by decide) rfl (fun ls hl => ?_)
    refine lv_aload_n hx hb dX8_line_38 rfl (lv_at hl 2 rfl) ?_
    refine fg8_0 hB hW tl0 wd2_91 dX8_line_39 ?_
    refine lv_iload_n hx hb dX8_line_42 rfl (lv_at hl 3 rfl) ?_
    refine fp3_3 hB hW hS tl1 wd1_102 dX8_line_43 (fun H locs M7 eM7 hW hS => ?_)
    have hf := nm_o hf eM7
    refine lv_iload_n hx hb dX8_line_46 rfl (lv_at hl 0 rfl) ?_
    exact e_i hB hW hS hr hlk (s_1 hf) (s_2 hf) dX8_line_47
  · have hf := i_f hf c3
    refine lv_aload_n hx hb dX8_line_13 rfl (lv_at hl 1 rfl) ?_
    refine lv_iload_n hx hb dX8_line_14 rfl (lv_at hl 0 rfl) ?_
    obtain ⟨x8, M9, hg10, hf⟩ := b_o2 hf
    refine x_ci hB (x_rv hB hW hS (As := [.int x1]) (rest := []) (ct_X8_refuse l G hg10) (cl_RX8_50 hB.2.2.2.2.1 ⟨Nat.le_of_ble_eq_true rfl, Nat.le_of_ble_eq_true rfl⟩) tl0 (by decide) rfl rfl hl.1 rfl (Nat.le_of_ble_eq_true rfl) dX8_line_15 ⟨Nat.le_refl _, Nat.le_refl _⟩) hS (fun H locs hW hS => ?_)
    exact e_i hB hW hS hr hlk (s_1 hf) (s_2 hf) dX8_line_18
