theorem cl_RX9_202 {R : Room} {s : State} {args : Array Value} (ht : ∀ w ∈ lw_all, w.before args s = true) (hR : 4 + 1 ≤ R.frames ∧ 8 + (2 + 11) + 95 ≤ R.locals) : CallW R s args RX9 RX9 202 yX9_findFragments cX9_findFragments 2 none (wsq yX9_findFragments cX9_findFragments 2 none) (rmq 4 95) 0 0 0 := cwV 0 ht (goodV wd6_217 wd6_219 wsel_64 wd1_10 wd6_220) rfl rfl rfl (by decide +kernel) hR
theorem cl_RX9_205 {R : Room} {s : State} {args : Array Value} (ht : ∀ w ∈ lw_all, w.before args s = true) (hR : 4 + 1 ≤ R.frames ∧ 8 + (4 + 11) + 96 ≤ R.locals) : CallW R s args RX9 RX9 205 yX9_findBestOf cX9_findBestOf 4 none (wsq yX9_findBestOf cX9_findBestOf 4 none) (rmq 4 96) 0 0 1 := cwV 1 ht (goodV wd6_229 wd6_231 wsel_67 wd1_10 wd6_232) rfl rfl rfl (by decide +kernel) hR
theorem cl_RX9_208 {R : Room} {s : State} {args : Array Value} (ht : ∀ w ∈ lw_all, w.before args s = true) (hR : 0 + 1 ≤ R.frames ∧ 8 + (3 + 11) + 0 ≤ R.locals) : CallW R s args RX9 RX9 208 yX9_linesBack cX9_linesBack 3 (some .int) (wsq yX9_linesBack cX9_linesBack 3 (some .int)) (rmq 0 0) 0 0 0 := cwV 0 ht (goodV wd7_39 wd7_41 wsel_78 wd1_10 wd7_42) rfl rfl rfl (by decide +kernel) hR
def f_X9_findLines_L82  (K18 : Int32 → Int32 → Mem → Option (Mem)) (x15 : Int32) (x16 : Int32) (M17 : Mem) : Option (Mem) := (if x16 < 0 then (some (M17)) else (gq (inB x16 162) (nmq (si M17 155 ((x16 : Int32).toNatClampNeg) x15) (fun (M25 : Mem) => (if x16 ≤ 0 then (nmq (x16 + (-1 : Int32)) (fun (x27 : Int32) => (K18 x15 x27 M25))) else (gq (inB x15 161) ((nmq ((gi M25 154 ((x15 : Int32).toNatClampNeg))) (fun (x29 : Int32) => nmq (x16 + (-1 : Int32)) (fun (x30 : Int32) => (K18 x29 x30 M25)))))))))))
def f_X9_findLines_L21  (K7 : Int32 → Mem → Option (Mem)) (x5 : Int32) (M6 : Mem) : Option (Mem) := (if (gi M6 139 25) < x5 then (some (M6)) else (bq1 (f_X9_findBestOf x5 M6) (fun (M42 : Mem) => nmq (x5 + (1 : Int32)) (fun (x44 : Int32) => (K7 x44 M42)))))
def f_X9_findLines (M : Mem) : Option (Int32 × Mem) := (bq1 (f_X9_findFragments M) (fun (M1 : Mem) => nmq (sf M1 153 0 FP.fconst0) (fun (M3 : Mem) => nmq (si M3 154 0 (-9 : Int32)) (fun (M4 : Mem) => (bq1 (lq2 f_X9_findLines_L21 FU (1 : Int32) M4) (fun (M9 : Mem) => (bq1 ((jq (fun (_ : Unit) => (bq1 (f_X9_linesBack M9) (fun (x34 : Int32) => (some (x34))))) (fun (K33 : Unit → Option (Int32)) => (if (gi M9 139 25) ≤ 0 then (K33 ()) else (gq (inB (gi M9 139 25) 161) ((if 0 ≤ (gi M9 154 (((gi M9 139 25) : Int32).toNatClampNeg)) then (K33 ()) else (some ((-9 : Int32))))))))) : Option (Int32)) (fun (x10 : Int32) => (nmq (si M9 139 29 x10) (fun (M12 : Mem) => nmq ((gi M12 139 25)) (fun (x13 : Int32) => nmq ((gi M12 139 29)) (fun (x14 : Int32) => (bq1 (lq3 f_X9_findLines_L82 FU x13 x14 M12) (fun (M20 : Mem) => some ((gi M20 139 29), M20)))))))))))))))
set_option maxHeartbeats 4000000 in
set_option maxRecDepth 100000 in
theorem ct_X9_findLines (l : Launch) (G : GG)  {M : Mem} {r : Int32} {Mr : Mem}  (hf : f_X9_findLines M = some (r, Mr)) : Met l yX9_findLines (wsq yX9_findLines cX9_findLines 3 (some .int)) (rmq 5 119) (va_Pc [.ref (G.2.2.1 139)] (World G M)) (Qi G r Mr) 0 0 (adA G) := by
  refine x_start (plainFor_of_name (by decide)) (Nat.le_of_ble_eq_true rfl) ?_
  intro p e s m args below meth c hB hr hlk hW hS ls hl
  have hx := hB.x
  have hb := hB.b
  have hl : lv_has ls 3 [(0, .ref (G.2.2.1 139))] := hl
  unfold f_X9_findLines at hf
  refine lv_aload_n hx hb dX9_findLines_0 rfl (lv_at hl 0 rfl) ?_
  obtain ⟨M1, hg2, hf⟩ := b_o1 hf
  refine x_cv hB (x_rv hB hW hS (As := []) (rest := []) (ct_X9_findFragments l G hg2) (cl_RX9_202 hB.2.2.2.2.1 ⟨Nat.le_of_ble_eq_true rfl, Nat.le_of_ble_eq_true rfl⟩) tl139 (by decide) rfl rfl hl.1 rfl (Nat.le_of_ble_eq_true rfl) dX9_findLines_1 ⟨Nat.le_refl _, Nat.le_refl _⟩) hS (fun H locs hW hS => ?_)
  refine lv_aload_n hx hb dX9_findLines_4 rfl (lv_at hl 0 rfl) ?_
  refine fg9_26 hB hW tl139 wd5_105 dX9_findLines_5 ?_
  refine lv_iconst (v := (0 : Int32)) hx hb dX9_findLines_8 (by decide) ?_
  refine lv_fconst0 hx hb dX9_findLines_9 ?_
  refine x_f hB hW hS tl153 al153 (by decide) dX9_findLines_10 (fun H locs M3 eM3 hW hS => ?_)
  have hf := nm_o hf eM3
  refine lv_aload_n hx hb dX9_findLines_11 rfl (lv_at hl 0 rfl) ?_
  refine fg9_27 hB hW tl139 wd5_106 dX9_findLines_12 ?_
  refine lv_iconst (v := (0 : Int32)) hx hb dX9_findLines_15 (by decide) ?_
  refine lv_bipush (v := (-9 : Int32)) hx hb dX9_findLines_16 (by decide) ?_
  refine x_i hB hW hS tl154 al154 (by decide) dX9_findLines_18 (fun H locs M4 eM4 hW hS => ?_)
  have hf := nm_o hf eM4
  refine lv_iconst (v := (1 : Int32)) hx hb dX9_findLines_19 (by decide) ?_
  refine lv_istore_n (lv' := [(1, .int (1 : Int32)), (0, .ref (G.2.2.1 139))]) hx hb dX9_findLines_20 rfl hl (by decide) rfl (fun ls hl => ?_)
  obtain ⟨M39, hL, hf⟩ := b_o1 hf
  have main40 : ∀ (M9 : Mem) (H : Heap) (locs : List Loc) (ls : Array Slot), Wd G M9 H → va_S (adA G) s.heap H locs → lv_has ls 3 [(0, .ref (G.2.2.1 139))] → some (M9) = some (M39) → W p l e (rmq 5 119) s m args below meth c H locs 0 0 (MQ below (Qi G r Mr) args s 0 0 (adA G)) (F0 m 40 ls []) := by
    intro M9 H locs ls hW hS hl hE
    cases hE
    refine lv_aload_n hx hb dX9_findLines_40 rfl (lv_at hl 0 rfl) ?_
    refine lv_aload_n hx hb dX9_findLines_41 rfl (lv_at hl 0 rfl) ?_
    refine fg9_25 hB hW tl139 wd5_104 dX9_findLines_42 ?_
    obtain ⟨y31, hR, hf⟩ := b_o1 hf
    have main11 : ∀ (x10 : Int32) (H : Heap) (locs : List Loc) (ls : Array Slot), Wd G M39 H → va_S (adA G) s.heap H locs → lv_has ls 3 [(0, .ref (G.2.2.1 139))] → some (x10) = some (y31) → W p l e (rmq 5 119) s m args below meth c H locs 0 0 (MQ below (Qi G r Mr) args s 0 0 (adA G)) (F0 m 69 ls [.int x10, .ref (G.2.2.1 139)]) := by
      intro x10 H locs ls hW hS hl hE
      cases hE
      refine fp9_29 hB hW hS tl139 wd5_108 dX9_findLines_69 (fun H locs M12 eM12 hW hS => ?_)
      have hf := nm_o hf eM12
      refine lv_aload_n hx hb dX9_findLines_72 rfl (lv_at hl 0 rfl) ?_
      refine fg9_25 hB hW tl139 wd5_104 dX9_findLines_73 ?_
      refine lv_topi (fun x13 ex13 => ?_)
      have hf := nm_o hf ex13
      refine lv_istore_n (lv' := [(1, .int x13), (0, .ref (G.2.2.1 139))]) hx hb dX9_findLines_76 rfl hl (by decide) rfl (fun ls hl => ?_)
      refine lv_aload_n hx hb dX9_findLines_77 rfl (lv_at hl 1 rfl) ?_
      refine fg9_29 hB hW tl139 wd5_108 dX9_findLines_78 ?_
      refine lv_topi (fun x14 ex14 => ?_)
      have hf := nm_o hf ex14
      refine lv_istore_n (lv' := [(2, .int x14), (1, .int x13), (0, .ref (G.2.2.1 139))]) hx hb dX9_findLines_81 rfl hl (by decide) rfl (fun ls hl => ?_)
      obtain ⟨M21, hL, hf⟩ := b_o1 hf
      have main22 : ∀ (M20 : Mem) (H : Heap) (locs : List Loc) (ls : Array Slot), Wd G M20 H → va_S (adA G) s.heap H locs → lv_has ls 3 [(0, .ref (G.2.2.1 139))] → some (M20) = some (M21) → W p l e (rmq 5 119) s m args below meth c H locs 0 0 (MQ below (Qi G r Mr) args s 0 0 (adA G)) (F0 m 114 ls []) := by
        intro M20 H locs ls hW hS hl hE
        cases hE
        refine lv_aload_n hx hb dX9_findLines_114 rfl (lv_at hl 0 rfl) ?_
        refine fg9_29 hB hW tl139 wd5_108 dX9_findLines_115 ?_
        exact e_i hB hW hS hr hlk (s_1 hf) (s_2 hf) dX9_findLines_118
      have loop19 : ∀ (n : Nat) (x15 : Int32) (x16 : Int32) (M17 : Mem) (H : Heap) (locs : List Loc) (ls : Array Slot), Wd G M17 H → va_S (adA G) s.heap H locs → lv_has ls 3 [(0, .ref (G.2.2.1 139)), (1, .int x15), (2, .int x16)] → lq3 f_X9_findLines_L82 n x15 x16 M17 = some (M21) → W p l e (rmq 5 119) s m args below meth c H locs 0 0 (MQ below (Qi G r Mr) args s 0 0 (adA G)) (F0 m 82 ls []) := by
        intro n
        induction n with
        | zero => intro x15 x16 M17 H locs ls hW hS hl hf; exact (l_z3 hf).elim
        | succ n ih =>
          intro x15 x16 M17 H locs ls hW hS hl hf
          have hf := l_s3 hf
          generalize lq3 f_X9_findLines_L82 n = K18 at ih hf
          unfold f_X9_findLines_L82 at hf
          refine lv_iload_n hx hb dX9_findLines_82 rfl (lv_at hl 2 rfl) ?_
          refine lv_if_lt (tgt := 114) hx hb dX9_findLines_83 (by decide) (fun c23 => ?_) (fun c23 => ?_)
          · have hf := i_t hf c23
            exact main22 M17 _ _ ls hW hS (lv_sub hl [0] rfl) hf
          · have hf := i_f hf c23
            refine lv_aload_n hx hb dX9_findLines_86 rfl (lv_at hl 0 rfl) ?_
            refine fg9_28 hB hW tl139 wd5_107 dX9_findLines_87 ?_
            refine lv_iload_n hx hb dX9_findLines_90 rfl (lv_at hl 2 rfl) ?_
            refine lv_iload_n hx hb dX9_findLines_91 rfl (lv_at hl 1 rfl) ?_
            obtain ⟨h24, hf⟩ := g_o hf
            refine x_i hB hW hS tl155 al155 h24 dX9_findLines_92 (fun H locs M25 eM25 hW hS => ?_)
            have hf := nm_o hf eM25
            refine lv_iload_n hx hb dX9_findLines_93 rfl (lv_at hl 2 rfl) ?_
            refine lv_if_le (tgt := 106) hx hb dX9_findLines_94 (by decide) (fun c26 => ?_) (fun c26 => ?_)
            · have hf := i_t hf c26
              refine lv_iload_n hx hb dX9_findLines_106 rfl (lv_at hl 1 rfl) ?_
              refine lv_istore_n (lv' := [(1, .int x15), (0, .ref (G.2.2.1 139)), (2, .int x16)]) hx hb dX9_findLines_107 rfl hl (by decide) rfl (fun ls hl => ?_)
              obtain ⟨x27, ex27⟩ : ∃ y : Int32, y = x16 + (-1 : Int32) := ⟨_, rfl⟩
              have hf := nm_o hf ex27
              refine lv_iinc (v := x27) (lv' := [(2, .int x27), (1, .int x15), (0, .ref (G.2.2.1 139))]) hx hb dX9_findLines_108 hl (k := 2) rfl (by rw [ex27]; rfl) (by decide) rfl (fun ls hl => ?_)
              refine lv_goto (tgt := 82) hx hb dX9_findLines_111 (by decide) ?_
              exact ih x15 x27 M25 _ _ ls hW hS (lv_sub hl [2, 1, 0] rfl) hf
            · have hf := i_f hf c26
              refine lv_aload_n hx hb dX9_findLines_97 rfl (lv_at hl 0 rfl) ?_
              refine fg9_27 hB hW tl139 wd5_106 dX9_findLines_98 ?_
              refine lv_iload_n hx hb dX9_findLines_101 rfl (lv_at hl 1 rfl) ?_
              obtain ⟨h28, hf⟩ := g_o hf
              refine x_iald hB hW tl154 al154 h28 dX9_findLines_102 ?_
              refine lv_goto (tgt := 107) hx hb dX9_findLines_103 (by decide) ?_
              refine lv_topi (fun x29 ex29 => ?_)
              have hf := nm_o hf ex29
              refine lv_istore_n (lv' := [(1, .int x29), (0, .ref (G.2.2.1 139)), (2, .int x16)]) hx hb dX9_findLines_107 rfl hl (by decide) rfl (fun ls hl => ?_)
              obtain ⟨x30, ex30⟩ : ∃ y : Int32, y = x16 + (-1 : Int32) := ⟨_, rfl⟩
              have hf := nm_o hf ex30
              refine lv_iinc (v := x30) (lv' := [(2, .int x30), (1, .int x29), (0, .ref (G.2.2.1 139))]) hx hb dX9_findLines_108 hl (k := 2) rfl (by rw [ex30]; rfl) (by decide) rfl (fun ls hl => ?_)
              refine lv_goto (tgt := 82) hx hb dX9_findLines_111 (by decide) ?_
              exact ih x29 x30 M25 _ _ ls hW hS (lv_sub hl [2, 1, 0] rfl) hf
      exact loop19 FU x13 x14 M12 _ _ ls hW hS (lv_sub hl [2, 1, 0] rfl) hL
    have hf := hR
    obtain ⟨K33, eK33, hf⟩ := j_o hf
    have main32 : ∀ (_ : Unit) (H : Heap) (locs : List Loc) (ls : Array Slot), Wd G M39 H → va_S (adA G) s.heap H locs → lv_has ls 3 [(0, .ref (G.2.2.1 139))] → K33 () = some (y31) → W p l e (rmq 5 119) s m args below meth c H locs 0 0 (MQ below (Qi G r Mr) args s 0 0 (adA G)) (F0 m 65 ls [.ref (G.2.2.1 139)]) := by
      intro _ H locs ls hW hS hl hf
      subst eK33
      refine lv_aload_n hx hb dX9_findLines_65 rfl (lv_at hl 0 rfl) ?_
      obtain ⟨x34, hg35, hf⟩ := b_o1 hf
      refine x_ci hB (x_rv hB hW hS (As := []) (rest := [.ref (G.2.2.1 139)]) (ct_X9_linesBack l G hg35) (cl_RX9_208 hB.2.2.2.2.1 ⟨Nat.le_of_ble_eq_true rfl, Nat.le_of_ble_eq_true rfl⟩) tl139 (by decide) rfl rfl hl.1 rfl (Nat.le_of_ble_eq_true rfl) dX9_findLines_66 ⟨Nat.le_refl _, Nat.le_refl _⟩) hS (fun H locs hW hS => ?_)
      exact main11 x34 _ _ ls hW hS (lv_sub hl [0] rfl) hf
    refine lv_if_le (tgt := 65) hx hb dX9_findLines_45 (by decide) (fun c36 => ?_) (fun c36 => ?_)
    · have hf := i_t hf c36
      exact main32 () _ _ ls hW hS (lv_sub hl [0] rfl) hf
    · have hf := i_f hf c36
      refine lv_aload_n hx hb dX9_findLines_48 rfl (lv_at hl 0 rfl) ?_
      refine fg9_27 hB hW tl139 wd5_106 dX9_findLines_49 ?_
      refine lv_aload_n hx hb dX9_findLines_52 rfl (lv_at hl 0 rfl) ?_
      refine fg9_25 hB hW tl139 wd5_104 dX9_findLines_53 ?_
      obtain ⟨h37, hf⟩ := g_o hf
      refine x_iald hB hW tl154 al154 h37 dX9_findLines_56 ?_
      refine lv_if_ge (tgt := 65) hx hb dX9_findLines_57 (by decide) (fun c38 => ?_) (fun c38 => ?_)
      · have hf := i_t hf c38
        exact main32 () _ _ ls hW hS (lv_sub hl [0] rfl) hf
      · have hf := i_f hf c38
        refine lv_bipush (v := (-9 : Int32)) hx hb dX9_findLines_60 (by decide) ?_
        refine lv_goto (tgt := 69) hx hb dX9_findLines_62 (by decide) ?_
        exact main11 (-9 : Int32) _ _ ls hW hS (lv_sub hl [0] rfl) hf
  have loop8 : ∀ (n : Nat) (x5 : Int32) (M6 : Mem) (H : Heap) (locs : List Loc) (ls : Array Slot), Wd G M6 H → va_S (adA G) s.heap H locs → lv_has ls 3 [(0, .ref (G.2.2.1 139)), (1, .int x5)] → lq2 f_X9_findLines_L21 n x5 M6 = some (M39) → W p l e (rmq 5 119) s m args below meth c H locs 0 0 (MQ below (Qi G r Mr) args s 0 0 (adA G)) (F0 m 21 ls []) := by
    intro n
    induction n with
    | zero => intro x5 M6 H locs ls hW hS hl hf; exact (l_z2 hf).elim
    | succ n ih =>
      intro x5 M6 H locs ls hW hS hl hf
      have hf := l_s2 hf
      generalize lq2 f_X9_findLines_L21 n = K7 at ih hf
      unfold f_X9_findLines_L21 at hf
      refine lv_iload_n hx hb dX9_findLines_21 rfl (lv_at hl 1 rfl) ?_
      refine lv_aload_n hx hb dX9_findLines_22 rfl (lv_at hl 0 rfl) ?_
      refine fg9_25 hB hW tl139 wd5_104 dX9_findLines_23 ?_
      refine lv_icmp_gt (tgt := 40) hx hb dX9_findLines_26 (by decide) (fun c41 => ?_) (fun c41 => ?_)
      · have hf := i_t hf c41
        exact main40 M6 _ _ ls hW hS (lv_sub hl [0] rfl) hf
      · have hf := i_f hf c41
        refine lv_aload_n hx hb dX9_findLines_29 rfl (lv_at hl 0 rfl) ?_
        refine lv_iload_n hx hb dX9_findLines_30 rfl (lv_at hl 1 rfl) ?_
        obtain ⟨M42, hg43, hf⟩ := b_o1 hf
        refine x_cv hB (x_rv hB hW hS (As := [.int x5]) (rest := []) (ct_X9_findBestOf l G hg43) (cl_RX9_205 hB.2.2.2.2.1 ⟨Nat.le_of_ble_eq_true rfl, Nat.le_of_ble_eq_true rfl⟩) tl139 (by decide) rfl rfl hl.1 rfl (Nat.le_of_ble_eq_true rfl) dX9_findLines_31 ⟨Nat.le_refl _, Nat.le_refl _⟩) hS (fun H locs hW hS => ?_)
        obtain ⟨x44, ex44⟩ : ∃ y : Int32, y = x5 + (1 : Int32) := ⟨_, rfl⟩
        have hf := nm_o hf ex44
        refine lv_iinc (v := x44) (lv' := [(1, .int x44), (0, .ref (G.2.2.1 139))]) hx hb dX9_findLines_34 hl (k := 1) rfl (by rw [ex44]; rfl) (by decide) rfl (fun ls hl => ?_)
        refine lv_goto (tgt := 21) hx hb dX9_findLines_37 (by decide) ?_
        exact ih x44 M42 _ _ ls hW hS (lv_sub hl [1, 0] rfl) hf
  exact loop8 FU (1 : Int32) M4 _ _ ls hW hS (lv_sub hl [1, 0] rfl) hL
theorem cl_RX9_214 {R : Room} {s : State} {args : Array Value} (ht : ∀ w ∈ lw_all, w.before args s = true) (hR : 5 + 1 ≤ R.frames ∧ 8 + (3 + 11) + 119 ≤ R.locals) : CallW R s args RX9 RX9 214 yX9_findLines cX9_findLines 3 (some .int) (wsq yX9_findLines cX9_findLines 3 (some .int)) (rmq 5 119) 0 0 0 := cwV 0 ht (goodV wd6_213 wd6_215 wsel_63 wd1_10 wd6_216) rfl rfl rfl (by decide +kernel) hR
def f_X9_isLine (p1 : Int32) (M : Mem) : Option (Int32 × Mem) := (bq2 (f_X9_findLines M) (fun (x1 : Int32) (M2 : Mem) => bq1 (f_X9_isIn p1 (0 : Int32) (x1 - (1 : Int32))) (fun (x4 : Int32) => gq (zB x4) (some (x4, M2)))))
set_option maxHeartbeats 4000000 in
set_option maxRecDepth 100000 in
theorem ct_X9_isLine (l : Launch) (G : GG) {p1 : Int32} {M : Mem} {r : Int32} {Mr : Mem}  (hf : f_X9_isLine p1 M = some (r, Mr)) : Met l yX9_isLine (wsq yX9_isLine cX9_isLine 2 (some .boolean)) (rmq 6 141) (va_Pc [.ref (G.2.2.1 139), .int p1] (World G M)) (Qi G r Mr) 0 0 (adA G) := by
  refine x_start (plainFor_of_name (by decide)) (Nat.le_of_ble_eq_true rfl) ?_
  intro p e s m args below meth c hB hr hlk hW hS ls hl
  have hx := hB.x
  have hb := hB.b
  have hl : lv_has ls 2 [(0, .ref (G.2.2.1 139)), (1, .int p1)] := hl
  unfold f_X9_isLine at hf
  refine lv_iload_n hx hb dX9_isLine_0 rfl (lv_at hl 1 rfl) ?_
  refine lv_iconst (v := (0 : Int32)) hx hb dX9_isLine_1 (by decide) ?_
  refine lv_aload_n hx hb dX9_isLine_2 rfl (lv_at hl 0 rfl) ?_
  obtain ⟨x1, M2, hg3, hf⟩ := b_o2 hf
  refine x_ci hB (x_rv hB hW hS (As := []) (rest := [.int (0 : Int32), .int p1]) (ct_X9_findLines l G hg3) (cl_RX9_214 hB.2.2.2.2.1 ⟨Nat.le_of_ble_eq_true rfl, Nat.le_of_ble_eq_true rfl⟩) tl139 (by decide) rfl rfl hl.1 rfl (Nat.le_of_ble_eq_true rfl) dX9_isLine_3 ⟨Nat.le_refl _, Nat.le_refl _⟩) hS (fun H locs hW hS => ?_)
  refine lv_iconst (v := (1 : Int32)) hx hb dX9_isLine_6 (by decide) ?_
  refine lv_isub hx hb dX9_isLine_7 ?_
  obtain ⟨x4, hg5, hf⟩ := b_o1 hf
  refine x_ci hB (x_rs hB hW hS (As := [.int p1, .int (0 : Int32), .int (x1 - (1 : Int32))]) (rest := []) (ct_X9_isIn l G hg5) (cl_RX9_125 hB.2.2.2.2.1 ⟨Nat.le_of_ble_eq_true rfl, Nat.le_of_ble_eq_true rfl⟩) rfl hl.1 rfl (Nat.le_of_ble_eq_true rfl) dX9_isLine_8 ⟨Nat.le_refl _, Nat.le_refl _⟩) hS (fun H locs hW hS => ?_)
  obtain ⟨h6, hf⟩ := g_o hf
  exact e_z h6 hB hW hS hr hlk (s_1 hf) (s_2 hf) dX9_isLine_11
def f_X9_totalNow (M : Mem) : Option UInt32 := (gq (inB (gi M 139 25) 161) (some (gf M 153 (((gi M 139 25) : Int32).toNatClampNeg))))
set_option maxHeartbeats 4000000 in
set_option maxRecDepth 100000 in
theorem ct_X9_totalNow (l : Launch) (G : GG)  {M : Mem} {r : UInt32}  (hf : f_X9_totalNow M = some r) : Met l yX9_totalNow (wsq yX9_totalNow cX9_totalNow 1 (some .float)) (rmq 0 0) (va_Pc [.ref (G.2.2.1 139)] (World G M)) (Qf G r M) 0 0 (adA G) := by
  refine x_start (plainFor_of_name (by decide)) (Nat.le_of_ble_eq_true rfl) ?_
  intro p e s m args below meth c hB hr hlk hW hS ls hl
  have hx := hB.x
  have hb := hB.b
  have hl : lv_has ls 1 [(0, .ref (G.2.2.1 139))] := hl
  unfold f_X9_totalNow at hf
  refine lv_aload_n hx hb dX9_totalNow_0 rfl (lv_at hl 0 rfl) ?_
  refine fg9_26 hB hW tl139 wd5_105 dX9_totalNow_1 ?_
  refine lv_aload_n hx hb dX9_totalNow_4 rfl (lv_at hl 0 rfl) ?_
  refine fg9_25 hB hW tl139 wd5_104 dX9_totalNow_5 ?_
  obtain ⟨h1, hf⟩ := g_o hf
  refine x_fald hB hW tl153 al153 h1 dX9_totalNow_8 ?_
  exact e_f hB hW hS hr hlk (Option.some.inj hf) rfl dX9_totalNow_9
theorem cl_RX9_217 {R : Room} {s : State} {args : Array Value} (ht : ∀ w ∈ lw_all, w.before args s = true) (hR : 0 + 1 ≤ R.frames ∧ 8 + (3 + 11) + 0 ≤ R.locals) : CallB R s args RX9 217 yX9_bound cX9_bound 3 (some .int) (wsq yX9_bound cX9_bound 3 (some .int)) (rmq 0 0) 0 0 3 ∧ (Cond.static yX9_bound).before args s = true := va_cwS 3 ht (goodS wd6_6 wd6_7 wd1_10 wd6_8) rfl rfl rfl (by decide +kernel) hR
theorem cl_RX9_224 {R : Room} {s : State} {args : Array Value} (ht : ∀ w ∈ lw_all, w.before args s = true) (hR : 0 + 1 ≤ R.frames ∧ 8 + (2 + 11) + 0 ≤ R.locals) : CallW R s args RX9 RX9 224 yX9_no cX9_no 2 (some .int) (wsq yX9_no cX9_no 2 (some .int)) (rmq 0 0) 0 0 1 := cwV 1 ht (goodV wd6_9 wd6_11 wsel_36 wd1_10 wd6_12) rfl rfl rfl (by decide +kernel) hR
def f_X9_letter (p1 : Int32) (M : Mem) : Option (Int32 × Mem) := (bq1 (f_X9_bound p1 (0 : Int32) (255 : Int32)) (fun (x1 : Int32) => (bq1 ((if x1 = 0 then (if (gi M 139 36) = (96 : Int32) then (some ((-6 : Int32))) else (some (x1))) else (some (x1))) : Option (Int32)) (fun (x3 : Int32) => (if x3 = 0 then (gq (inB (gi M 139 36) 96) (nmq (si M 156 (((gi M 139 36) : Int32).toNatClampNeg) p1) (fun (M7 : Mem) => nmq (si M7 139 36 ((gi M7 139 36) + (1 : Int32))) (fun (M8 : Mem) => some ((gi M8 139 36), M8))))) else (bq2 (f_X9_no x3 M) (fun (x9 : Int32) (M10 : Mem) => some (x9, M10))))))))
set_option maxHeartbeats 4000000 in
set_option maxRecDepth 100000 in
theorem ct_X9_letter (l : Launch) (G : GG) {p1 : Int32} {M : Mem} {r : Int32} {Mr : Mem}  (hf : f_X9_letter p1 M = some (r, Mr)) : Met l yX9_letter (wsq yX9_letter cX9_letter 3 (some .int)) (rmq 1 22) (va_Pc [.ref (G.2.2.1 139), .int p1] (World G M)) (Qi G r Mr) 0 0 (adA G) := by
  refine x_start (plainFor_of_name (by decide)) (Nat.le_of_ble_eq_true rfl) ?_
  intro p e s m args below meth c hB hr hlk hW hS ls hl
  have hx := hB.x
  have hb := hB.b
  have hl : lv_has ls 3 [(0, .ref (G.2.2.1 139)), (1, .int p1)] := hl
  unfold f_X9_letter at hf
  refine lv_iload_n hx hb dX9_letter_0 rfl (lv_at hl 1 rfl) ?_
  refine lv_iconst (v := (0 : Int32)) hx hb dX9_letter_1 (by decide) ?_
  refine lv_sipush (v := (255 : Int32)) hx hb dX9_letter_2 (by decide) ?_
  obtain ⟨x1, hg2, hf⟩ := b_o1 hf
  refine x_ci hB (x_rs hB hW hS (As := [.int p1, .int (0 : Int32), .int (255 : Int32)]) (rest := []) (ct_X9_bound l G hg2) (cl_RX9_217 hB.2.2.2.2.1 ⟨Nat.le_of_ble_eq_true rfl, Nat.le_of_ble_eq_true rfl⟩) rfl hl.1 rfl (Nat.le_of_ble_eq_true rfl) dX9_letter_5 ⟨Nat.le_refl _, Nat.le_refl _⟩) hS (fun H locs hW hS => ?_)
  refine lv_istore_n (lv' := [(2, .int x1), (0, .ref (G.2.2.1 139)), (1, .int p1)]) hx hb dX9_letter_8 rfl hl (by decide) rfl (fun ls hl => ?_)
  refine lv_iload_n hx hb dX9_letter_9 rfl (lv_at hl 0 rfl) ?_
  obtain ⟨y12, hR, hf⟩ := b_o1 hf
  have main4 : ∀ (x3 : Int32) (H : Heap) (locs : List Loc) (ls : Array Slot), Wd G M H → va_S (adA G) s.heap H locs → lv_has ls 3 [(0, .ref (G.2.2.1 139)), (1, .int p1), (2, .int x3)] → some (x3) = some (y12) → W p l e (rmq 1 22) s m args below meth c H locs 0 0 (MQ below (Qi G r Mr) args s 0 0 (adA G)) (F0 m 25 ls []) := by
    intro x3 H locs ls hW hS hl hE
    cases hE
    refine lv_iload_n hx hb dX9_letter_25 rfl (lv_at hl 2 rfl) ?_
    refine lv_if_eq (tgt := 35) hx hb dX9_letter_26 (by decide) (fun c5 => ?_) (fun c5 => ?_)
    · have hf := i_t hf c5
      refine lv_aload_n hx hb dX9_letter_35 rfl (lv_at hl 0 rfl) ?_
      refine fg9_30 hB hW tl139 wd5_109 dX9_letter_36 ?_
      refine lv_aload_n hx hb dX9_letter_39 rfl (lv_at hl 0 rfl) ?_
      refine fg9_36 hB hW tl139 wd5_115 dX9_letter_40 ?_
      refine lv_iload_n hx hb dX9_letter_43 rfl (lv_at hl 1 rfl) ?_
      obtain ⟨h6, hf⟩ := g_o hf
      refine x_i hB hW hS tl156 al156 h6 dX9_letter_44 (fun H locs M7 eM7 hW hS => ?_)
      have hf := nm_o hf eM7
      refine lv_aload_n hx hb dX9_letter_45 rfl (lv_at hl 0 rfl) ?_
      refine lv_dup hx hb dX9_letter_46 rfl ?_
      refine fg9_36 hB hW tl139 wd5_115 dX9_letter_47 ?_
      refine lv_iconst (v := (1 : Int32)) hx hb dX9_letter_50 (by decide) ?_
      refine lv_iadd hx hb dX9_letter_51 ?_
      refine fp9_36 hB hW hS tl139 wd5_115 dX9_letter_52 (fun H locs M8 eM8 hW hS => ?_)
      have hf := nm_o hf eM8
      refine lv_aload_n hx hb dX9_letter_55 rfl (lv_at hl 0 rfl) ?_
      refine fg9_36 hB hW tl139 wd5_115 dX9_letter_56 ?_
      exact e_i hB hW hS hr hlk (s_1 hf) (s_2 hf) dX9_letter_59
    · have hf := i_f hf c5
      refine lv_aload_n hx hb dX9_letter_29 rfl (lv_at hl 0 rfl) ?_
      refine lv_iload_n hx hb dX9_letter_30 rfl (lv_at hl 2 rfl) ?_
      obtain ⟨x9, M10, hg11, hf⟩ := b_o2 hf
      refine x_ci hB (x_rv hB hW hS (As := [.int y12]) (rest := []) (ct_X9_no l G hg11) (cl_RX9_224 hB.2.2.2.2.1 ⟨Nat.le_of_ble_eq_true rfl, Nat.le_of_ble_eq_true rfl⟩) tl139 (by decide) rfl rfl hl.1 rfl (Nat.le_of_ble_eq_true rfl) dX9_letter_31 ⟨Nat.le_refl _, Nat.le_refl _⟩) hS (fun H locs hW hS => ?_)
      exact e_i hB hW hS hr hlk (s_1 hf) (s_2 hf) dX9_letter_34
  have hf := hR
  refine lv_if_ne (tgt := 25) hx hb dX9_letter_10 (by decide) (fun c13 => ?_) (fun c13 => ?_)
  · have hf := i_f hf c13
    exact main4 x1 _ _ ls hW hS (lv_sub hl [1, 2, 0] rfl) hf
  · have hf := i_t hf c13
    refine lv_aload_n hx hb dX9_letter_13 rfl (lv_at hl 1 rfl) ?_
    refine fg9_36 hB hW tl139 wd5_115 dX9_letter_14 ?_
    refine lv_bipush (v := (96 : Int32)) hx hb dX9_letter_17 (by decide) ?_
    refine lv_icmp_ne (tgt := 25) hx hb dX9_letter_19 (by decide) (fun c14 => ?_) (fun c14 => ?_)
    · have hf := i_f hf c14
      exact main4 x1 _ _ ls hW hS (lv_sub hl [1, 2, 0] rfl) hf
    · have hf := i_t hf c14
      refine lv_bipush (v := (-6 : Int32)) hx hb dX9_letter_22 (by decide) ?_
      refine lv_istore_n (lv' := [(2, .int (-6 : Int32)), (0, .ref (G.2.2.1 139)), (1, .int p1)]) hx hb dX9_letter_24 rfl hl (by decide) rfl (fun ls hl => ?_)
      exact main4 (-6 : Int32) _ _ ls hW hS (lv_sub hl [1, 2, 0] rfl) hf
def f_X9_sign (M : Mem) : Option Int32 := (if (gi M 139 36) ≤ (gi M 139 37) then some (-1 : Int32) else (gq (inB (gi M 139 37) 96) (some (gi M 156 (((gi M 139 37) : Int32).toNatClampNeg)))))
set_option maxHeartbeats 4000000 in
set_option maxRecDepth 100000 in
theorem ct_X9_sign (l : Launch) (G : GG)  {M : Mem} {r : Int32}  (hf : f_X9_sign M = some r) : Met l yX9_sign (wsq yX9_sign cX9_sign 1 (some .int)) (rmq 0 0) (va_Pc [.ref (G.2.2.1 139)] (World G M)) (Qi G r M) 0 0 (adA G) := by
  refine x_start (plainFor_of_name (by decide)) (Nat.le_of_ble_eq_true rfl) ?_
  intro p e s m args below meth c hB hr hlk hW hS ls hl
  have hx := hB.x
  have hb := hB.b
  have hl : lv_has ls 1 [(0, .ref (G.2.2.1 139))] := hl
  unfold f_X9_sign at hf
  refine lv_aload_n hx hb dX9_sign_0 rfl (lv_at hl 0 rfl) ?_
  refine fg9_37 hB hW tl139 wd5_116 dX9_sign_1 ?_
  refine lv_aload_n hx hb dX9_sign_4 rfl (lv_at hl 0 rfl) ?_
  refine fg9_36 hB hW tl139 wd5_115 dX9_sign_5 ?_
  refine lv_icmp_ge (tgt := 23) hx hb dX9_sign_8 (by decide) (fun c1 => ?_) (fun c1 => ?_)
  · have hf := i_t hf c1
    refine lv_iconst (v := (-1 : Int32)) hx hb dX9_sign_23 (by decide) ?_
    exact e_i hB hW hS hr hlk (Option.some.inj hf) rfl dX9_sign_24
  · have hf := i_f hf c1
    refine lv_aload_n hx hb dX9_sign_11 rfl (lv_at hl 0 rfl) ?_
    refine fg9_30 hB hW tl139 wd5_109 dX9_sign_12 ?_
    refine lv_aload_n hx hb dX9_sign_15 rfl (lv_at hl 0 rfl) ?_
    refine fg9_37 hB hW tl139 wd5_116 dX9_sign_16 ?_
    obtain ⟨h2, hf⟩ := g_o hf
    refine x_iald hB hW tl156 al156 h2 dX9_sign_19 ?_
    refine lv_goto (tgt := 24) hx hb dX9_sign_20 (by decide) ?_
    exact e_i hB hW hS hr hlk (Option.some.inj hf) rfl dX9_sign_24
theorem cl_RX9_231 {R : Room} {s : State} {args : Array Value} (ht : ∀ w ∈ lw_all, w.before args s = true) (hR : 0 + 1 ≤ R.frames ∧ 8 + (1 + 11) + 0 ≤ R.locals) : CallW R s args RX9 RX9 231 yX9_sign cX9_sign 1 (some .int) (wsq yX9_sign cX9_sign 1 (some .int)) (rmq 0 0) 0 0 0 := cwV 0 ht (goodV wd6_21 wd6_23 wsel_38 wd1_10 wd6_24) rfl rfl rfl (by decide +kernel) hR
def f_X9_readsDigits_L4 (p1 : Int32) (K4 : Int32 → Int32 → Mem → Option (Int32 × Mem)) (x1 : Int32) (x2 : Int32) (M3 : Mem) : Option (Int32 × Mem) := (if p1 ≤ x2 then (gq (inB (gi M3 139 39) 147) (nmq (si M3 159 (((gi M3 139 39) : Int32).toNatClampNeg) x1) (fun (M8 : Mem) => nmq (si M8 139 39 ((gi M8 139 39) + (1 : Int32))) (fun (M9 : Mem) => some ((1 : Int32), M9))))) else (bq1 (f_X9_sign M3) (fun (x10 : Int32) => bq1 (f_X9_isIn x10 (48 : Int32) (57 : Int32)) (fun (x12 : Int32) => (if x12 = 0 then some ((0 : Int32), M3) else (bq1 (f_X9_sign M3) (fun (x15 : Int32) => nmq (((((10 : Int32) * x1) + x15) - (48 : Int32))) (fun (x17 : Int32) => nmq (si M3 139 37 ((gi M3 139 37) + (1 : Int32))) (fun (M18 : Mem) => nmq (x2 + (1 : Int32)) (fun (x19 : Int32) => (K4 x17 x19 M18)))))))))))
def f_X9_readsDigits (p1 : Int32) (M : Mem) : Option (Int32 × Mem) := (lq3 (f_X9_readsDigits_L4 p1) FU (0 : Int32) (0 : Int32) M)
set_option maxHeartbeats 4000000 in
set_option maxRecDepth 100000 in
theorem ct_X9_readsDigits (l : Launch) (G : GG) {p1 : Int32} {M : Mem} {r : Int32} {Mr : Mem}  (hf : f_X9_readsDigits p1 M = some (r, Mr)) : Met l yX9_readsDigits (wsq yX9_readsDigits cX9_readsDigits 4 (some .boolean)) (rmq 1 22) (va_Pc [.ref (G.2.2.1 139), .int p1] (World G M)) (Qi G r Mr) 0 0 (adA G) := by
  refine x_start (plainFor_of_name (by decide)) (Nat.le_of_ble_eq_true rfl) ?_
  intro p e s m args below meth c hB hr hlk hW hS ls hl
  have hx := hB.x
  have hb := hB.b
  have hl : lv_has ls 4 [(0, .ref (G.2.2.1 139)), (1, .int p1)] := hl
  unfold f_X9_readsDigits at hf
  refine lv_iconst (v := (0 : Int32)) hx hb dX9_readsDigits_0 (by decide) ?_
  refine lv_istore_n (lv' := [(2, .int (0 : Int32)), (0, .ref (G.2.2.1 139)), (1, .int p1)]) hx hb dX9_readsDigits_1 rfl hl (by decide) rfl (fun ls hl => ?_)
  refine lv_iconst (v := (0 : Int32)) hx hb dX9_readsDigits_2 (by decide) ?_
  refine lv_istore_n (lv' := [(3, .int (0 : Int32)), (2, .int (0 : Int32)), (0, .ref (G.2.2.1 139)), (1, .int p1)]) hx hb dX9_readsDigits_3 rfl hl (by decide) rfl (fun ls hl => ?_)
  have loop5 : ∀ (n : Nat) (x1 : Int32) (x2 : Int32) (M3 : Mem) (H : Heap) (locs : List Loc) (ls : Array Slot), Wd G M3 H → va_S (adA G) s.heap H locs → lv_has ls 4 [(0, .ref (G.2.2.1 139)), (1, .int p1), (2, .int x1), (3, .int x2)] → lq3 (f_X9_readsDigits_L4 p1) n x1 x2 M3 = some (r, Mr) → W p l e (rmq 1 22) s m args below meth c H locs 0 0 (MQ below (Qi G r Mr) args s 0 0 (adA G)) (F0 m 4 ls []) := by
    intro n
    induction n with
    | zero => intro x1 x2 M3 H locs ls hW hS hl hf; exact (l_z3 hf).elim
    | succ n ih =>
      intro x1 x2 M3 H locs ls hW hS hl hf
      have hf := l_s3 hf
      generalize lq3 (f_X9_readsDigits_L4 p1) n = K4 at ih hf
      unfold f_X9_readsDigits_L4 at hf
      refine lv_iload_n hx hb dX9_readsDigits_4 rfl (lv_at hl 3 rfl) ?_
      refine lv_iload_n hx hb dX9_readsDigits_5 rfl (lv_at hl 1 rfl) ?_
      refine lv_icmp_ge (tgt := 54) hx hb dX9_readsDigits_6 (by decide) (fun c6 => ?_) (fun c6 => ?_)
      · have hf := i_t hf c6
        refine lv_aload_n hx hb dX9_readsDigits_54 rfl (lv_at hl 0 rfl) ?_
        refine fg9_33 hB hW tl139 wd5_112 dX9_readsDigits_55 ?_
        refine lv_aload_n hx hb dX9_readsDigits_58 rfl (lv_at hl 0 rfl) ?_
        refine fg9_39 hB hW tl139 wd5_118 dX9_readsDigits_59 ?_
        refine lv_iload_n hx hb dX9_readsDigits_62 rfl (lv_at hl 2 rfl) ?_
        obtain ⟨h7, hf⟩ := g_o hf
        refine x_i hB hW hS tl159 al159 h7 dX9_readsDigits_63 (fun H locs M8 eM8 hW hS => ?_)
        have hf := nm_o hf eM8
        refine lv_aload_n hx hb dX9_readsDigits_64 rfl (lv_at hl 0 rfl) ?_
        refine lv_dup hx hb dX9_readsDigits_65 rfl ?_
        refine fg9_39 hB hW tl139 wd5_118 dX9_readsDigits_66 ?_
        refine lv_iconst (v := (1 : Int32)) hx hb dX9_readsDigits_69 (by decide) ?_
        refine lv_iadd hx hb dX9_readsDigits_70 ?_
        refine fp9_39 hB hW hS tl139 wd5_118 dX9_readsDigits_71 (fun H locs M9 eM9 hW hS => ?_)
        have hf := nm_o hf eM9
        refine lv_iconst (v := (1 : Int32)) hx hb dX9_readsDigits_74 (by decide) ?_
        exact e_z (by decide) hB hW hS hr hlk (s_1 hf) (s_2 hf) dX9_readsDigits_75
      · have hf := i_f hf c6
        refine lv_aload_n hx hb dX9_readsDigits_9 rfl (lv_at hl 0 rfl) ?_
        obtain ⟨x10, hg11, hf⟩ := b_o1 hf
        refine x_ci hB (x_rv hB hW hS (As := []) (rest := []) (ct_X9_sign l G hg11) (cl_RX9_231 hB.2.2.2.2.1 ⟨Nat.le_of_ble_eq_true rfl, Nat.le_of_ble_eq_true rfl⟩) tl139 (by decide) rfl rfl hl.1 rfl (Nat.le_of_ble_eq_true rfl) dX9_readsDigits_10 ⟨Nat.le_refl _, Nat.le_refl _⟩) hS (fun H locs hW hS => ?_)
        refine lv_bipush (v := (48 : Int32)) hx hb dX9_readsDigits_13 (by decide) ?_
        refine lv_bipush (v := (57 : Int32)) hx hb dX9_readsDigits_15 (by decide) ?_
        obtain ⟨x12, hg13, hf⟩ := b_o1 hf
        refine x_ci hB (x_rs hB hW hS (As := [.int x10, .int (48 : Int32), .int (57 : Int32)]) (rest := []) (ct_X9_isIn l G hg13) (cl_RX9_125 hB.2.2.2.2.1 ⟨Nat.le_of_ble_eq_true rfl, Nat.le_of_ble_eq_true rfl⟩) rfl hl.1 rfl (Nat.le_of_ble_eq_true rfl) dX9_readsDigits_17 ⟨Nat.le_refl _, Nat.le_refl _⟩) hS (fun H locs hW hS => ?_)
        refine lv_if_ne (tgt := 25) hx hb dX9_readsDigits_20 (by decide) (fun c14 => ?_) (fun c14 => ?_)
        · have hf := i_f hf c14
          refine lv_bipush (v := (10 : Int32)) hx hb dX9_readsDigits_25 (by decide) ?_
          refine lv_iload_n hx hb dX9_readsDigits_27 rfl (lv_at hl 2 rfl) ?_
          refine lv_imul hx hb dX9_readsDigits_28 ?_
          refine lv_aload_n hx hb dX9_readsDigits_29 rfl (lv_at hl 0 rfl) ?_
          obtain ⟨x15, hg16, hf⟩ := b_o1 hf
          refine x_ci hB (x_rv hB hW hS (As := []) (rest := [.int ((10 : Int32) * x1)]) (ct_X9_sign l G hg16) (cl_RX9_231 hB.2.2.2.2.1 ⟨Nat.le_of_ble_eq_true rfl, Nat.le_of_ble_eq_true rfl⟩) tl139 (by decide) rfl rfl hl.1 rfl (Nat.le_of_ble_eq_true rfl) dX9_readsDigits_30 ⟨Nat.le_refl _, Nat.le_refl _⟩) hS (fun H locs hW hS => ?_)
          refine lv_iadd hx hb dX9_readsDigits_33 ?_
          refine lv_bipush (v := (48 : Int32)) hx hb dX9_readsDigits_34 (by decide) ?_
          refine lv_isub hx hb dX9_readsDigits_36 ?_
          refine lv_topi (fun x17 ex17 => ?_)
          have hf := nm_o hf ex17
          refine lv_istore_n (lv' := [(2, .int x17), (0, .ref (G.2.2.1 139)), (1, .int p1), (3, .int x2)]) hx hb dX9_readsDigits_37 rfl hl (by decide) rfl (fun ls hl => ?_)
          refine lv_aload_n hx hb dX9_readsDigits_38 rfl (lv_at hl 1 rfl) ?_
          refine lv_dup hx hb dX9_readsDigits_39 rfl ?_
          refine fg9_37 hB hW tl139 wd5_116 dX9_readsDigits_40 ?_
          refine lv_iconst (v := (1 : Int32)) hx hb dX9_readsDigits_43 (by decide) ?_
          refine lv_iadd hx hb dX9_readsDigits_44 ?_
          refine fp9_37 hB hW hS tl139 wd5_116 dX9_readsDigits_45 (fun H locs M18 eM18 hW hS => ?_)
          have hf := nm_o hf eM18
          obtain ⟨x19, ex19⟩ : ∃ y : Int32, y = x2 + (1 : Int32) := ⟨_, rfl⟩
          have hf := nm_o hf ex19
          refine lv_iinc (v := x19) (lv' := [(3, .int x19), (2, .int x17), (0, .ref (G.2.2.1 139)), (1, .int p1)]) hx hb dX9_readsDigits_48 hl (k := 3) rfl (by rw [ex19]; rfl) (by decide) rfl (fun ls hl => ?_)
          refine lv_goto (tgt := 4) hx hb dX9_readsDigits_51 (by decide) ?_
          exact ih x17 x19 M18 _ _ ls hW hS (lv_sub hl [2, 3, 1, 0] rfl) hf
        · have hf := i_t hf c14
          refine lv_iconst (v := (0 : Int32)) hx hb dX9_readsDigits_23 (by decide) ?_
          exact e_z (by decide) hB hW hS hr hlk (s_1 hf) (s_2 hf) dX9_readsDigits_24
  exact loop5 FU (0 : Int32) (0 : Int32) M _ _ ls hW hS (lv_sub hl [2, 3, 1, 0] rfl) hf
def f_X9_readsLetters_L13 (p1 : Int32) (K4 : Mem → Option (Mem)) (M3 : Mem) : Option (Mem) := (gq (inB (gi M3 139 38) 49) ((if ((gi M3 160 (((gi M3 139 38) : Int32).toNatClampNeg)) + p1) ≤ (gi M3 139 37) then (some (M3)) else (bq1 (f_X9_sign M3) (fun (x16 : Int32) => bq1 (f_X9_isIn x16 (97 : Int32) (104 : Int32)) (fun (x18 : Int32) => (if x18 = 0 then (some (M3)) else (nmq (si M3 139 37 ((gi M3 139 37) + (1 : Int32))) (fun (M21 : Mem) => (K4 M21))))))))))
def f_X9_readsLetters (p1 : Int32) (M : Mem) : Option (Int32 × Mem) := (gq (inB (gi M 139 38) 49) (nmq (si M 160 (((gi M 139 38) : Int32).toNatClampNeg) (gi M 139 37)) (fun (M2 : Mem) => (bq1 (lq1 (f_X9_readsLetters_L13 p1) FU M2) (fun (M6 : Mem) => (gq (inB (gi M6 139 38) 49) (gq (inB (gi M6 139 38) 49) (nmq (si M6 161 (((gi M6 139 38) : Int32).toNatClampNeg) ((gi M6 139 37) - (gi M6 160 (((gi M6 139 38) : Int32).toNatClampNeg)))) (fun (M9 : Mem) => gq (inB (gi M9 139 38) 49) ((if (gi M9 161 (((gi M9 139 38) : Int32).toNatClampNeg)) ≤ 0 then some ((0 : Int32), M9) else some ((1 : Int32), M9))))))))))))
set_option maxHeartbeats 4000000 in
set_option maxRecDepth 100000 in
theorem ct_X9_readsLetters (l : Launch) (G : GG) {p1 : Int32} {M : Mem} {r : Int32} {Mr : Mem}  (hf : f_X9_readsLetters p1 M = some (r, Mr)) : Met l yX9_readsLetters (wsq yX9_readsLetters cX9_readsLetters 2 (some .boolean)) (rmq 1 22) (va_Pc [.ref (G.2.2.1 139), .int p1] (World G M)) (Qi G r Mr) 0 0 (adA G) := by
  refine x_start (plainFor_of_name (by decide)) (Nat.le_of_ble_eq_true rfl) ?_
  intro p e s m args below meth c hB hr hlk hW hS ls hl
  have hx := hB.x
  have hb := hB.b
  have hl : lv_has ls 2 [(0, .ref (G.2.2.1 139)), (1, .int p1)] := hl
  unfold f_X9_readsLetters at hf
  refine lv_aload_n hx hb dX9_readsLetters_0 rfl (lv_at hl 0 rfl) ?_
  refine fg9_34 hB hW tl139 wd5_113 dX9_readsLetters_1 ?_
  refine lv_aload_n hx hb dX9_readsLetters_4 rfl (lv_at hl 0 rfl) ?_
  refine fg9_38 hB hW tl139 wd5_117 dX9_readsLetters_5 ?_
  refine lv_aload_n hx hb dX9_readsLetters_8 rfl (lv_at hl 0 rfl) ?_
  refine fg9_37 hB hW tl139 wd5_116 dX9_readsLetters_9 ?_
  obtain ⟨h1, hf⟩ := g_o hf
  refine x_i hB hW hS tl160 al160 h1 dX9_readsLetters_12 (fun H locs M2 eM2 hW hS => ?_)
  have hf := nm_o hf eM2
  obtain ⟨M12, hL, hf⟩ := b_o1 hf
  have main13 : ∀ (M6 : Mem) (H : Heap) (locs : List Loc) (ls : Array Slot), Wd G M6 H → va_S (adA G) s.heap H locs → lv_has ls 2 [(0, .ref (G.2.2.1 139))] → some (M6) = some (M12) → W p l e (rmq 1 22) s m args below meth c H locs 0 0 (MQ below (Qi G r Mr) args s 0 0 (adA G)) (F0 m 58 ls []) := by
    intro M6 H locs ls hW hS hl hE
    cases hE
    refine lv_aload_n hx hb dX9_readsLetters_58 rfl (lv_at hl 0 rfl) ?_
    refine fg9_35 hB hW tl139 wd5_114 dX9_readsLetters_59 ?_
    refine lv_aload_n hx hb dX9_readsLetters_62 rfl (lv_at hl 0 rfl) ?_
    refine fg9_38 hB hW tl139 wd5_117 dX9_readsLetters_63 ?_
    refine lv_aload_n hx hb dX9_readsLetters_66 rfl (lv_at hl 0 rfl) ?_
    refine fg9_37 hB hW tl139 wd5_116 dX9_readsLetters_67 ?_
    refine lv_aload_n hx hb dX9_readsLetters_70 rfl (lv_at hl 0 rfl) ?_
    refine fg9_34 hB hW tl139 wd5_113 dX9_readsLetters_71 ?_
    refine lv_aload_n hx hb dX9_readsLetters_74 rfl (lv_at hl 0 rfl) ?_
    refine fg9_38 hB hW tl139 wd5_117 dX9_readsLetters_75 ?_
    obtain ⟨h7, hf⟩ := g_o hf
    refine x_iald hB hW tl160 al160 h7 dX9_readsLetters_78 ?_
    refine lv_isub hx hb dX9_readsLetters_79 ?_
    obtain ⟨h8, hf⟩ := g_o hf
    refine x_i hB hW hS tl161 al161 h8 dX9_readsLetters_80 (fun H locs M9 eM9 hW hS => ?_)
    have hf := nm_o hf eM9
    refine lv_aload_n hx hb dX9_readsLetters_81 rfl (lv_at hl 0 rfl) ?_
    refine fg9_35 hB hW tl139 wd5_114 dX9_readsLetters_82 ?_
    refine lv_aload_n hx hb dX9_readsLetters_85 rfl (lv_at hl 0 rfl) ?_
    refine fg9_38 hB hW tl139 wd5_117 dX9_readsLetters_86 ?_
    obtain ⟨h10, hf⟩ := g_o hf
    refine x_iald hB hW tl161 al161 h10 dX9_readsLetters_89 ?_
    refine lv_if_le (tgt := 97) hx hb dX9_readsLetters_90 (by decide) (fun c11 => ?_) (fun c11 => ?_)
    · have hf := i_t hf c11
      refine lv_iconst (v := (0 : Int32)) hx hb dX9_readsLetters_97 (by decide) ?_
      exact e_z (by decide) hB hW hS hr hlk (s_1 hf) (s_2 hf) dX9_readsLetters_98
    · have hf := i_f hf c11
      refine lv_iconst (v := (1 : Int32)) hx hb dX9_readsLetters_93 (by decide) ?_
      refine lv_goto (tgt := 98) hx hb dX9_readsLetters_94 (by decide) ?_
      exact e_z (by decide) hB hW hS hr hlk (s_1 hf) (s_2 hf) dX9_readsLetters_98
  have loop5 : ∀ (n : Nat) (M3 : Mem) (H : Heap) (locs : List Loc) (ls : Array Slot), Wd G M3 H → va_S (adA G) s.heap H locs → lv_has ls 2 [(0, .ref (G.2.2.1 139)), (1, .int p1)] → lq1 (f_X9_readsLetters_L13 p1) n M3 = some (M12) → W p l e (rmq 1 22) s m args below meth c H locs 0 0 (MQ below (Qi G r Mr) args s 0 0 (adA G)) (F0 m 13 ls []) := by
    intro n
    induction n with
    | zero => intro M3 H locs ls hW hS hl hf; exact (l_z1 hf).elim
    | succ n ih =>
      intro M3 H locs ls hW hS hl hf
      have hf := l_s1 hf
      generalize lq1 (f_X9_readsLetters_L13 p1) n = K4 at ih hf
      unfold f_X9_readsLetters_L13 at hf
      refine lv_aload_n hx hb dX9_readsLetters_13 rfl (lv_at hl 0 rfl) ?_
      refine fg9_37 hB hW tl139 wd5_116 dX9_readsLetters_14 ?_
      refine lv_aload_n hx hb dX9_readsLetters_17 rfl (lv_at hl 0 rfl) ?_
      refine fg9_34 hB hW tl139 wd5_113 dX9_readsLetters_18 ?_
      refine lv_aload_n hx hb dX9_readsLetters_21 rfl (lv_at hl 0 rfl) ?_
      refine fg9_38 hB hW tl139 wd5_117 dX9_readsLetters_22 ?_
      obtain ⟨h14, hf⟩ := g_o hf
      refine x_iald hB hW tl160 al160 h14 dX9_readsLetters_25 ?_
      refine lv_iload_n hx hb dX9_readsLetters_26 rfl (lv_at hl 1 rfl) ?_
      refine lv_iadd hx hb dX9_readsLetters_27 ?_
      refine lv_icmp_ge (tgt := 58) hx hb dX9_readsLetters_28 (by decide) (fun c15 => ?_) (fun c15 => ?_)
      · have hf := i_t hf c15
        exact main13 M3 _ _ ls hW hS (lv_sub hl [0] rfl) hf
      · have hf := i_f hf c15
        refine lv_aload_n hx hb dX9_readsLetters_31 rfl (lv_at hl 0 rfl) ?_
        obtain ⟨x16, hg17, hf⟩ := b_o1 hf
        refine x_ci hB (x_rv hB hW hS (As := []) (rest := []) (ct_X9_sign l G hg17) (cl_RX9_231 hB.2.2.2.2.1 ⟨Nat.le_of_ble_eq_true rfl, Nat.le_of_ble_eq_true rfl⟩) tl139 (by decide) rfl rfl hl.1 rfl (Nat.le_of_ble_eq_true rfl) dX9_readsLetters_32 ⟨Nat.le_refl _, Nat.le_refl _⟩) hS (fun H locs hW hS => ?_)
        refine lv_bipush (v := (97 : Int32)) hx hb dX9_readsLetters_35 (by decide) ?_
        refine lv_bipush (v := (104 : Int32)) hx hb dX9_readsLetters_37 (by decide) ?_
        obtain ⟨x18, hg19, hf⟩ := b_o1 hf
        refine x_ci hB (x_rs hB hW hS (As := [.int x16, .int (97 : Int32), .int (104 : Int32)]) (rest := []) (ct_X9_isIn l G hg19) (cl_RX9_125 hB.2.2.2.2.1 ⟨Nat.le_of_ble_eq_true rfl, Nat.le_of_ble_eq_true rfl⟩) rfl hl.1 rfl (Nat.le_of_ble_eq_true rfl) dX9_readsLetters_39 ⟨Nat.le_refl _, Nat.le_refl _⟩) hS (fun H locs hW hS => ?_)
        refine lv_if_eq (tgt := 58) hx hb dX9_readsLetters_42 (by decide) (fun c20 => ?_) (fun c20 => ?_)
        · have hf := i_t hf c20
          exact main13 M3 _ _ ls hW hS (lv_sub hl [0] rfl) hf
        · have hf := i_f hf c20
          refine lv_aload_n hx hb dX9_readsLetters_45 rfl (lv_at hl 0 rfl) ?_
          refine lv_dup hx hb dX9_readsLetters_46 rfl ?_
          refine fg9_37 hB hW tl139 wd5_116 dX9_readsLetters_47 ?_
          refine lv_iconst (v := (1 : Int32)) hx hb dX9_readsLetters_50 (by decide) ?_
          refine lv_iadd hx hb dX9_readsLetters_51 ?_
          refine fp9_37 hB hW hS tl139 wd5_116 dX9_readsLetters_52 (fun H locs M21 eM21 hW hS => ?_)
          have hf := nm_o hf eM21
          refine lv_goto (tgt := 13) hx hb dX9_readsLetters_55 (by decide) ?_
          exact ih M21 _ _ ls hW hS (lv_sub hl [0, 1] rfl) hf
  exact loop5 FU M2 _ _ ls hW hS (lv_sub hl [0, 1] rfl) hL
theorem cl_RX9_240 {R : Room} {s : State} {args : Array Value} (ht : ∀ w ∈ lw_all, w.before args s = true) (hR : 1 + 1 ≤ R.frames ∧ 8 + (2 + 11) + 22 ≤ R.locals) : CallW R s args RX9 RX9 240 yX9_readsLetters cX9_readsLetters 2 (some .boolean) (wsq yX9_readsLetters cX9_readsLetters 2 (some .boolean)) (rmq 1 22) 0 0 1 := cwV 1 ht (goodV wd6_29 wd6_31 wsel_40 wd1_10 wd6_32) rfl rfl rfl (by decide +kernel) hR
theorem cl_RX9_243 {R : Room} {s : State} {args : Array Value} (ht : ∀ w ∈ lw_all, w.before args s = true) (hR : 1 + 1 ≤ R.frames ∧ 8 + (4 + 11) + 22 ≤ R.locals) : CallW R s args RX9 RX9 243 yX9_readsDigits cX9_readsDigits 4 (some .boolean) (wsq yX9_readsDigits cX9_readsDigits 4 (some .boolean)) (rmq 1 22) 0 0 1 := cwV 1 ht (goodV wd6_36 wd6_38 wsel_41 wd1_10 wd6_39) rfl rfl rfl (by decide +kernel) hR
def f_X9_readsAll (p1 : Int32) (M : Mem) : Option (Int32 × Mem) := (if p1 = (103 : Int32) then (bq2 (f_X9_readsDigits (1 : Int32) M) (fun (x2 : Int32) (M3 : Mem) => (if x2 = 0 then some ((0 : Int32), M3) else (bq2 (f_X9_readsDigits (1 : Int32) M3) (fun (x6 : Int32) (M7 : Mem) => (if x6 = 0 then some ((0 : Int32), M7) else (bq2 (f_X9_readsDigits (1 : Int32) M7) (fun (x10 : Int32) (M11 : Mem) => (if x10 = 0 then some ((0 : Int32), M11) else some ((1 : Int32), M11)))))))))) else if p1 = (104 : Int32) then (bq2 (f_X9_readsDigits (2 : Int32) M) (fun (x15 : Int32) (M16 : Mem) => gq (zB x15) (some (x15, M16)))) else if p1 = (105 : Int32) then some ((1 : Int32), M) else if p1 = (106 : Int32) then some ((1 : Int32), M) else if p1 = (107 : Int32) then (bq2 (f_X9_readsDigits (1 : Int32) M) (fun (x22 : Int32) (M23 : Mem) => (if x22 = 0 then some ((0 : Int32), M23) else (bq2 (f_X9_readsDigits (1 : Int32) M23) (fun (x26 : Int32) (M27 : Mem) => (if x26 = 0 then some ((0 : Int32), M27) else some ((1 : Int32), M27))))))) else if p1 = (108 : Int32) then (bq2 (f_X9_readsDigits (2 : Int32) M) (fun (x31 : Int32) (M32 : Mem) => gq (zB x31) (some (x31, M32)))) else if p1 = (109 : Int32) then (bq2 (f_X9_readsDigits (1 : Int32) M) (fun (x36 : Int32) (M37 : Mem) => gq (zB x36) (some (x36, M37)))) else if p1 = (110 : Int32) then some ((1 : Int32), M) else if p1 = (111 : Int32) then (bq2 (f_X9_readsDigits (1 : Int32) M) (fun (x42 : Int32) (M43 : Mem) => gq (zB x42) (some (x42, M43)))) else if p1 = (112 : Int32) then (bq2 (f_X9_readsLetters (3 : Int32) M) (fun (x47 : Int32) (M48 : Mem) => (if x47 = 0 then some ((0 : Int32), M48) else (bq2 (f_X9_readsDigits (1 : Int32) M48) (fun (x51 : Int32) (M52 : Mem) => (if x51 = 0 then some ((0 : Int32), M52) else (bq2 (f_X9_readsDigits (1 : Int32) M52) (fun (x55 : Int32) (M56 : Mem) => (if x55 = 0 then some ((0 : Int32), M56) else some ((1 : Int32), M56)))))))))) else if p1 = (113 : Int32) then some ((1 : Int32), M) else if p1 = (114 : Int32) then some ((1 : Int32), M) else if p1 = (115 : Int32) then some ((1 : Int32), M) else if p1 = (116 : Int32) then (bq2 (f_X9_readsDigits (2 : Int32) M) (fun (x63 : Int32) (M64 : Mem) => gq (zB x63) (some (x63, M64)))) else if p1 = (117 : Int32) then some ((1 : Int32), M) else if p1 = (118 : Int32) then some ((1 : Int32), M) else if p1 = (119 : Int32) then (bq2 (f_X9_readsLetters (12 : Int32) M) (fun (x70 : Int32) (M71 : Mem) => gq (zB x70) (some (x70, M71)))) else some ((1 : Int32), M))
set_option maxHeartbeats 4000000 in
set_option maxRecDepth 100000 in
theorem ct_X9_readsAll (l : Launch) (G : GG) {p1 : Int32} {M : Mem} {r : Int32} {Mr : Mem}  (hf : f_X9_readsAll p1 M = some (r, Mr)) : Met l yX9_readsAll (wsq yX9_readsAll cX9_readsAll 2 (some .boolean)) (rmq 2 45) (va_Pc [.ref (G.2.2.1 139), .int p1] (World G M)) (Qi G r Mr) 0 0 (adA G) := by
  refine x_start (plainFor_of_name (by decide)) (Nat.le_of_ble_eq_true rfl) ?_
  intro p e s m args below meth c hB hr hlk hW hS ls hl
  have hx := hB.x
  have hb := hB.b
  have hl : lv_has ls 2 [(0, .ref (G.2.2.1 139)), (1, .int p1)] := hl
  unfold f_X9_readsAll at hf
  refine lv_iload_n hx hb dX9_readsAll_0 rfl (lv_at hl 1 rfl) ?_
  by_cases c1 : p1 = (103 : Int32)
  · have hf := i_t hf c1
    refine lv_tableIn (tgt := 127) hx hb dX9_readsAll_1 (by rw [c1]; decide) (by rw [c1]; decide) (by rw [c1] <;> rfl) (by decide) ?_
    refine lv_aload_n hx hb dX9_readsAll_127 rfl (lv_at hl 0 rfl) ?_
    refine lv_iconst (v := (1 : Int32)) hx hb dX9_readsAll_128 (by decide) ?_
    obtain ⟨x2, M3, hg4, hf⟩ := b_o2 hf
    refine x_ci hB (x_rv hB hW hS (As := [.int (1 : Int32)]) (rest := []) (ct_X9_readsDigits l G hg4) (cl_RX9_243 hB.2.2.2.2.1 ⟨Nat.le_of_ble_eq_true rfl, Nat.le_of_ble_eq_true rfl⟩) tl139 (by decide) rfl rfl hl.1 rfl (Nat.le_of_ble_eq_true rfl) dX9_readsAll_129 ⟨Nat.le_refl _, Nat.le_refl _⟩) hS (fun H locs hW hS => ?_)
    refine lv_if_eq (tgt := 155) hx hb dX9_readsAll_132 (by decide) (fun c5 => ?_) (fun c5 => ?_)
    · have hf := i_t hf c5
      refine lv_iconst (v := (0 : Int32)) hx hb dX9_readsAll_155 (by decide) ?_
      exact e_z (by decide) hB hW hS hr hlk (s_1 hf) (s_2 hf) dX9_readsAll_156
    · have hf := i_f hf c5
      refine lv_aload_n hx hb dX9_readsAll_135 rfl (lv_at hl 0 rfl) ?_
      refine lv_iconst (v := (1 : Int32)) hx hb dX9_readsAll_136 (by decide) ?_
      obtain ⟨x6, M7, hg8, hf⟩ := b_o2 hf
      refine x_ci hB (x_rv hB hW hS (As := [.int (1 : Int32)]) (rest := []) (ct_X9_readsDigits l G hg8) (cl_RX9_243 hB.2.2.2.2.1 ⟨Nat.le_of_ble_eq_true rfl, Nat.le_of_ble_eq_true rfl⟩) tl139 (by decide) rfl rfl hl.1 rfl (Nat.le_of_ble_eq_true rfl) dX9_readsAll_137 ⟨Nat.le_refl _, Nat.le_refl _⟩) hS (fun H locs hW hS => ?_)
      refine lv_if_eq (tgt := 155) hx hb dX9_readsAll_140 (by decide) (fun c9 => ?_) (fun c9 => ?_)
      · have hf := i_t hf c9
        refine lv_iconst (v := (0 : Int32)) hx hb dX9_readsAll_155 (by decide) ?_
        exact e_z (by decide) hB hW hS hr hlk (s_1 hf) (s_2 hf) dX9_readsAll_156
      · have hf := i_f hf c9
        refine lv_aload_n hx hb dX9_readsAll_143 rfl (lv_at hl 0 rfl) ?_
        refine lv_iconst (v := (1 : Int32)) hx hb dX9_readsAll_144 (by decide) ?_
        obtain ⟨x10, M11, hg12, hf⟩ := b_o2 hf
        refine x_ci hB (x_rv hB hW hS (As := [.int (1 : Int32)]) (rest := []) (ct_X9_readsDigits l G hg12) (cl_RX9_243 hB.2.2.2.2.1 ⟨Nat.le_of_ble_eq_true rfl, Nat.le_of_ble_eq_true rfl⟩) tl139 (by decide) rfl rfl hl.1 rfl (Nat.le_of_ble_eq_true rfl) dX9_readsAll_145 ⟨Nat.le_refl _, Nat.le_refl _⟩) hS (fun H locs hW hS => ?_)
        refine lv_if_eq (tgt := 155) hx hb dX9_readsAll_148 (by decide) (fun c13 => ?_) (fun c13 => ?_)
        · have hf := i_t hf c13
          refine lv_iconst (v := (0 : Int32)) hx hb dX9_readsAll_155 (by decide) ?_
          exact e_z (by decide) hB hW hS hr hlk (s_1 hf) (s_2 hf) dX9_readsAll_156
        · have hf := i_f hf c13
          refine lv_iconst (v := (1 : Int32)) hx hb dX9_readsAll_151 (by decide) ?_
          refine lv_goto (tgt := 156) hx hb dX9_readsAll_152 (by decide) ?_
          exact e_z (by decide) hB hW hS hr hlk (s_1 hf) (s_2 hf) dX9_readsAll_156
  · have hf := i_f hf c1
    by_cases c14 : p1 = (104 : Int32)
    · have hf := i_t hf c14
      refine lv_tableIn (tgt := 121) hx hb dX9_readsAll_1 (by rw [c14]; decide) (by rw [c14]; decide) (by rw [c14] <;> rfl) (by decide) ?_
      refine lv_aload_n hx hb dX9_readsAll_121 rfl (lv_at hl 0 rfl) ?_
      refine lv_iconst (v := (2 : Int32)) hx hb dX9_readsAll_122 (by decide) ?_
      obtain ⟨x15, M16, hg17, hf⟩ := b_o2 hf
      refine x_ci hB (x_rv hB hW hS (As := [.int (2 : Int32)]) (rest := []) (ct_X9_readsDigits l G hg17) (cl_RX9_243 hB.2.2.2.2.1 ⟨Nat.le_of_ble_eq_true rfl, Nat.le_of_ble_eq_true rfl⟩) tl139 (by decide) rfl rfl hl.1 rfl (Nat.le_of_ble_eq_true rfl) dX9_readsAll_123 ⟨Nat.le_refl _, Nat.le_refl _⟩) hS (fun H locs hW hS => ?_)
      obtain ⟨h18, hf⟩ := g_o hf
      exact e_z h18 hB hW hS hr hlk (s_1 hf) (s_2 hf) dX9_readsAll_126
    · have hf := i_f hf c14
      by_cases c19 : p1 = (105 : Int32)
      · have hf := i_t hf c19
        refine lv_tableIn (tgt := 185) hx hb dX9_readsAll_1 (by rw [c19]; decide) (by rw [c19]; decide) (by rw [c19] <;> rfl) (by decide) ?_
        refine lv_iconst (v := (1 : Int32)) hx hb dX9_readsAll_185 (by decide) ?_
        exact e_z (by decide) hB hW hS hr hlk (s_1 hf) (s_2 hf) dX9_readsAll_186
      · have hf := i_f hf c19
        by_cases c20 : p1 = (106 : Int32)
        · have hf := i_t hf c20
          refine lv_tableIn (tgt := 185) hx hb dX9_readsAll_1 (by rw [c20]; decide) (by rw [c20]; decide) (by rw [c20] <;> rfl) (by decide) ?_
          refine lv_iconst (v := (1 : Int32)) hx hb dX9_readsAll_185 (by decide) ?_
          exact e_z (by decide) hB hW hS hr hlk (s_1 hf) (s_2 hf) dX9_readsAll_186
        · have hf := i_f hf c20
          by_cases c21 : p1 = (107 : Int32)
          · have hf := i_t hf c21
            refine lv_tableIn (tgt := 163) hx hb dX9_readsAll_1 (by rw [c21]; decide) (by rw [c21]; decide) (by rw [c21] <;> rfl) (by decide) ?_
            refine lv_aload_n hx hb dX9_readsAll_163 rfl (lv_at hl 0 rfl) ?_
            refine lv_iconst (v := (1 : Int32)) hx hb dX9_readsAll_164 (by decide) ?_
            obtain ⟨x22, M23, hg24, hf⟩ := b_o2 hf
            refine x_ci hB (x_rv hB hW hS (As := [.int (1 : Int32)]) (rest := []) (ct_X9_readsDigits l G hg24) (cl_RX9_243 hB.2.2.2.2.1 ⟨Nat.le_of_ble_eq_true rfl, Nat.le_of_ble_eq_true rfl⟩) tl139 (by decide) rfl rfl hl.1 rfl (Nat.le_of_ble_eq_true rfl) dX9_readsAll_165 ⟨Nat.le_refl _, Nat.le_refl _⟩) hS (fun H locs hW hS => ?_)
            refine lv_if_eq (tgt := 183) hx hb dX9_readsAll_168 (by decide) (fun c25 => ?_) (fun c25 => ?_)
            · have hf := i_t hf c25
              refine lv_iconst (v := (0 : Int32)) hx hb dX9_readsAll_183 (by decide) ?_
              exact e_z (by decide) hB hW hS hr hlk (s_1 hf) (s_2 hf) dX9_readsAll_184
            · have hf := i_f hf c25
              refine lv_aload_n hx hb dX9_readsAll_171 rfl (lv_at hl 0 rfl) ?_
              refine lv_iconst (v := (1 : Int32)) hx hb dX9_readsAll_172 (by decide) ?_
              obtain ⟨x26, M27, hg28, hf⟩ := b_o2 hf
              refine x_ci hB (x_rv hB hW hS (As := [.int (1 : Int32)]) (rest := []) (ct_X9_readsDigits l G hg28) (cl_RX9_243 hB.2.2.2.2.1 ⟨Nat.le_of_ble_eq_true rfl, Nat.le_of_ble_eq_true rfl⟩) tl139 (by decide) rfl rfl hl.1 rfl (Nat.le_of_ble_eq_true rfl) dX9_readsAll_173 ⟨Nat.le_refl _, Nat.le_refl _⟩) hS (fun H locs hW hS => ?_)
              refine lv_if_eq (tgt := 183) hx hb dX9_readsAll_176 (by decide) (fun c29 => ?_) (fun c29 => ?_)
              · have hf := i_t hf c29
                refine lv_iconst (v := (0 : Int32)) hx hb dX9_readsAll_183 (by decide) ?_
                exact e_z (by decide) hB hW hS hr hlk (s_1 hf) (s_2 hf) dX9_readsAll_184
              · have hf := i_f hf c29
                refine lv_iconst (v := (1 : Int32)) hx hb dX9_readsAll_179 (by decide) ?_
                refine lv_goto (tgt := 184) hx hb dX9_readsAll_180 (by decide) ?_
                exact e_z (by decide) hB hW hS hr hlk (s_1 hf) (s_2 hf) dX9_readsAll_184
          · have hf := i_f hf c21
            by_cases c30 : p1 = (108 : Int32)
            · have hf := i_t hf c30
              refine lv_tableIn (tgt := 121) hx hb dX9_readsAll_1 (by rw [c30]; decide) (by rw [c30]; decide) (by rw [c30] <;> rfl) (by decide) ?_
              refine lv_aload_n hx hb dX9_readsAll_121 rfl (lv_at hl 0 rfl) ?_
              refine lv_iconst (v := (2 : Int32)) hx hb dX9_readsAll_122 (by decide) ?_
              obtain ⟨x31, M32, hg33, hf⟩ := b_o2 hf
              refine x_ci hB (x_rv hB hW hS (As := [.int (2 : Int32)]) (rest := []) (ct_X9_readsDigits l G hg33) (cl_RX9_243 hB.2.2.2.2.1 ⟨Nat.le_of_ble_eq_true rfl, Nat.le_of_ble_eq_true rfl⟩) tl139 (by decide) rfl rfl hl.1 rfl (Nat.le_of_ble_eq_true rfl) dX9_readsAll_123 ⟨Nat.le_refl _, Nat.le_refl _⟩) hS (fun H locs hW hS => ?_)
              obtain ⟨h34, hf⟩ := g_o hf
              exact e_z h34 hB hW hS hr hlk (s_1 hf) (s_2 hf) dX9_readsAll_126
            · have hf := i_f hf c30
              by_cases c35 : p1 = (109 : Int32)
              · have hf := i_t hf c35
                refine lv_tableIn (tgt := 157) hx hb dX9_readsAll_1 (by rw [c35]; decide) (by rw [c35]; decide) (by rw [c35] <;> rfl) (by decide) ?_
                refine lv_aload_n hx hb dX9_readsAll_157 rfl (lv_at hl 0 rfl) ?_
                refine lv_iconst (v := (1 : Int32)) hx hb dX9_readsAll_158 (by decide) ?_
                obtain ⟨x36, M37, hg38, hf⟩ := b_o2 hf
                refine x_ci hB (x_rv hB hW hS (As := [.int (1 : Int32)]) (rest := []) (ct_X9_readsDigits l G hg38) (cl_RX9_243 hB.2.2.2.2.1 ⟨Nat.le_of_ble_eq_true rfl, Nat.le_of_ble_eq_true rfl⟩) tl139 (by decide) rfl rfl hl.1 rfl (Nat.le_of_ble_eq_true rfl) dX9_readsAll_159 ⟨Nat.le_refl _, Nat.le_refl _⟩) hS (fun H locs hW hS => ?_)
                obtain ⟨h39, hf⟩ := g_o hf
                exact e_z h39 hB hW hS hr hlk (s_1 hf) (s_2 hf) dX9_readsAll_162
              · have hf := i_f hf c35
                by_cases c40 : p1 = (110 : Int32)
                · have hf := i_t hf c40
                  refine lv_tableIn (tgt := 185) hx hb dX9_readsAll_1 (by rw [c40]; decide) (by rw [c40]; decide) (by rw [c40] <;> rfl) (by decide) ?_
                  refine lv_iconst (v := (1 : Int32)) hx hb dX9_readsAll_185 (by decide) ?_
                  exact e_z (by decide) hB hW hS hr hlk (s_1 hf) (s_2 hf) dX9_readsAll_186
                · have hf := i_f hf c40
                  by_cases c41 : p1 = (111 : Int32)
                  · have hf := i_t hf c41
                    refine lv_tableIn (tgt := 157) hx hb dX9_readsAll_1 (by rw [c41]; decide) (by rw [c41]; decide) (by rw [c41] <;> rfl) (by decide) ?_
                    refine lv_aload_n hx hb dX9_readsAll_157 rfl (lv_at hl 0 rfl) ?_
                    refine lv_iconst (v := (1 : Int32)) hx hb dX9_readsAll_158 (by decide) ?_
                    obtain ⟨x42, M43, hg44, hf⟩ := b_o2 hf
                    refine x_ci hB (x_rv hB hW hS (As := [.int (1 : Int32)]) (rest := []) (ct_X9_readsDigits l G hg44) (cl_RX9_243 hB.2.2.2.2.1 ⟨Nat.le_of_ble_eq_true rfl, Nat.le_of_ble_eq_true rfl⟩) tl139 (by decide) rfl rfl hl.1 rfl (Nat.le_of_ble_eq_true rfl) dX9_readsAll_159 ⟨Nat.le_refl _, Nat.le_refl _⟩) hS (fun H locs hW hS => ?_)
                    obtain ⟨h45, hf⟩ := g_o hf
                    exact e_z h45 hB hW hS hr hlk (s_1 hf) (s_2 hf) dX9_readsAll_162
                  · have hf := i_f hf c41
                    by_cases c46 : p1 = (112 : Int32)
                    · have hf := i_t hf c46
                      refine lv_tableIn (tgt := 91) hx hb dX9_readsAll_1 (by rw [c46]; decide) (by rw [c46]; decide) (by rw [c46] <;> rfl) (by decide) ?_
                      refine lv_aload_n hx hb dX9_readsAll_91 rfl (lv_at hl 0 rfl) ?_
                      refine lv_iconst (v := (3 : Int32)) hx hb dX9_readsAll_92 (by decide) ?_
                      obtain ⟨x47, M48, hg49, hf⟩ := b_o2 hf
                      refine x_ci hB (x_rv hB hW hS (As := [.int (3 : Int32)]) (rest := []) (ct_X9_readsLetters l G hg49) (cl_RX9_240 hB.2.2.2.2.1 ⟨Nat.le_of_ble_eq_true rfl, Nat.le_of_ble_eq_true rfl⟩) tl139 (by decide) rfl rfl hl.1 rfl (Nat.le_of_ble_eq_true rfl) dX9_readsAll_93 ⟨Nat.le_refl _, Nat.le_refl _⟩) hS (fun H locs hW hS => ?_)
                      refine lv_if_eq (tgt := 119) hx hb dX9_readsAll_96 (by decide) (fun c50 => ?_) (fun c50 => ?_)
                      · have hf := i_t hf c50
                        refine lv_iconst (v := (0 : Int32)) hx hb dX9_readsAll_119 (by decide) ?_
                        exact e_z (by decide) hB hW hS hr hlk (s_1 hf) (s_2 hf) dX9_readsAll_120
                      · have hf := i_f hf c50
                        refine lv_aload_n hx hb dX9_readsAll_99 rfl (lv_at hl 0 rfl) ?_
                        refine lv_iconst (v := (1 : Int32)) hx hb dX9_readsAll_100 (by decide) ?_
                        obtain ⟨x51, M52, hg53, hf⟩ := b_o2 hf
                        refine x_ci hB (x_rv hB hW hS (As := [.int (1 : Int32)]) (rest := []) (ct_X9_readsDigits l G hg53) (cl_RX9_243 hB.2.2.2.2.1 ⟨Nat.le_of_ble_eq_true rfl, Nat.le_of_ble_eq_true rfl⟩) tl139 (by decide) rfl rfl hl.1 rfl (Nat.le_of_ble_eq_true rfl) dX9_readsAll_101 ⟨Nat.le_refl _, Nat.le_refl _⟩) hS (fun H locs hW hS => ?_)
                        refine lv_if_eq (tgt := 119) hx hb dX9_readsAll_104 (by decide) (fun c54 => ?_) (fun c54 => ?_)
                        · have hf := i_t hf c54
                          refine lv_iconst (v := (0 : Int32)) hx hb dX9_readsAll_119 (by decide) ?_
                          exact e_z (by decide) hB hW hS hr hlk (s_1 hf) (s_2 hf) dX9_readsAll_120
                        · have hf := i_f hf c54
                          refine lv_aload_n hx hb dX9_readsAll_107 rfl (lv_at hl 0 rfl) ?_
                          refine lv_iconst (v := (1 : Int32)) hx hb dX9_readsAll_108 (by decide) ?_
                          obtain ⟨x55, M56, hg57, hf⟩ := b_o2 hf
                          refine x_ci hB (x_rv hB hW hS (As := [.int (1 : Int32)]) (rest := []) (ct_X9_readsDigits l G hg57) (cl_RX9_243 hB.2.2.2.2.1 ⟨Nat.le_of_ble_eq_true rfl, Nat.le_of_ble_eq_true rfl⟩) tl139 (by decide) rfl rfl hl.1 rfl (Nat.le_of_ble_eq_true rfl) dX9_readsAll_109 ⟨Nat.le_refl _, Nat.le_refl _⟩) hS (fun H locs hW hS => ?_)
                          refine lv_if_eq (tgt := 119) hx hb dX9_readsAll_112 (by decide) (fun c58 => ?_) (fun c58 => ?_)
                          · have hf := i_t hf c58
                            refine lv_iconst (v := (0 : Int32)) hx hb dX9_readsAll_119 (by decide) ?_
                            exact e_z (by decide) hB hW hS hr hlk (s_1 hf) (s_2 hf) dX9_readsAll_120
                          · have hf := i_f hf c58
                            refine lv_iconst (v := (1 : Int32)) hx hb dX9_readsAll_115 (by decide) ?_
                            refine lv_goto (tgt := 120) hx hb dX9_readsAll_116 (by decide) ?_
                            exact e_z (by decide) hB hW hS hr hlk (s_1 hf) (s_2 hf) dX9_readsAll_120
                    · have hf := i_f hf c46
                      by_cases c59 : p1 = (113 : Int32)
                      · have hf := i_t hf c59
                        refine lv_tableIn (tgt := 185) hx hb dX9_readsAll_1 (by rw [c59]; decide) (by rw [c59]; decide) (by rw [c59] <;> rfl) (by decide) ?_
                        refine lv_iconst (v := (1 : Int32)) hx hb dX9_readsAll_185 (by decide) ?_
                        exact e_z (by decide) hB hW hS hr hlk (s_1 hf) (s_2 hf) dX9_readsAll_186
                      · have hf := i_f hf c59
                        by_cases c60 : p1 = (114 : Int32)
                        · have hf := i_t hf c60
                          refine lv_tableIn (tgt := 185) hx hb dX9_readsAll_1 (by rw [c60]; decide) (by rw [c60]; decide) (by rw [c60] <;> rfl) (by decide) ?_
                          refine lv_iconst (v := (1 : Int32)) hx hb dX9_readsAll_185 (by decide) ?_
                          exact e_z (by decide) hB hW hS hr hlk (s_1 hf) (s_2 hf) dX9_readsAll_186
                        · have hf := i_f hf c60
                          by_cases c61 : p1 = (115 : Int32)
                          · have hf := i_t hf c61
                            refine lv_tableIn (tgt := 185) hx hb dX9_readsAll_1 (by rw [c61]; decide) (by rw [c61]; decide) (by rw [c61] <;> rfl) (by decide) ?_
                            refine lv_iconst (v := (1 : Int32)) hx hb dX9_readsAll_185 (by decide) ?_
                            exact e_z (by decide) hB hW hS hr hlk (s_1 hf) (s_2 hf) dX9_readsAll_186
                          · have hf := i_f hf c61
                            by_cases c62 : p1 = (116 : Int32)
                            · have hf := i_t hf c62
                              refine lv_tableIn (tgt := 121) hx hb dX9_readsAll_1 (by rw [c62]; decide) (by rw [c62]; decide) (by rw [c62] <;> rfl) (by decide) ?_
                              refine lv_aload_n hx hb dX9_readsAll_121 rfl (lv_at hl 0 rfl) ?_
                              refine lv_iconst (v := (2 : Int32)) hx hb dX9_readsAll_122 (by decide) ?_
                              obtain ⟨x63, M64, hg65, hf⟩ := b_o2 hf
                              refine x_ci hB (x_rv hB hW hS (As := [.int (2 : Int32)]) (rest := []) (ct_X9_readsDigits l G hg65) (cl_RX9_243 hB.2.2.2.2.1 ⟨Nat.le_of_ble_eq_true rfl, Nat.le_of_ble_eq_true rfl⟩) tl139 (by decide) rfl rfl hl.1 rfl (Nat.le_of_ble_eq_true rfl) dX9_readsAll_123 ⟨Nat.le_refl _, Nat.le_refl _⟩) hS (fun H locs hW hS => ?_)
                              obtain ⟨h66, hf⟩ := g_o hf
                              exact e_z h66 hB hW hS hr hlk (s_1 hf) (s_2 hf) dX9_readsAll_126
                            · have hf := i_f hf c62
                              by_cases c67 : p1 = (117 : Int32)
                              · have hf := i_t hf c67
                                refine lv_tableIn (tgt := 185) hx hb dX9_readsAll_1 (by rw [c67]; decide) (by rw [c67]; decide) (by rw [c67] <;> rfl) (by decide) ?_
                                refine lv_iconst (v := (1 : Int32)) hx hb dX9_readsAll_185 (by decide) ?_
                                exact e_z (by decide) hB hW hS hr hlk (s_1 hf) (s_2 hf) dX9_readsAll_186
                              · have hf := i_f hf c67
                                by_cases c68 : p1 = (118 : Int32)
                                · have hf := i_t hf c68
                                  refine lv_tableIn (tgt := 185) hx hb dX9_readsAll_1 (by rw [c68]; decide) (by rw [c68]; decide) (by rw [c68] <;> rfl) (by decide) ?_
                                  refine lv_iconst (v := (1 : Int32)) hx hb dX9_readsAll_185 (by decide) ?_
                                  exact e_z (by decide) hB hW hS hr hlk (s_1 hf) (s_2 hf) dX9_readsAll_186
                                · have hf := i_f hf c68
                                  by_cases c69 : p1 = (119 : Int32)
                                  · have hf := i_t hf c69
                                    refine lv_tableIn (tgt := 84) hx hb dX9_readsAll_1 (by rw [c69]; decide) (by rw [c69]; decide) (by rw [c69] <;> rfl) (by decide) ?_
                                    refine lv_aload_n hx hb dX9_readsAll_84 rfl (lv_at hl 0 rfl) ?_
                                    refine lv_bipush (v := (12 : Int32)) hx hb dX9_readsAll_85 (by decide) ?_
                                    obtain ⟨x70, M71, hg72, hf⟩ := b_o2 hf
                                    refine x_ci hB (x_rv hB hW hS (As := [.int (12 : Int32)]) (rest := []) (ct_X9_readsLetters l G hg72) (cl_RX9_240 hB.2.2.2.2.1 ⟨Nat.le_of_ble_eq_true rfl, Nat.le_of_ble_eq_true rfl⟩) tl139 (by decide) rfl rfl hl.1 rfl (Nat.le_of_ble_eq_true rfl) dX9_readsAll_87 ⟨Nat.le_refl _, Nat.le_refl _⟩) hS (fun H locs hW hS => ?_)
                                    obtain ⟨h73, hf⟩ := g_o hf
                                    exact e_z h73 hB hW hS hr hlk (s_1 hf) (s_2 hf) dX9_readsAll_90
                                  · have hf := i_f hf c69
                                    refine lv_tableOut (tgt := 185) hx hb dX9_readsAll_1 (sw_out (lo := 103) (hi := 119) (fun v h1 h2 hv => ?_)) (by decide) ?_
                                    · rcases (show v = 103 ∨ v = 104 ∨ v = 105 ∨ v = 106 ∨ v = 107 ∨ v = 108 ∨ v = 109 ∨ v = 110 ∨ v = 111 ∨ v = 112 ∨ v = 113 ∨ v = 114 ∨ v = 115 ∨ v = 116 ∨ v = 117 ∨ v = 118 ∨ v = 119 by omega) with rfl | rfl | rfl | rfl | rfl | rfl | rfl | rfl | rfl | rfl | rfl | rfl | rfl | rfl | rfl | rfl | rfl
                                      · exact c1 hv
                                      · exact c14 hv
                                      · exact c19 hv
                                      · exact c20 hv
                                      · exact c21 hv
                                      · exact c30 hv
                                      · exact c35 hv
                                      · exact c40 hv
                                      · exact c41 hv
                                      · exact c46 hv
                                      · exact c59 hv
                                      · exact c60 hv
                                      · exact c61 hv
                                      · exact c62 hv
                                      · exact c67 hv
                                      · exact c68 hv
                                      · exact c69 hv
                                    · skip
                                      refine lv_iconst (v := (1 : Int32)) hx hb dX9_readsAll_185 (by decide) ?_
                                      exact e_z (by decide) hB hW hS hr hlk (s_1 hf) (s_2 hf) dX9_readsAll_186
theorem cl_RX9_246 {R : Room} {s : State} {args : Array Value} (ht : ∀ w ∈ lw_all, w.before args s = true) (hR : 2 + 1 ≤ R.frames ∧ 8 + (2 + 11) + 45 ≤ R.locals) : CallW R s args RX9 RX9 246 yX9_readsAll cX9_readsAll 2 (some .boolean) (wsq yX9_readsAll cX9_readsAll 2 (some .boolean)) (rmq 2 45) 0 0 1 := cwV 1 ht (goodV wd6_25 wd6_27 wsel_39 wd1_10 wd6_28) rfl rfl rfl (by decide +kernel) hR
def f_X9_statement (M : Mem) : Option (Int32 × Mem) := (bq1 (f_X9_sign M) (fun (x1 : Int32) => (jq (fun (_ : Unit) => (gq (inB (gi M 139 38) 49) (nmq (si M 157 (((gi M 139 38) : Int32).toNatClampNeg) x1) (fun (M6 : Mem) => gq (inB (gi M6 139 38) 49) (nmq (si M6 158 (((gi M6 139 38) : Int32).toNatClampNeg) (gi M6 139 37)) (fun (M8 : Mem) => nmq (si M8 139 39 ((3 : Int32) * (gi M8 139 38))) (fun (M9 : Mem) => nmq (si M9 139 37 ((gi M9 139 37) + (1 : Int32))) (fun (M10 : Mem) => bq2 (f_X9_readsAll x1 M10) (fun (x11 : Int32) (M12 : Mem) => (if x11 = 0 then some ((0 : Int32), M12) else (bq1 (f_X9_sign M12) (fun (x15 : Int32) => (if x15 = (59 : Int32) then (nmq (si M12 139 37 ((gi M12 139 37) + (1 : Int32))) (fun (M18 : Mem) => some ((1 : Int32), M18))) else some ((0 : Int32), M12)))))))))))))) (fun (K4 : Unit → Option (Int32 × Mem)) => (if x1 = (119 : Int32) then (K4 ()) else (if x1 = (110 : Int32) then (K4 ()) else (if x1 = (112 : Int32) then (K4 ()) else (if x1 = (108 : Int32) then (K4 ()) else (if x1 = (103 : Int32) then (K4 ()) else (if x1 = (116 : Int32) then (K4 ()) else (if x1 = (104 : Int32) then (K4 ()) else (if x1 = (111 : Int32) then (K4 ()) else (if x1 = (109 : Int32) then (K4 ()) else (if x1 = (107 : Int32) then (K4 ()) else some ((0 : Int32), M)))))))))))))))
set_option maxHeartbeats 4000000 in
set_option maxRecDepth 100000 in
theorem ct_X9_statement (l : Launch) (G : GG)  {M : Mem} {r : Int32} {Mr : Mem}  (hf : f_X9_statement M = some (r, Mr)) : Met l yX9_statement (wsq yX9_statement cX9_statement 2 (some .boolean)) (rmq 3 66) (va_Pc [.ref (G.2.2.1 139)] (World G M)) (Qi G r Mr) 0 0 (adA G) := by
  refine x_start (plainFor_of_name (by decide)) (Nat.le_of_ble_eq_true rfl) ?_
  intro p e s m args below meth c hB hr hlk hW hS ls hl
  have hx := hB.x
  have hb := hB.b
  have hl : lv_has ls 2 [(0, .ref (G.2.2.1 139))] := hl
  unfold f_X9_statement at hf
  refine lv_aload_n hx hb dX9_statement_0 rfl (lv_at hl 0 rfl) ?_
  obtain ⟨x1, hg2, hf⟩ := b_o1 hf
  refine x_ci hB (x_rv hB hW hS (As := []) (rest := []) (ct_X9_sign l G hg2) (cl_RX9_231 hB.2.2.2.2.1 ⟨Nat.le_of_ble_eq_true rfl, Nat.le_of_ble_eq_true rfl⟩) tl139 (by decide) rfl rfl hl.1 rfl (Nat.le_of_ble_eq_true rfl) dX9_statement_1 ⟨Nat.le_refl _, Nat.le_refl _⟩) hS (fun H locs hW hS => ?_)
  refine lv_istore_n (lv' := [(1, .int x1), (0, .ref (G.2.2.1 139))]) hx hb dX9_statement_4 rfl hl (by decide) rfl (fun ls hl => ?_)
  refine lv_iload_n hx hb dX9_statement_5 rfl (lv_at hl 0 rfl) ?_
  refine lv_bipush (v := (119 : Int32)) hx hb dX9_statement_6 (by decide) ?_
  obtain ⟨K4, eK4, hf⟩ := j_o hf
  have main3 : ∀ (_ : Unit) (H : Heap) (locs : List Loc) (ls : Array Slot), Wd G M H → va_S (adA G) s.heap H locs → lv_has ls 2 [(0, .ref (G.2.2.1 139)), (1, .int x1)] → K4 () = some (r, Mr) → W p l e (rmq 3 66) s m args below meth c H locs 0 0 (MQ below (Qi G r Mr) args s 0 0 (adA G)) (F0 m 67 ls []) := by
    intro _ H locs ls hW hS hl hf
    subst eK4
    refine lv_aload_n hx hb dX9_statement_67 rfl (lv_at hl 0 rfl) ?_
    refine fg9_31 hB hW tl139 wd5_110 dX9_statement_68 ?_
    refine lv_aload_n hx hb dX9_statement_71 rfl (lv_at hl 0 rfl) ?_
    refine fg9_38 hB hW tl139 wd5_117 dX9_statement_72 ?_
    refine lv_iload_n hx hb dX9_statement_75 rfl (lv_at hl 1 rfl) ?_
    obtain ⟨h5, hf⟩ := g_o hf
    refine x_i hB hW hS tl157 al157 h5 dX9_statement_76 (fun H locs M6 eM6 hW hS => ?_)
    have hf := nm_o hf eM6
    refine lv_aload_n hx hb dX9_statement_77 rfl (lv_at hl 0 rfl) ?_
    refine fg9_32 hB hW tl139 wd5_111 dX9_statement_78 ?_
    refine lv_aload_n hx hb dX9_statement_81 rfl (lv_at hl 0 rfl) ?_
    refine fg9_38 hB hW tl139 wd5_117 dX9_statement_82 ?_
    refine lv_aload_n hx hb dX9_statement_85 rfl (lv_at hl 0 rfl) ?_
    refine fg9_37 hB hW tl139 wd5_116 dX9_statement_86 ?_
    obtain ⟨h7, hf⟩ := g_o hf
    refine x_i hB hW hS tl158 al158 h7 dX9_statement_89 (fun H locs M8 eM8 hW hS => ?_)
    have hf := nm_o hf eM8
    refine lv_aload_n hx hb dX9_statement_90 rfl (lv_at hl 0 rfl) ?_
    refine lv_iconst (v := (3 : Int32)) hx hb dX9_statement_91 (by decide) ?_
    refine lv_aload_n hx hb dX9_statement_92 rfl (lv_at hl 0 rfl) ?_
    refine fg9_38 hB hW tl139 wd5_117 dX9_statement_93 ?_
    refine lv_imul hx hb dX9_statement_96 ?_
    refine fp9_39 hB hW hS tl139 wd5_118 dX9_statement_97 (fun H locs M9 eM9 hW hS => ?_)
    have hf := nm_o hf eM9
    refine lv_aload_n hx hb dX9_statement_100 rfl (lv_at hl 0 rfl) ?_
    refine lv_dup hx hb dX9_statement_101 rfl ?_
    refine fg9_37 hB hW tl139 wd5_116 dX9_statement_102 ?_
    refine lv_iconst (v := (1 : Int32)) hx hb dX9_statement_105 (by decide) ?_
    refine lv_iadd hx hb dX9_statement_106 ?_
    refine fp9_37 hB hW hS tl139 wd5_116 dX9_statement_107 (fun H locs M10 eM10 hW hS => ?_)
    have hf := nm_o hf eM10
    refine lv_aload_n hx hb dX9_statement_110 rfl (lv_at hl 0 rfl) ?_
    refine lv_iload_n hx hb dX9_statement_111 rfl (lv_at hl 1 rfl) ?_
    obtain ⟨x11, M12, hg13, hf⟩ := b_o2 hf
    refine x_ci hB (x_rv hB hW hS (As := [.int x1]) (rest := []) (ct_X9_readsAll l G hg13) (cl_RX9_246 hB.2.2.2.2.1 ⟨Nat.le_of_ble_eq_true rfl, Nat.le_of_ble_eq_true rfl⟩) tl139 (by decide) rfl rfl hl.1 rfl (Nat.le_of_ble_eq_true rfl) dX9_statement_112 ⟨Nat.le_refl _, Nat.le_refl _⟩) hS (fun H locs hW hS => ?_)
    refine lv_if_eq (tgt := 127) hx hb dX9_statement_115 (by decide) (fun c14 => ?_) (fun c14 => ?_)
    · have hf := i_t hf c14
      refine lv_iconst (v := (0 : Int32)) hx hb dX9_statement_127 (by decide) ?_
      exact e_z (by decide) hB hW hS hr hlk (s_1 hf) (s_2 hf) dX9_statement_128
    · have hf := i_f hf c14
      refine lv_aload_n hx hb dX9_statement_118 rfl (lv_at hl 0 rfl) ?_
      obtain ⟨x15, hg16, hf⟩ := b_o1 hf
      refine x_ci hB (x_rv hB hW hS (As := []) (rest := []) (ct_X9_sign l G hg16) (cl_RX9_231 hB.2.2.2.2.1 ⟨Nat.le_of_ble_eq_true rfl, Nat.le_of_ble_eq_true rfl⟩) tl139 (by decide) rfl rfl hl.1 rfl (Nat.le_of_ble_eq_true rfl) dX9_statement_119 ⟨Nat.le_refl _, Nat.le_refl _⟩) hS (fun H locs hW hS => ?_)
      refine lv_bipush (v := (59 : Int32)) hx hb dX9_statement_122 (by decide) ?_
      refine lv_icmp_eq (tgt := 129) hx hb dX9_statement_124 (by decide) (fun c17 => ?_) (fun c17 => ?_)
      · have hf := i_t hf c17
        refine lv_aload_n hx hb dX9_statement_129 rfl (lv_at hl 0 rfl) ?_
        refine lv_dup hx hb dX9_statement_130 rfl ?_
        refine fg9_37 hB hW tl139 wd5_116 dX9_statement_131 ?_
        refine lv_iconst (v := (1 : Int32)) hx hb dX9_statement_134 (by decide) ?_
        refine lv_iadd hx hb dX9_statement_135 ?_
        refine fp9_37 hB hW hS tl139 wd5_116 dX9_statement_136 (fun H locs M18 eM18 hW hS => ?_)
        have hf := nm_o hf eM18
        refine lv_iconst (v := (1 : Int32)) hx hb dX9_statement_139 (by decide) ?_
        exact e_z (by decide) hB hW hS hr hlk (s_1 hf) (s_2 hf) dX9_statement_140
      · have hf := i_f hf c17
        refine lv_iconst (v := (0 : Int32)) hx hb dX9_statement_127 (by decide) ?_
        exact e_z (by decide) hB hW hS hr hlk (s_1 hf) (s_2 hf) dX9_statement_128
  refine lv_icmp_eq (tgt := 67) hx hb dX9_statement_8 (by decide) (fun c19 => ?_) (fun c19 => ?_)
  · have hf := i_t hf c19
    exact main3 () _ _ ls hW hS (lv_sub hl [1, 0] rfl) hf
  · have hf := i_f hf c19
    refine lv_iload_n hx hb dX9_statement_11 rfl (lv_at hl 0 rfl) ?_
    refine lv_bipush (v := (110 : Int32)) hx hb dX9_statement_12 (by decide) ?_
    refine lv_icmp_eq (tgt := 67) hx hb dX9_statement_14 (by decide) (fun c20 => ?_) (fun c20 => ?_)
    · have hf := i_t hf c20
      exact main3 () _ _ ls hW hS (lv_sub hl [1, 0] rfl) hf
    · have hf := i_f hf c20
      refine lv_iload_n hx hb dX9_statement_17 rfl (lv_at hl 0 rfl) ?_
      refine lv_bipush (v := (112 : Int32)) hx hb dX9_statement_18 (by decide) ?_
      refine lv_icmp_eq (tgt := 67) hx hb dX9_statement_20 (by decide) (fun c21 => ?_) (fun c21 => ?_)
      · have hf := i_t hf c21
        exact main3 () _ _ ls hW hS (lv_sub hl [1, 0] rfl) hf
      · have hf := i_f hf c21
        refine lv_iload_n hx hb dX9_statement_23 rfl (lv_at hl 0 rfl) ?_
        refine lv_bipush (v := (108 : Int32)) hx hb dX9_statement_24 (by decide) ?_
        refine lv_icmp_eq (tgt := 67) hx hb dX9_statement_26 (by decide) (fun c22 => ?_) (fun c22 => ?_)
        · have hf := i_t hf c22
          exact main3 () _ _ ls hW hS (lv_sub hl [1, 0] rfl) hf
        · have hf := i_f hf c22
          refine lv_iload_n hx hb dX9_statement_29 rfl (lv_at hl 0 rfl) ?_
          refine lv_bipush (v := (103 : Int32)) hx hb dX9_statement_30 (by decide) ?_
          refine lv_icmp_eq (tgt := 67) hx hb dX9_statement_32 (by decide) (fun c23 => ?_) (fun c23 => ?_)
          · have hf := i_t hf c23
            exact main3 () _ _ ls hW hS (lv_sub hl [1, 0] rfl) hf
          · have hf := i_f hf c23
            refine lv_iload_n hx hb dX9_statement_35 rfl (lv_at hl 0 rfl) ?_
            refine lv_bipush (v := (116 : Int32)) hx hb dX9_statement_36 (by decide) ?_
            refine lv_icmp_eq (tgt := 67) hx hb dX9_statement_38 (by decide) (fun c24 => ?_) (fun c24 => ?_)
            · have hf := i_t hf c24
              exact main3 () _ _ ls hW hS (lv_sub hl [1, 0] rfl) hf
            · have hf := i_f hf c24
              refine lv_iload_n hx hb dX9_statement_41 rfl (lv_at hl 0 rfl) ?_
              refine lv_bipush (v := (104 : Int32)) hx hb dX9_statement_42 (by decide) ?_
              refine lv_icmp_eq (tgt := 67) hx hb dX9_statement_44 (by decide) (fun c25 => ?_) (fun c25 => ?_)
              · have hf := i_t hf c25
                exact main3 () _ _ ls hW hS (lv_sub hl [1, 0] rfl) hf
              · have hf := i_f hf c25
                refine lv_iload_n hx hb dX9_statement_47 rfl (lv_at hl 0 rfl) ?_
                refine lv_bipush (v := (111 : Int32)) hx hb dX9_statement_48 (by decide) ?_
                refine lv_icmp_eq (tgt := 67) hx hb dX9_statement_50 (by decide) (fun c26 => ?_) (fun c26 => ?_)
                · have hf := i_t hf c26
                  exact main3 () _ _ ls hW hS (lv_sub hl [1, 0] rfl) hf
                · have hf := i_f hf c26
                  refine lv_iload_n hx hb dX9_statement_53 rfl (lv_at hl 0 rfl) ?_
                  refine lv_bipush (v := (109 : Int32)) hx hb dX9_statement_54 (by decide) ?_
                  refine lv_icmp_eq (tgt := 67) hx hb dX9_statement_56 (by decide) (fun c27 => ?_) (fun c27 => ?_)
                  · have hf := i_t hf c27
                    exact main3 () _ _ ls hW hS (lv_sub hl [1, 0] rfl) hf
                  · have hf := i_f hf c27
                    refine lv_iload_n hx hb dX9_statement_59 rfl (lv_at hl 0 rfl) ?_
                    refine lv_bipush (v := (107 : Int32)) hx hb dX9_statement_60 (by decide) ?_
                    refine lv_icmp_eq (tgt := 67) hx hb dX9_statement_62 (by decide) (fun c28 => ?_) (fun c28 => ?_)
                    · have hf := i_t hf c28
                      exact main3 () _ _ ls hW hS (lv_sub hl [1, 0] rfl) hf
                    · have hf := i_f hf c28
                      refine lv_iconst (v := (0 : Int32)) hx hb dX9_statement_65 (by decide) ?_
                      exact e_z (by decide) hB hW hS hr hlk (s_1 hf) (s_2 hf) dX9_statement_66
def f_X9_comesWord_L38 (p1 : Int32) (K9 : Int32 → Mem → Option (Mem)) (x7 : Int32) (M8 : Mem) : Option (Mem) := (gq (inB p1 49) ((if (gi M8 161 ((p1 : Int32).toNatClampNeg)) ≤ x7 then (some (M8)) else (gq (inB p1 49) (gq (inB ((gi M8 160 ((p1 : Int32).toNatClampNeg)) + x7) 96) (gq (inB (((12 : Int32) * (gi M8 139 9)) + x7) 192) (nmq (si M8 143 (((((12 : Int32) * (gi M8 139 9)) + x7) : Int32).toNatClampNeg) ((gi M8 156 ((((gi M8 160 ((p1 : Int32).toNatClampNeg)) + x7) : Int32).toNatClampNeg)) - (97 : Int32))) (fun (M20 : Mem) => nmq (x7 + (1 : Int32)) (fun (x21 : Int32) => (K9 x21 M20))))))))))
def f_X9_comesWord (p1 : Int32) (M : Mem) : Option (Int32 × Mem) := (if (gi M 139 9) = (16 : Int32) then some ((0 : Int32), M) else (gq (inB p1 49) (gq (inB (gi M 139 9) 16) (nmq (si M 142 (((gi M 139 9) : Int32).toNatClampNeg) (gi M 161 ((p1 : Int32).toNatClampNeg))) (fun (M4 : Mem) => gq (inB (gi M4 139 9) 16) (nmq (si M4 144 (((gi M4 139 9) : Int32).toNatClampNeg) (0 : Int32)) (fun (M6 : Mem) => (bq1 (lq2 (f_X9_comesWord_L38 p1) FU (0 : Int32) M6) (fun (M11 : Mem) => (nmq (si M11 139 9 ((gi M11 139 9) + (1 : Int32))) (fun (M12 : Mem) => some ((1 : Int32), M12))))))))))))
set_option maxHeartbeats 4000000 in
set_option maxRecDepth 100000 in
theorem ct_X9_comesWord (l : Launch) (G : GG) {p1 : Int32} {M : Mem} {r : Int32} {Mr : Mem}  (hf : f_X9_comesWord p1 M = some (r, Mr)) : Met l yX9_comesWord (wsq yX9_comesWord cX9_comesWord 3 (some .boolean)) (rmq 0 0) (va_Pc [.ref (G.2.2.1 139), .int p1] (World G M)) (Qi G r Mr) 0 0 (adA G) := by
  refine x_start (plainFor_of_name (by decide)) (Nat.le_of_ble_eq_true rfl) ?_
  intro p e s m args below meth c hB hr hlk hW hS ls hl
  have hx := hB.x
  have hb := hB.b
  have hl : lv_has ls 3 [(0, .ref (G.2.2.1 139)), (1, .int p1)] := hl
  unfold f_X9_comesWord at hf
  refine lv_aload_n hx hb dX9_comesWord_0 rfl (lv_at hl 0 rfl) ?_
  refine fg9_9 hB hW tl139 wd5_88 dX9_comesWord_1 ?_
  refine lv_bipush (v := (16 : Int32)) hx hb dX9_comesWord_4 (by decide) ?_
  refine lv_icmp_ne (tgt := 11) hx hb dX9_comesWord_6 (by decide) (fun c1 => ?_) (fun c1 => ?_)
  · have hf := i_f hf c1
    refine lv_aload_n hx hb dX9_comesWord_11 rfl (lv_at hl 0 rfl) ?_
    refine fg9_2 hB hW tl139 wd5_81 dX9_comesWord_12 ?_
    refine lv_aload_n hx hb dX9_comesWord_15 rfl (lv_at hl 0 rfl) ?_
    refine fg9_9 hB hW tl139 wd5_88 dX9_comesWord_16 ?_
    refine lv_aload_n hx hb dX9_comesWord_19 rfl (lv_at hl 0 rfl) ?_
    refine fg9_35 hB hW tl139 wd5_114 dX9_comesWord_20 ?_
    refine lv_iload_n hx hb dX9_comesWord_23 rfl (lv_at hl 1 rfl) ?_
    obtain ⟨h2, hf⟩ := g_o hf
    refine x_iald hB hW tl161 al161 h2 dX9_comesWord_24 ?_
    obtain ⟨h3, hf⟩ := g_o hf
    refine x_i hB hW hS tl142 al142 h3 dX9_comesWord_25 (fun H locs M4 eM4 hW hS => ?_)
    have hf := nm_o hf eM4
    refine lv_aload_n hx hb dX9_comesWord_26 rfl (lv_at hl 0 rfl) ?_
    refine fg9_4 hB hW tl139 wd5_83 dX9_comesWord_27 ?_
    refine lv_aload_n hx hb dX9_comesWord_30 rfl (lv_at hl 0 rfl) ?_
    refine fg9_9 hB hW tl139 wd5_88 dX9_comesWord_31 ?_
    refine lv_iconst (v := (0 : Int32)) hx hb dX9_comesWord_34 (by decide) ?_
    obtain ⟨h5, hf⟩ := g_o hf
    refine x_i hB hW hS tl144 al144 h5 dX9_comesWord_35 (fun H locs M6 eM6 hW hS => ?_)
    have hf := nm_o hf eM6
    refine lv_iconst (v := (0 : Int32)) hx hb dX9_comesWord_36 (by decide) ?_
    refine lv_istore_n (lv' := [(2, .int (0 : Int32)), (0, .ref (G.2.2.1 139)), (1, .int p1)]) hx hb dX9_comesWord_37 rfl hl (by decide) rfl (fun ls hl => ?_)
    obtain ⟨M13, hL, hf⟩ := b_o1 hf
    have main14 : ∀ (M11 : Mem) (H : Heap) (locs : List Loc) (ls : Array Slot), Wd G M11 H → va_S (adA G) s.heap H locs → lv_has ls 3 [(0, .ref (G.2.2.1 139))] → some (M11) = some (M13) → W p l e (rmq 0 0) s m args below meth c H locs 0 0 (MQ below (Qi G r Mr) args s 0 0 (adA G)) (F0 m 84 ls []) := by
      intro M11 H locs ls hW hS hl hE
      cases hE
      refine lv_aload_n hx hb dX9_comesWord_84 rfl (lv_at hl 0 rfl) ?_
      refine lv_dup hx hb dX9_comesWord_85 rfl ?_
      refine fg9_9 hB hW tl139 wd5_88 dX9_comesWord_86 ?_
      refine lv_iconst (v := (1 : Int32)) hx hb dX9_comesWord_89 (by decide) ?_
      refine lv_iadd hx hb dX9_comesWord_90 ?_
      refine fp9_9 hB hW hS tl139 wd5_88 dX9_comesWord_91 (fun H locs M12 eM12 hW hS => ?_)
      have hf := nm_o hf eM12
      refine lv_iconst (v := (1 : Int32)) hx hb dX9_comesWord_94 (by decide) ?_
      exact e_z (by decide) hB hW hS hr hlk (s_1 hf) (s_2 hf) dX9_comesWord_95
    have loop10 : ∀ (n : Nat) (x7 : Int32) (M8 : Mem) (H : Heap) (locs : List Loc) (ls : Array Slot), Wd G M8 H → va_S (adA G) s.heap H locs → lv_has ls 3 [(0, .ref (G.2.2.1 139)), (1, .int p1), (2, .int x7)] → lq2 (f_X9_comesWord_L38 p1) n x7 M8 = some (M13) → W p l e (rmq 0 0) s m args below meth c H locs 0 0 (MQ below (Qi G r Mr) args s 0 0 (adA G)) (F0 m 38 ls []) := by
      intro n
      induction n with
      | zero => intro x7 M8 H locs ls hW hS hl hf; exact (l_z2 hf).elim
      | succ n ih =>
        intro x7 M8 H locs ls hW hS hl hf
        have hf := l_s2 hf
        generalize lq2 (f_X9_comesWord_L38 p1) n = K9 at ih hf
        unfold f_X9_comesWord_L38 at hf
        refine lv_iload_n hx hb dX9_comesWord_38 rfl (lv_at hl 2 rfl) ?_
        refine lv_aload_n hx hb dX9_comesWord_39 rfl (lv_at hl 0 rfl) ?_
        refine fg9_35 hB hW tl139 wd5_114 dX9_comesWord_40 ?_
        refine lv_iload_n hx hb dX9_comesWord_43 rfl (lv_at hl 1 rfl) ?_
        obtain ⟨h15, hf⟩ := g_o hf
        refine x_iald hB hW tl161 al161 h15 dX9_comesWord_44 ?_
        refine lv_icmp_ge (tgt := 84) hx hb dX9_comesWord_45 (by decide) (fun c16 => ?_) (fun c16 => ?_)
        · have hf := i_t hf c16
          exact main14 M8 _ _ ls hW hS (lv_sub hl [0] rfl) hf
        · have hf := i_f hf c16
          refine lv_aload_n hx hb dX9_comesWord_48 rfl (lv_at hl 0 rfl) ?_
          refine fg9_3 hB hW tl139 wd5_82 dX9_comesWord_49 ?_
          refine lv_bipush (v := (12 : Int32)) hx hb dX9_comesWord_52 (by decide) ?_
          refine lv_aload_n hx hb dX9_comesWord_54 rfl (lv_at hl 0 rfl) ?_
          refine fg9_9 hB hW tl139 wd5_88 dX9_comesWord_55 ?_
          refine lv_imul hx hb dX9_comesWord_58 ?_
          refine lv_iload_n hx hb dX9_comesWord_59 rfl (lv_at hl 2 rfl) ?_
          refine lv_iadd hx hb dX9_comesWord_60 ?_
          refine lv_aload_n hx hb dX9_comesWord_61 rfl (lv_at hl 0 rfl) ?_
          refine fg9_30 hB hW tl139 wd5_109 dX9_comesWord_62 ?_
          refine lv_aload_n hx hb dX9_comesWord_65 rfl (lv_at hl 0 rfl) ?_
          refine fg9_34 hB hW tl139 wd5_113 dX9_comesWord_66 ?_
          refine lv_iload_n hx hb dX9_comesWord_69 rfl (lv_at hl 1 rfl) ?_
          obtain ⟨h17, hf⟩ := g_o hf
          refine x_iald hB hW tl160 al160 h17 dX9_comesWord_70 ?_
          refine lv_iload_n hx hb dX9_comesWord_71 rfl (lv_at hl 2 rfl) ?_
          refine lv_iadd hx hb dX9_comesWord_72 ?_
          obtain ⟨h18, hf⟩ := g_o hf
          refine x_iald hB hW tl156 al156 h18 dX9_comesWord_73 ?_
          refine lv_bipush (v := (97 : Int32)) hx hb dX9_comesWord_74 (by decide) ?_
          refine lv_isub hx hb dX9_comesWord_76 ?_
          obtain ⟨h19, hf⟩ := g_o hf
          refine x_i hB hW hS tl143 al143 h19 dX9_comesWord_77 (fun H locs M20 eM20 hW hS => ?_)
          have hf := nm_o hf eM20
          obtain ⟨x21, ex21⟩ : ∃ y : Int32, y = x7 + (1 : Int32) := ⟨_, rfl⟩
          have hf := nm_o hf ex21
          refine lv_iinc (v := x21) (lv' := [(2, .int x21), (0, .ref (G.2.2.1 139)), (1, .int p1)]) hx hb dX9_comesWord_78 hl (k := 2) rfl (by rw [ex21]; rfl) (by decide) rfl (fun ls hl => ?_)
          refine lv_goto (tgt := 38) hx hb dX9_comesWord_81 (by decide) ?_
          exact ih x21 M20 _ _ ls hW hS (lv_sub hl [1, 2, 0] rfl) hf
    exact loop10 FU (0 : Int32) M6 _ _ ls hW hS (lv_sub hl [1, 2, 0] rfl) hL
  · have hf := i_t hf c1
    refine lv_iconst (v := (0 : Int32)) hx hb dX9_comesWord_9 (by decide) ?_
    exact e_z (by decide) hB hW hS hr hlk (s_1 hf) (s_2 hf) dX9_comesWord_10
def f_X9_isPatternSo_L30 (p1 : Int32) (p2 : Int32) (M : Mem) (K6 : Int32 → Int32 → Option (Int32)) (x4 : Int32) (x5 : Int32) : Option (Int32) := (if p2 ≤ x5 then (some (x4)) else (if x4 = 0 then (some (x4)) else (gq (inB (((3 : Int32) * p1) + x5) 24) (gq (inB x5 3) ((if (gi M 146 (((((3 : Int32) * p1) + x5) : Int32).toNatClampNeg)) = (gi M 162 ((x5 : Int32).toNatClampNeg)) then (nmq (x5 + (1 : Int32)) (fun (x18 : Int32) => (K6 (1 : Int32) x18))) else (nmq (x5 + (1 : Int32)) (fun (x17 : Int32) => (K6 (0 : Int32) x17)))))))))
def f_X9_isPatternSo (p1 : Int32) (p2 : Int32) (p3 : Int32) (M : Mem) : Option Int32 := (gq (inB p1 8) ((bq1 ((if (gi M 145 ((p1 : Int32).toNatClampNeg)) = p2 then (gq (inB p1 8) ((if (gi M 147 ((p1 : Int32).toNatClampNeg)) = p3 then (some ((1 : Int32))) else (some ((0 : Int32)))))) else (some ((0 : Int32)))) : Option (Int32)) (fun (x2 : Int32) => (bq1 (lq2 (f_X9_isPatternSo_L30 p1 p2 M) FU x2 (0 : Int32)) (fun (x8 : Int32) => (gq (zB x8) (some x8))))))))
set_option maxHeartbeats 4000000 in
set_option maxRecDepth 100000 in
theorem ct_X9_isPatternSo (l : Launch) (G : GG) {p1 : Int32} {p2 : Int32} {p3 : Int32} {M : Mem} {r : Int32}  (hf : f_X9_isPatternSo p1 p2 p3 M = some r) : Met l yX9_isPatternSo (wsq yX9_isPatternSo cX9_isPatternSo 6 (some .boolean)) (rmq 0 0) (va_Pc [.ref (G.2.2.1 139), .int p1, .int p2, .int p3] (World G M)) (Qi G r M) 0 0 (adA G) := by
  refine x_start (plainFor_of_name (by decide)) (Nat.le_of_ble_eq_true rfl) ?_
  intro p e s m args below meth c hB hr hlk hW hS ls hl
  have hx := hB.x
  have hb := hB.b
  have hl : lv_has ls 6 [(0, .ref (G.2.2.1 139)), (1, .int p1), (2, .int p2), (3, .int p3)] := hl
  unfold f_X9_isPatternSo at hf
  refine lv_aload_n hx hb dX9_isPatternSo_0 rfl (lv_at hl 0 rfl) ?_
  refine fg9_5 hB hW tl139 wd5_84 dX9_isPatternSo_1 ?_
  refine lv_iload_n hx hb dX9_isPatternSo_4 rfl (lv_at hl 1 rfl) ?_
  obtain ⟨h1, hf⟩ := g_o hf
  refine x_iald hB hW tl145 al145 h1 dX9_isPatternSo_5 ?_
  refine lv_iload_n hx hb dX9_isPatternSo_6 rfl (lv_at hl 2 rfl) ?_
  obtain ⟨y19, hR, hf⟩ := b_o1 hf
  have main3 : ∀ (x2 : Int32) (H : Heap) (locs : List Loc) (ls : Array Slot), Wd G M H → va_S (adA G) s.heap H locs → lv_has ls 6 [(0, .ref (G.2.2.1 139)), (1, .int p1), (2, .int p2)] → some (x2) = some (y19) → W p l e (rmq 0 0) s m args below meth c H locs 0 0 (MQ below (Qi G r M) args s 0 0 (adA G)) (F0 m 25 ls [.int x2]) := by
    intro x2 H locs ls hW hS hl hE
    cases hE
    refine lv_istore (lv' := [(4, .int y19), (0, .ref (G.2.2.1 139)), (1, .int p1), (2, .int p2)]) hx hb dX9_isPatternSo_25 hl (by decide) rfl (fun ls hl => ?_)
    refine lv_iconst (v := (0 : Int32)) hx hb dX9_isPatternSo_27 (by decide) ?_
    refine lv_istore (lv' := [(5, .int (0 : Int32)), (4, .int y19), (0, .ref (G.2.2.1 139)), (1, .int p1), (2, .int p2)]) hx hb dX9_isPatternSo_28 hl (by decide) rfl (fun ls hl => ?_)
    obtain ⟨y10, hL, hf⟩ := b_o1 hf
    have main11 : ∀ (x8 : Int32) (H : Heap) (locs : List Loc) (ls : Array Slot), Wd G M H → va_S (adA G) s.heap H locs → lv_has ls 6 [(4, .int x8)] → some (x8) = some (y10) → W p l e (rmq 0 0) s m args below meth c H locs 0 0 (MQ below (Qi G r M) args s 0 0 (adA G)) (F0 m 75 ls []) := by
      intro x8 H locs ls hW hS hl hE
      cases hE
      refine lv_iload hx hb dX9_isPatternSo_75 (lv_at hl 0 rfl) ?_
      obtain ⟨h9, hf⟩ := g_o hf
      exact e_z h9 hB hW hS hr hlk (Option.some.inj hf) rfl dX9_isPatternSo_77
    have loop7 : ∀ (n : Nat) (x4 : Int32) (x5 : Int32) (H : Heap) (locs : List Loc) (ls : Array Slot), Wd G M H → va_S (adA G) s.heap H locs → lv_has ls 6 [(0, .ref (G.2.2.1 139)), (1, .int p1), (2, .int p2), (4, .int x4), (5, .int x5)] → lq2 (f_X9_isPatternSo_L30 p1 p2 M) n x4 x5 = some (y10) → W p l e (rmq 0 0) s m args below meth c H locs 0 0 (MQ below (Qi G r M) args s 0 0 (adA G)) (F0 m 30 ls []) := by
      intro n
      induction n with
      | zero => intro x4 x5 H locs ls hW hS hl hf; exact (l_z2 hf).elim
      | succ n ih =>
        intro x4 x5 H locs ls hW hS hl hf
        have hf := l_s2 hf
        generalize lq2 (f_X9_isPatternSo_L30 p1 p2 M) n = K6 at ih hf
        unfold f_X9_isPatternSo_L30 at hf
        refine lv_iload hx hb dX9_isPatternSo_30 (lv_at hl 4 rfl) ?_
        refine lv_iload_n hx hb dX9_isPatternSo_32 rfl (lv_at hl 2 rfl) ?_
        refine lv_icmp_ge (tgt := 75) hx hb dX9_isPatternSo_33 (by decide) (fun c12 => ?_) (fun c12 => ?_)
        · have hf := i_t hf c12
          exact main11 x4 _ _ ls hW hS (lv_sub hl [3] rfl) hf
        · have hf := i_f hf c12
          refine lv_iload hx hb dX9_isPatternSo_36 (lv_at hl 3 rfl) ?_
          refine lv_if_eq (tgt := 75) hx hb dX9_isPatternSo_38 (by decide) (fun c13 => ?_) (fun c13 => ?_)
          · have hf := i_t hf c13
            exact main11 x4 _ _ ls hW hS (lv_sub hl [3] rfl) hf
          · have hf := i_f hf c13
            refine lv_aload_n hx hb dX9_isPatternSo_41 rfl (lv_at hl 0 rfl) ?_
            refine fg9_6 hB hW tl139 wd5_85 dX9_isPatternSo_42 ?_
            refine lv_iconst (v := (3 : Int32)) hx hb dX9_isPatternSo_45 (by decide) ?_
            refine lv_iload_n hx hb dX9_isPatternSo_46 rfl (lv_at hl 1 rfl) ?_
            refine lv_imul hx hb dX9_isPatternSo_47 ?_
            refine lv_iload hx hb dX9_isPatternSo_48 (lv_at hl 4 rfl) ?_
            refine lv_iadd hx hb dX9_isPatternSo_50 ?_
            obtain ⟨h14, hf⟩ := g_o hf
            refine x_iald hB hW tl146 al146 h14 dX9_isPatternSo_51 ?_
            refine lv_aload_n hx hb dX9_isPatternSo_52 rfl (lv_at hl 0 rfl) ?_
            refine fg9_40 hB hW tl139 wd5_119 dX9_isPatternSo_53 ?_
            refine lv_iload hx hb dX9_isPatternSo_56 (lv_at hl 4 rfl) ?_
            obtain ⟨h15, hf⟩ := g_o hf
            refine x_iald hB hW tl162 al162 h15 dX9_isPatternSo_58 ?_
            refine lv_icmp_ne (tgt := 66) hx hb dX9_isPatternSo_59 (by decide) (fun c16 => ?_) (fun c16 => ?_)
            · have hf := i_f hf c16
              refine lv_iconst (v := (0 : Int32)) hx hb dX9_isPatternSo_66 (by decide) ?_
              refine lv_istore (lv' := [(4, .int (0 : Int32)), (0, .ref (G.2.2.1 139)), (1, .int p1), (2, .int p2), (5, .int x5)]) hx hb dX9_isPatternSo_67 hl (by decide) rfl (fun ls hl => ?_)
              obtain ⟨x17, ex17⟩ : ∃ y : Int32, y = x5 + (1 : Int32) := ⟨_, rfl⟩
              have hf := nm_o hf ex17
              refine lv_iinc (v := x17) (lv' := [(5, .int x17), (4, .int (0 : Int32)), (0, .ref (G.2.2.1 139)), (1, .int p1), (2, .int p2)]) hx hb dX9_isPatternSo_69 hl (k := 4) rfl (by rw [ex17]; rfl) (by decide) rfl (fun ls hl => ?_)
              refine lv_goto (tgt := 30) hx hb dX9_isPatternSo_72 (by decide) ?_
              exact ih (0 : Int32) x17 _ _ ls hW hS (lv_sub hl [2, 3, 4, 1, 0] rfl) hf
            · have hf := i_t hf c16
              refine lv_iconst (v := (1 : Int32)) hx hb dX9_isPatternSo_62 (by decide) ?_
              refine lv_goto (tgt := 67) hx hb dX9_isPatternSo_63 (by decide) ?_
              refine lv_istore (lv' := [(4, .int (1 : Int32)), (0, .ref (G.2.2.1 139)), (1, .int p1), (2, .int p2), (5, .int x5)]) hx hb dX9_isPatternSo_67 hl (by decide) rfl (fun ls hl => ?_)
              obtain ⟨x18, ex18⟩ : ∃ y : Int32, y = x5 + (1 : Int32) := ⟨_, rfl⟩
              have hf := nm_o hf ex18
              refine lv_iinc (v := x18) (lv' := [(5, .int x18), (4, .int (1 : Int32)), (0, .ref (G.2.2.1 139)), (1, .int p1), (2, .int p2)]) hx hb dX9_isPatternSo_69 hl (k := 4) rfl (by rw [ex18]; rfl) (by decide) rfl (fun ls hl => ?_)
              refine lv_goto (tgt := 30) hx hb dX9_isPatternSo_72 (by decide) ?_
              exact ih (1 : Int32) x18 _ _ ls hW hS (lv_sub hl [2, 3, 4, 1, 0] rfl) hf
    exact loop7 FU y19 (0 : Int32) _ _ ls hW hS (lv_sub hl [2, 3, 4, 1, 0] rfl) hL
  have hf := hR
  refine lv_icmp_ne (tgt := 24) hx hb dX9_isPatternSo_7 (by decide) (fun c20 => ?_) (fun c20 => ?_)
  · have hf := i_f hf c20
    refine lv_iconst (v := (0 : Int32)) hx hb dX9_isPatternSo_24 (by decide) ?_
    exact main3 (0 : Int32) _ _ ls hW hS (lv_sub hl [0, 1, 2] rfl) hf
  · have hf := i_t hf c20
    refine lv_aload_n hx hb dX9_isPatternSo_10 rfl (lv_at hl 0 rfl) ?_
    refine fg9_7 hB hW tl139 wd5_86 dX9_isPatternSo_11 ?_
    refine lv_iload_n hx hb dX9_isPatternSo_14 rfl (lv_at hl 1 rfl) ?_
    obtain ⟨h21, hf⟩ := g_o hf
    refine x_iald hB hW tl147 al147 h21 dX9_isPatternSo_15 ?_
    refine lv_iload_n hx hb dX9_isPatternSo_16 rfl (lv_at hl 3 rfl) ?_
    refine lv_icmp_ne (tgt := 24) hx hb dX9_isPatternSo_17 (by decide) (fun c22 => ?_) (fun c22 => ?_)
    · have hf := i_f hf c22
      refine lv_iconst (v := (0 : Int32)) hx hb dX9_isPatternSo_24 (by decide) ?_
      exact main3 (0 : Int32) _ _ ls hW hS (lv_sub hl [0, 1, 2] rfl) hf
    · have hf := i_t hf c22
      refine lv_iconst (v := (1 : Int32)) hx hb dX9_isPatternSo_20 (by decide) ?_
      refine lv_goto (tgt := 25) hx hb dX9_isPatternSo_21 (by decide) ?_
      exact main3 (1 : Int32) _ _ ls hW hS (lv_sub hl [0, 1, 2] rfl) hf
theorem cl_RX9_249 {R : Room} {s : State} {args : Array Value} (ht : ∀ w ∈ lw_all, w.before args s = true) (hR : 0 + 1 ≤ R.frames ∧ 8 + (6 + 11) + 0 ≤ R.locals) : CallW R s args RX9 RX9 249 yX9_isPatternSo cX9_isPatternSo 6 (some .boolean) (wsq yX9_isPatternSo cX9_isPatternSo 6 (some .boolean)) (rmq 0 0) 0 0 3 := cwV 3 ht (goodV wd6_72 wd6_74 wsel_50 wd1_10 wd6_75) rfl rfl rfl (by decide +kernel) hR
def f_X9_placeOfPattern_L2 (p1 : Int32) (p2 : Int32) (M : Mem) (K2 : Int32 → Option (Int32)) (x1 : Int32) : Option (Int32) := (if (gi M 139 10) ≤ x1 then (some (x1)) else (bq1 (f_X9_isPatternSo x1 p1 p2 M) (fun (x8 : Int32) => (if x8 = 0 then (nmq (x1 + (1 : Int32)) (fun (x11 : Int32) => (K2 x11))) else (some (x1))))))
def f_X9_placeOfPattern (p1 : Int32) (p2 : Int32) (M : Mem) : Option Int32 := (bq1 (lq1 (f_X9_placeOfPattern_L2 p1 p2 M) FU (0 : Int32)) (fun (x4 : Int32) => some x4))
set_option maxHeartbeats 4000000 in
set_option maxRecDepth 100000 in
theorem ct_X9_placeOfPattern (l : Launch) (G : GG) {p1 : Int32} {p2 : Int32} {M : Mem} {r : Int32}  (hf : f_X9_placeOfPattern p1 p2 M = some r) : Met l yX9_placeOfPattern (wsq yX9_placeOfPattern cX9_placeOfPattern 4 (some .int)) (rmq 1 25) (va_Pc [.ref (G.2.2.1 139), .int p1, .int p2] (World G M)) (Qi G r M) 0 0 (adA G) := by
  refine x_start (plainFor_of_name (by decide)) (Nat.le_of_ble_eq_true rfl) ?_
  intro p e s m args below meth c hB hr hlk hW hS ls hl
  have hx := hB.x
  have hb := hB.b
  have hl : lv_has ls 4 [(0, .ref (G.2.2.1 139)), (1, .int p1), (2, .int p2)] := hl
  unfold f_X9_placeOfPattern at hf
  refine lv_iconst (v := (0 : Int32)) hx hb dX9_placeOfPattern_0 (by decide) ?_
  refine lv_istore_n (lv' := [(3, .int (0 : Int32)), (0, .ref (G.2.2.1 139)), (1, .int p1), (2, .int p2)]) hx hb dX9_placeOfPattern_1 rfl hl (by decide) rfl (fun ls hl => ?_)
  obtain ⟨y5, hL, hf⟩ := b_o1 hf
  have main6 : ∀ (x4 : Int32) (H : Heap) (locs : List Loc) (ls : Array Slot), Wd G M H → va_S (adA G) s.heap H locs → lv_has ls 4 [(3, .int x4)] → some (x4) = some (y5) → W p l e (rmq 1 25) s m args below meth c H locs 0 0 (MQ below (Qi G r M) args s 0 0 (adA G)) (F0 m 26 ls []) := by
    intro x4 H locs ls hW hS hl hE
    cases hE
    refine lv_iload_n hx hb dX9_placeOfPattern_26 rfl (lv_at hl 0 rfl) ?_
    exact e_i hB hW hS hr hlk (Option.some.inj hf) rfl dX9_placeOfPattern_27
  have loop3 : ∀ (n : Nat) (x1 : Int32) (H : Heap) (locs : List Loc) (ls : Array Slot), Wd G M H → va_S (adA G) s.heap H locs → lv_has ls 4 [(0, .ref (G.2.2.1 139)), (1, .int p1), (2, .int p2), (3, .int x1)] → lq1 (f_X9_placeOfPattern_L2 p1 p2 M) n x1 = some (y5) → W p l e (rmq 1 25) s m args below meth c H locs 0 0 (MQ below (Qi G r M) args s 0 0 (adA G)) (F0 m 2 ls []) := by
    intro n
    induction n with
    | zero => intro x1 H locs ls hW hS hl hf; exact (l_z1 hf).elim
    | succ n ih =>
      intro x1 H locs ls hW hS hl hf
      have hf := l_s1 hf
      generalize lq1 (f_X9_placeOfPattern_L2 p1 p2 M) n = K2 at ih hf
      unfold f_X9_placeOfPattern_L2 at hf
      refine lv_iload_n hx hb dX9_placeOfPattern_2 rfl (lv_at hl 3 rfl) ?_
      refine lv_aload_n hx hb dX9_placeOfPattern_3 rfl (lv_at hl 0 rfl) ?_
      refine fg9_10 hB hW tl139 wd5_89 dX9_placeOfPattern_4 ?_
      refine lv_icmp_ge (tgt := 26) hx hb dX9_placeOfPattern_7 (by decide) (fun c7 => ?_) (fun c7 => ?_)
      · have hf := i_t hf c7
        exact main6 x1 _ _ ls hW hS (lv_sub hl [3] rfl) hf
      · have hf := i_f hf c7
        refine lv_aload_n hx hb dX9_placeOfPattern_10 rfl (lv_at hl 0 rfl) ?_
        refine lv_iload_n hx hb dX9_placeOfPattern_11 rfl (lv_at hl 3 rfl) ?_
        refine lv_iload_n hx hb dX9_placeOfPattern_12 rfl (lv_at hl 1 rfl) ?_
        refine lv_iload_n hx hb dX9_placeOfPattern_13 rfl (lv_at hl 2 rfl) ?_
        obtain ⟨x8, hg9, hf⟩ := b_o1 hf
        refine x_ci hB (x_rv hB hW hS (As := [.int x1, .int p1, .int p2]) (rest := []) (ct_X9_isPatternSo l G hg9) (cl_RX9_249 hB.2.2.2.2.1 ⟨Nat.le_of_ble_eq_true rfl, Nat.le_of_ble_eq_true rfl⟩) tl139 (by decide) rfl rfl hl.1 rfl (Nat.le_of_ble_eq_true rfl) dX9_placeOfPattern_14 ⟨Nat.le_refl _, Nat.le_refl _⟩) hS (fun H locs hW hS => ?_)
        refine lv_if_ne (tgt := 26) hx hb dX9_placeOfPattern_17 (by decide) (fun c10 => ?_) (fun c10 => ?_)
        · have hf := i_f hf c10
          exact main6 x1 _ _ ls hW hS (lv_sub hl [3] rfl) hf
        · have hf := i_t hf c10
          obtain ⟨x11, ex11⟩ : ∃ y : Int32, y = x1 + (1 : Int32) := ⟨_, rfl⟩
          have hf := nm_o hf ex11
          refine lv_iinc (v := x11) (lv' := [(3, .int x11), (0, .ref (G.2.2.1 139)), (1, .int p1), (2, .int p2)]) hx hb dX9_placeOfPattern_20 hl (k := 3) rfl (by rw [ex11]; rfl) (by decide) rfl (fun ls hl => ?_)
          refine lv_goto (tgt := 2) hx hb dX9_placeOfPattern_23 (by decide) ?_
          exact ih x11 _ _ ls hW hS (lv_sub hl [1, 2, 3, 0] rfl) hf
  exact loop3 FU (0 : Int32) _ _ ls hW hS (lv_sub hl [1, 2, 3, 0] rfl) hL
def f_X9_comesPattern_L25 (p1 : Int32) (p2 : Int32) (K9 : Int32 → Mem → Option (Mem)) (x7 : Int32) (M8 : Mem) : Option (Mem) := (if p2 ≤ x7 then (some (M8)) else (gq (inB x7 3) (gq (inB (((3 : Int32) * p1) + x7) 24) (nmq (si M8 146 (((((3 : Int32) * p1) + x7) : Int32).toNatClampNeg) (gi M8 162 ((x7 : Int32).toNatClampNeg))) (fun (M19 : Mem) => nmq (x7 + (1 : Int32)) (fun (x20 : Int32) => (K9 x20 M19)))))))
def f_X9_comesPattern (p1 : Int32) (p2 : Int32) (p3 : Int32) (p4 : Int32) (M : Mem) : Option Mem := (gq (inB p1 8) (nmq (si M 145 ((p1 : Int32).toNatClampNeg) p2) (fun (M2 : Mem) => gq (inB p1 8) (nmq (si M2 147 ((p1 : Int32).toNatClampNeg) p3) (fun (M4 : Mem) => gq (inB p1 8) (nmq (si M4 148 ((p1 : Int32).toNatClampNeg) p4) (fun (M6 : Mem) => (bq1 (lq2 (f_X9_comesPattern_L25 p1 p2) FU (0 : Int32) M6) (fun (M11 : Mem) => (if p1 = (gi M11 139 10) then (nmq (si M11 139 10 ((gi M11 139 10) + (1 : Int32))) (fun (M13 : Mem) => some M13)) else some M11))))))))))
set_option maxHeartbeats 4000000 in
set_option maxRecDepth 100000 in
theorem ct_X9_comesPattern (l : Launch) (G : GG) {p1 : Int32} {p2 : Int32} {p3 : Int32} {p4 : Int32} {M : Mem} {Mr : Mem}  (hf : f_X9_comesPattern p1 p2 p3 p4 M = some Mr) : Met l yX9_comesPattern (wsq yX9_comesPattern cX9_comesPattern 6 none) (rmq 0 0) (va_Pc [.ref (G.2.2.1 139), .int p1, .int p2, .int p3, .int p4] (World G M)) (Qv G Mr) 0 0 (adA G) := by
  refine x_start (plainFor_of_name (by decide)) (Nat.le_of_ble_eq_true rfl) ?_
  intro p e s m args below meth c hB hr hlk hW hS ls hl
  have hx := hB.x
  have hb := hB.b
  have hl : lv_has ls 6 [(0, .ref (G.2.2.1 139)), (1, .int p1), (2, .int p2), (3, .int p3), (4, .int p4)] := hl
  unfold f_X9_comesPattern at hf
  refine lv_aload_n hx hb dX9_comesPattern_0 rfl (lv_at hl 0 rfl) ?_
  refine fg9_5 hB hW tl139 wd5_84 dX9_comesPattern_1 ?_
  refine lv_iload_n hx hb dX9_comesPattern_4 rfl (lv_at hl 1 rfl) ?_
  refine lv_iload_n hx hb dX9_comesPattern_5 rfl (lv_at hl 2 rfl) ?_
  obtain ⟨h1, hf⟩ := g_o hf
  refine x_i hB hW hS tl145 al145 h1 dX9_comesPattern_6 (fun H locs M2 eM2 hW hS => ?_)
  have hf := nm_o hf eM2
  refine lv_aload_n hx hb dX9_comesPattern_7 rfl (lv_at hl 0 rfl) ?_
  refine fg9_7 hB hW tl139 wd5_86 dX9_comesPattern_8 ?_
  refine lv_iload_n hx hb dX9_comesPattern_11 rfl (lv_at hl 1 rfl) ?_
  refine lv_iload_n hx hb dX9_comesPattern_12 rfl (lv_at hl 3 rfl) ?_
  obtain ⟨h3, hf⟩ := g_o hf
  refine x_i hB hW hS tl147 al147 h3 dX9_comesPattern_13 (fun H locs M4 eM4 hW hS => ?_)
  have hf := nm_o hf eM4
  refine lv_aload_n hx hb dX9_comesPattern_14 rfl (lv_at hl 0 rfl) ?_
  refine fg9_8 hB hW tl139 wd5_87 dX9_comesPattern_15 ?_
  refine lv_iload_n hx hb dX9_comesPattern_18 rfl (lv_at hl 1 rfl) ?_
  refine lv_iload hx hb dX9_comesPattern_19 (lv_at hl 4 rfl) ?_
  obtain ⟨h5, hf⟩ := g_o hf
  refine x_i hB hW hS tl148 al148 h5 dX9_comesPattern_21 (fun H locs M6 eM6 hW hS => ?_)
  have hf := nm_o hf eM6
  refine lv_iconst (v := (0 : Int32)) hx hb dX9_comesPattern_22 (by decide) ?_
  refine lv_istore (lv' := [(5, .int (0 : Int32)), (0, .ref (G.2.2.1 139)), (1, .int p1), (2, .int p2), (3, .int p3), (4, .int p4)]) hx hb dX9_comesPattern_23 hl (by decide) rfl (fun ls hl => ?_)
  obtain ⟨M14, hL, hf⟩ := b_o1 hf
  have main15 : ∀ (M11 : Mem) (H : Heap) (locs : List Loc) (ls : Array Slot), Wd G M11 H → va_S (adA G) s.heap H locs → lv_has ls 6 [(0, .ref (G.2.2.1 139)), (1, .int p1)] → some (M11) = some (M14) → W p l e (rmq 0 0) s m args below meth c H locs 0 0 (MQ below (Qv G Mr) args s 0 0 (adA G)) (F0 m 55 ls []) := by
    intro M11 H locs ls hW hS hl hE
    cases hE
    refine lv_iload_n hx hb dX9_comesPattern_55 rfl (lv_at hl 1 rfl) ?_
    refine lv_aload_n hx hb dX9_comesPattern_56 rfl (lv_at hl 0 rfl) ?_
    refine fg9_10 hB hW tl139 wd5_89 dX9_comesPattern_57 ?_
    refine lv_icmp_ne (tgt := 73) hx hb dX9_comesPattern_60 (by decide) (fun c12 => ?_) (fun c12 => ?_)
    · have hf := i_f hf c12
      exact e_v hB hW hS hr hlk (Option.some.inj hf) dX9_comesPattern_73
    · have hf := i_t hf c12
      refine lv_aload_n hx hb dX9_comesPattern_63 rfl (lv_at hl 0 rfl) ?_
      refine lv_dup hx hb dX9_comesPattern_64 rfl ?_
      refine fg9_10 hB hW tl139 wd5_89 dX9_comesPattern_65 ?_
      refine lv_iconst (v := (1 : Int32)) hx hb dX9_comesPattern_68 (by decide) ?_
      refine lv_iadd hx hb dX9_comesPattern_69 ?_
      refine fp9_10 hB hW hS tl139 wd5_89 dX9_comesPattern_70 (fun H locs M13 eM13 hW hS => ?_)
      have hf := nm_o hf eM13
      exact e_v hB hW hS hr hlk (Option.some.inj hf) dX9_comesPattern_73
  have loop10 : ∀ (n : Nat) (x7 : Int32) (M8 : Mem) (H : Heap) (locs : List Loc) (ls : Array Slot), Wd G M8 H → va_S (adA G) s.heap H locs → lv_has ls 6 [(0, .ref (G.2.2.1 139)), (1, .int p1), (2, .int p2), (5, .int x7)] → lq2 (f_X9_comesPattern_L25 p1 p2) n x7 M8 = some (M14) → W p l e (rmq 0 0) s m args below meth c H locs 0 0 (MQ below (Qv G Mr) args s 0 0 (adA G)) (F0 m 25 ls []) := by
    intro n
    induction n with
    | zero => intro x7 M8 H locs ls hW hS hl hf; exact (l_z2 hf).elim
    | succ n ih =>
      intro x7 M8 H locs ls hW hS hl hf
      have hf := l_s2 hf
      generalize lq2 (f_X9_comesPattern_L25 p1 p2) n = K9 at ih hf
      unfold f_X9_comesPattern_L25 at hf
      refine lv_iload hx hb dX9_comesPattern_25 (lv_at hl 3 rfl) ?_
      refine lv_iload_n hx hb dX9_comesPattern_27 rfl (lv_at hl 2 rfl) ?_
      refine lv_icmp_ge (tgt := 55) hx hb dX9_comesPattern_28 (by decide) (fun c16 => ?_) (fun c16 => ?_)
      · have hf := i_t hf c16
        exact main15 M8 _ _ ls hW hS (lv_sub hl [0, 1] rfl) hf
      · have hf := i_f hf c16
        refine lv_aload_n hx hb dX9_comesPattern_31 rfl (lv_at hl 0 rfl) ?_
        refine fg9_6 hB hW tl139 wd5_85 dX9_comesPattern_32 ?_
        refine lv_iconst (v := (3 : Int32)) hx hb dX9_comesPattern_35 (by decide) ?_
        refine lv_iload_n hx hb dX9_comesPattern_36 rfl (lv_at hl 1 rfl) ?_
        refine lv_imul hx hb dX9_comesPattern_37 ?_
        refine lv_iload hx hb dX9_comesPattern_38 (lv_at hl 3 rfl) ?_
        refine lv_iadd hx hb dX9_comesPattern_40 ?_
        refine lv_aload_n hx hb dX9_comesPattern_41 rfl (lv_at hl 0 rfl) ?_
        refine fg9_40 hB hW tl139 wd5_119 dX9_comesPattern_42 ?_
        refine lv_iload hx hb dX9_comesPattern_45 (lv_at hl 3 rfl) ?_
        obtain ⟨h17, hf⟩ := g_o hf
        refine x_iald hB hW tl162 al162 h17 dX9_comesPattern_47 ?_
        obtain ⟨h18, hf⟩ := g_o hf
        refine x_i hB hW hS tl146 al146 h18 dX9_comesPattern_48 (fun H locs M19 eM19 hW hS => ?_)
        have hf := nm_o hf eM19
        obtain ⟨x20, ex20⟩ : ∃ y : Int32, y = x7 + (1 : Int32) := ⟨_, rfl⟩
        have hf := nm_o hf ex20
        refine lv_iinc (v := x20) (lv' := [(5, .int x20), (0, .ref (G.2.2.1 139)), (1, .int p1), (2, .int p2)]) hx hb dX9_comesPattern_49 hl (k := 3) rfl (by rw [ex20]; rfl) (by decide) rfl (fun ls hl => ?_)
        refine lv_goto (tgt := 25) hx hb dX9_comesPattern_52 (by decide) ?_
        exact ih x20 M19 _ _ ls hW hS (lv_sub hl [1, 2, 3, 0] rfl) hf
  exact loop10 FU (0 : Int32) M6 _ _ ls hW hS (lv_sub hl [1, 2, 3, 0] rfl) hL
theorem cl_RX9_252 {R : Room} {s : State} {args : Array Value} (ht : ∀ w ∈ lw_all, w.before args s = true) (hR : 1 + 1 ≤ R.frames ∧ 8 + (4 + 11) + 25 ≤ R.locals) : CallW R s args RX9 RX9 252 yX9_placeOfPattern cX9_placeOfPattern 4 (some .int) (wsq yX9_placeOfPattern cX9_placeOfPattern 4 (some .int)) (rmq 1 25) 0 0 2 := cwV 2 ht (goodV wd6_68 wd6_70 wsel_49 wd1_10 wd6_71) rfl rfl rfl (by decide +kernel) hR
theorem cl_RX9_255 {R : Room} {s : State} {args : Array Value} (ht : ∀ w ∈ lw_all, w.before args s = true) (hR : 0 + 1 ≤ R.frames ∧ 8 + (6 + 11) + 0 ≤ R.locals) : CallW R s args RX9 RX9 255 yX9_comesPattern cX9_comesPattern 6 none (wsq yX9_comesPattern cX9_comesPattern 6 none) (rmq 0 0) 0 0 4 := cwV 4 ht (goodV wd6_76 wd6_78 wsel_51 wd1_10 wd6_79) rfl rfl rfl (by decide +kernel) hR
def f_X9_comesPatternTold_L11 (p1 : Int32) (x2 : Int32) (K5 : Int32 → Mem → Option (Mem)) (x3 : Int32) (M4 : Mem) : Option (Mem) := (if x2 ≤ x3 then (some (M4)) else (gq (inB p1 49) (gq (inB ((gi M4 160 ((p1 : Int32).toNatClampNeg)) + x3) 96) (gq (inB x3 3) (nmq (si M4 162 ((x3 : Int32).toNatClampNeg) ((gi M4 156 ((((gi M4 160 ((p1 : Int32).toNatClampNeg)) + x3) : Int32).toNatClampNeg)) - (97 : Int32))) (fun (M21 : Mem) => nmq (x3 + (1 : Int32)) (fun (x22 : Int32) => (K5 x22 M21))))))))
def f_X9_comesPatternTold (p1 : Int32) (p2 : Int32) (p3 : Int32) (M : Mem) : Option (Int32 × Mem) := (gq (inB p1 49) (nmq ((gi M 161 ((p1 : Int32).toNatClampNeg))) (fun (x2 : Int32) => (bq1 (lq2 (f_X9_comesPatternTold_L11 p1 x2) FU (0 : Int32) M) (fun (M7 : Mem) => (bq1 (f_X9_placeOfPattern x2 p2 M7) (fun (x8 : Int32) => (if x2 < p2 then some ((0 : Int32), M7) else (if p3 < (1 : Int32) then some ((0 : Int32), M7) else (if x8 = (8 : Int32) then some ((0 : Int32), M7) else (bq1 (f_X9_comesPattern x8 x2 p2 p3 M7) (fun (M13 : Mem) => some ((1 : Int32), M13)))))))))))))
set_option maxHeartbeats 4000000 in
set_option maxRecDepth 100000 in
theorem ct_X9_comesPatternTold (l : Launch) (G : GG) {p1 : Int32} {p2 : Int32} {p3 : Int32} {M : Mem} {r : Int32} {Mr : Mem}  (hf : f_X9_comesPatternTold p1 p2 p3 M = some (r, Mr)) : Met l yX9_comesPatternTold (wsq yX9_comesPatternTold cX9_comesPatternTold 6 (some .boolean)) (rmq 2 48) (va_Pc [.ref (G.2.2.1 139), .int p1, .int p2, .int p3] (World G M)) (Qi G r Mr) 0 0 (adA G) := by
  refine x_start (plainFor_of_name (by decide)) (Nat.le_of_ble_eq_true rfl) ?_
  intro p e s m args below meth c hB hr hlk hW hS ls hl
  have hx := hB.x
  have hb := hB.b
  have hl : lv_has ls 6 [(0, .ref (G.2.2.1 139)), (1, .int p1), (2, .int p2), (3, .int p3)] := hl
  unfold f_X9_comesPatternTold at hf
  refine lv_aload_n hx hb dX9_comesPatternTold_0 rfl (lv_at hl 0 rfl) ?_
  refine fg9_35 hB hW tl139 wd5_114 dX9_comesPatternTold_1 ?_
  refine lv_iload_n hx hb dX9_comesPatternTold_4 rfl (lv_at hl 1 rfl) ?_
  obtain ⟨h1, hf⟩ := g_o hf
  refine x_iald hB hW tl161 al161 h1 dX9_comesPatternTold_5 ?_
  refine lv_topi (fun x2 ex2 => ?_)
  have hf := nm_o hf ex2
  refine lv_istore (lv' := [(4, .int x2), (0, .ref (G.2.2.1 139)), (1, .int p1), (2, .int p2), (3, .int p3)]) hx hb dX9_comesPatternTold_6 hl (by decide) rfl (fun ls hl => ?_)
  refine lv_iconst (v := (0 : Int32)) hx hb dX9_comesPatternTold_8 (by decide) ?_
  refine lv_istore (lv' := [(5, .int (0 : Int32)), (4, .int x2), (0, .ref (G.2.2.1 139)), (1, .int p1), (2, .int p2), (3, .int p3)]) hx hb dX9_comesPatternTold_9 hl (by decide) rfl (fun ls hl => ?_)
  obtain ⟨M15, hL, hf⟩ := b_o1 hf
  have main16 : ∀ (M7 : Mem) (H : Heap) (locs : List Loc) (ls : Array Slot), Wd G M7 H → va_S (adA G) s.heap H locs → lv_has ls 6 [(0, .ref (G.2.2.1 139)), (2, .int p2), (3, .int p3), (4, .int x2)] → some (M7) = some (M15) → W p l e (rmq 2 48) s m args below meth c H locs 0 0 (MQ below (Qi G r Mr) args s 0 0 (adA G)) (F0 m 48 ls []) := by
    intro M7 H locs ls hW hS hl hE
    cases hE
    refine lv_aload_n hx hb dX9_comesPatternTold_48 rfl (lv_at hl 0 rfl) ?_
    refine lv_iload hx hb dX9_comesPatternTold_49 (lv_at hl 3 rfl) ?_
    refine lv_iload_n hx hb dX9_comesPatternTold_51 rfl (lv_at hl 1 rfl) ?_
    obtain ⟨x8, hg9, hf⟩ := b_o1 hf
    refine x_ci hB (x_rv hB hW hS (As := [.int x2, .int p2]) (rest := []) (ct_X9_placeOfPattern l G hg9) (cl_RX9_252 hB.2.2.2.2.1 ⟨Nat.le_of_ble_eq_true rfl, Nat.le_of_ble_eq_true rfl⟩) tl139 (by decide) rfl rfl hl.1 rfl (Nat.le_of_ble_eq_true rfl) dX9_comesPatternTold_52 ⟨Nat.le_refl _, Nat.le_refl _⟩) hS (fun H locs hW hS => ?_)
    refine lv_istore (lv' := [(5, .int x8), (0, .ref (G.2.2.1 139)), (2, .int p2), (3, .int p3), (4, .int x2)]) hx hb dX9_comesPatternTold_55 hl (by decide) rfl (fun ls hl => ?_)
    refine lv_iload_n hx hb dX9_comesPatternTold_57 rfl (lv_at hl 2 rfl) ?_
    refine lv_iload hx hb dX9_comesPatternTold_58 (lv_at hl 4 rfl) ?_
    refine lv_icmp_gt (tgt := 75) hx hb dX9_comesPatternTold_60 (by decide) (fun c10 => ?_) (fun c10 => ?_)
    · have hf := i_t hf c10
      refine lv_iconst (v := (0 : Int32)) hx hb dX9_comesPatternTold_75 (by decide) ?_
      exact e_z (by decide) hB hW hS hr hlk (s_1 hf) (s_2 hf) dX9_comesPatternTold_76
    · have hf := i_f hf c10
      refine lv_iload_n hx hb dX9_comesPatternTold_63 rfl (lv_at hl 3 rfl) ?_
      refine lv_iconst (v := (1 : Int32)) hx hb dX9_comesPatternTold_64 (by decide) ?_
      refine lv_icmp_lt (tgt := 75) hx hb dX9_comesPatternTold_65 (by decide) (fun c11 => ?_) (fun c11 => ?_)
      · have hf := i_t hf c11
        refine lv_iconst (v := (0 : Int32)) hx hb dX9_comesPatternTold_75 (by decide) ?_
        exact e_z (by decide) hB hW hS hr hlk (s_1 hf) (s_2 hf) dX9_comesPatternTold_76
      · have hf := i_f hf c11
        refine lv_iload hx hb dX9_comesPatternTold_68 (lv_at hl 0 rfl) ?_
        refine lv_bipush (v := (8 : Int32)) hx hb dX9_comesPatternTold_70 (by decide) ?_
        refine lv_icmp_ne (tgt := 77) hx hb dX9_comesPatternTold_72 (by decide) (fun c12 => ?_) (fun c12 => ?_)
        · have hf := i_f hf c12
          refine lv_aload_n hx hb dX9_comesPatternTold_77 rfl (lv_at hl 1 rfl) ?_
          refine lv_iload hx hb dX9_comesPatternTold_78 (lv_at hl 0 rfl) ?_
          refine lv_iload hx hb dX9_comesPatternTold_80 (lv_at hl 4 rfl) ?_
          refine lv_iload_n hx hb dX9_comesPatternTold_82 rfl (lv_at hl 2 rfl) ?_
          refine lv_iload_n hx hb dX9_comesPatternTold_83 rfl (lv_at hl 3 rfl) ?_
          obtain ⟨M13, hg14, hf⟩ := b_o1 hf
          refine x_cv hB (x_rv hB hW hS (As := [.int x8, .int x2, .int p2, .int p3]) (rest := []) (ct_X9_comesPattern l G hg14) (cl_RX9_255 hB.2.2.2.2.1 ⟨Nat.le_of_ble_eq_true rfl, Nat.le_of_ble_eq_true rfl⟩) tl139 (by decide) rfl rfl hl.1 rfl (Nat.le_of_ble_eq_true rfl) dX9_comesPatternTold_84 ⟨Nat.le_refl _, Nat.le_refl _⟩) hS (fun H locs hW hS => ?_)
          refine lv_iconst (v := (1 : Int32)) hx hb dX9_comesPatternTold_87 (by decide) ?_
          exact e_z (by decide) hB hW hS hr hlk (s_1 hf) (s_2 hf) dX9_comesPatternTold_88
        · have hf := i_t hf c12
          refine lv_iconst (v := (0 : Int32)) hx hb dX9_comesPatternTold_75 (by decide) ?_
          exact e_z (by decide) hB hW hS hr hlk (s_1 hf) (s_2 hf) dX9_comesPatternTold_76
  have loop6 : ∀ (n : Nat) (x3 : Int32) (M4 : Mem) (H : Heap) (locs : List Loc) (ls : Array Slot), Wd G M4 H → va_S (adA G) s.heap H locs → lv_has ls 6 [(0, .ref (G.2.2.1 139)), (1, .int p1), (2, .int p2), (3, .int p3), (4, .int x2), (5, .int x3)] → lq2 (f_X9_comesPatternTold_L11 p1 x2) n x3 M4 = some (M15) → W p l e (rmq 2 48) s m args below meth c H locs 0 0 (MQ below (Qi G r Mr) args s 0 0 (adA G)) (F0 m 11 ls []) := by
    intro n
    induction n with
    | zero => intro x3 M4 H locs ls hW hS hl hf; exact (l_z2 hf).elim
    | succ n ih =>
      intro x3 M4 H locs ls hW hS hl hf
      have hf := l_s2 hf
      generalize lq2 (f_X9_comesPatternTold_L11 p1 x2) n = K5 at ih hf
      unfold f_X9_comesPatternTold_L11 at hf
      refine lv_iload hx hb dX9_comesPatternTold_11 (lv_at hl 5 rfl) ?_
      refine lv_iload hx hb dX9_comesPatternTold_13 (lv_at hl 4 rfl) ?_
      refine lv_icmp_ge (tgt := 48) hx hb dX9_comesPatternTold_15 (by decide) (fun c17 => ?_) (fun c17 => ?_)
      · have hf := i_t hf c17
        exact main16 M4 _ _ ls hW hS (lv_sub hl [0, 2, 3, 4] rfl) hf
      · have hf := i_f hf c17
        refine lv_aload_n hx hb dX9_comesPatternTold_18 rfl (lv_at hl 0 rfl) ?_
        refine fg9_40 hB hW tl139 wd5_119 dX9_comesPatternTold_19 ?_
        refine lv_iload hx hb dX9_comesPatternTold_22 (lv_at hl 5 rfl) ?_
        refine lv_aload_n hx hb dX9_comesPatternTold_24 rfl (lv_at hl 0 rfl) ?_
        refine fg9_30 hB hW tl139 wd5_109 dX9_comesPatternTold_25 ?_
        refine lv_aload_n hx hb dX9_comesPatternTold_28 rfl (lv_at hl 0 rfl) ?_
        refine fg9_34 hB hW tl139 wd5_113 dX9_comesPatternTold_29 ?_
        refine lv_iload_n hx hb dX9_comesPatternTold_32 rfl (lv_at hl 1 rfl) ?_
        obtain ⟨h18, hf⟩ := g_o hf
        refine x_iald hB hW tl160 al160 h18 dX9_comesPatternTold_33 ?_
        refine lv_iload hx hb dX9_comesPatternTold_34 (lv_at hl 5 rfl) ?_
        refine lv_iadd hx hb dX9_comesPatternTold_36 ?_
        obtain ⟨h19, hf⟩ := g_o hf
        refine x_iald hB hW tl156 al156 h19 dX9_comesPatternTold_37 ?_
        refine lv_bipush (v := (97 : Int32)) hx hb dX9_comesPatternTold_38 (by decide) ?_
        refine lv_isub hx hb dX9_comesPatternTold_40 ?_
        obtain ⟨h20, hf⟩ := g_o hf
        refine x_i hB hW hS tl162 al162 h20 dX9_comesPatternTold_41 (fun H locs M21 eM21 hW hS => ?_)
        have hf := nm_o hf eM21
        obtain ⟨x22, ex22⟩ : ∃ y : Int32, y = x3 + (1 : Int32) := ⟨_, rfl⟩
        have hf := nm_o hf ex22
        refine lv_iinc (v := x22) (lv' := [(5, .int x22), (0, .ref (G.2.2.1 139)), (1, .int p1), (2, .int p2), (3, .int p3), (4, .int x2)]) hx hb dX9_comesPatternTold_42 hl (k := 5) rfl (by rw [ex22]; rfl) (by decide) rfl (fun ls hl => ?_)
        refine lv_goto (tgt := 11) hx hb dX9_comesPatternTold_45 (by decide) ?_
        exact ih x22 M21 _ _ ls hW hS (lv_sub hl [1, 2, 3, 4, 5, 0] rfl) hf
  exact loop6 FU (0 : Int32) M _ _ ls hW hS (lv_sub hl [2, 3, 4, 5, 1, 0] rfl) hL
def f_X9_comesGlue (p1 : Int32) (p2 : Int32) (p3 : Int32) (M : Mem) : Option (Int32 × Mem) := (if p1 < (2 : Int32) then some ((0 : Int32), M) else (if p3 ≤ p1 then (nmq (si M 139 12 p1) (fun (M3 : Mem) => nmq (si M3 139 13 p2) (fun (M4 : Mem) => nmq (si M4 139 14 p3) (fun (M5 : Mem) => some ((1 : Int32), M5))))) else some ((0 : Int32), M)))
set_option maxHeartbeats 4000000 in
set_option maxRecDepth 100000 in
theorem ct_X9_comesGlue (l : Launch) (G : GG) {p1 : Int32} {p2 : Int32} {p3 : Int32} {M : Mem} {r : Int32} {Mr : Mem}  (hf : f_X9_comesGlue p1 p2 p3 M = some (r, Mr)) : Met l yX9_comesGlue (wsq yX9_comesGlue cX9_comesGlue 4 (some .boolean)) (rmq 0 0) (va_Pc [.ref (G.2.2.1 139), .int p1, .int p2, .int p3] (World G M)) (Qi G r Mr) 0 0 (adA G) := by
  refine x_start (plainFor_of_name (by decide)) (Nat.le_of_ble_eq_true rfl) ?_
  intro p e s m args below meth c hB hr hlk hW hS ls hl
  have hx := hB.x
  have hb := hB.b
  have hl : lv_has ls 4 [(0, .ref (G.2.2.1 139)), (1, .int p1), (2, .int p2), (3, .int p3)] := hl
  unfold f_X9_comesGlue at hf
  refine lv_iload_n hx hb dX9_comesGlue_0 rfl (lv_at hl 1 rfl) ?_
  refine lv_iconst (v := (2 : Int32)) hx hb dX9_comesGlue_1 (by decide) ?_
  refine lv_icmp_lt (tgt := 10) hx hb dX9_comesGlue_2 (by decide) (fun c1 => ?_) (fun c1 => ?_)
  · have hf := i_t hf c1
    refine lv_iconst (v := (0 : Int32)) hx hb dX9_comesGlue_10 (by decide) ?_
    exact e_z (by decide) hB hW hS hr hlk (s_1 hf) (s_2 hf) dX9_comesGlue_11
  · have hf := i_f hf c1
    refine lv_iload_n hx hb dX9_comesGlue_5 rfl (lv_at hl 3 rfl) ?_
    refine lv_iload_n hx hb dX9_comesGlue_6 rfl (lv_at hl 1 rfl) ?_
    refine lv_icmp_le (tgt := 12) hx hb dX9_comesGlue_7 (by decide) (fun c2 => ?_) (fun c2 => ?_)
    · have hf := i_t hf c2
      refine lv_aload_n hx hb dX9_comesGlue_12 rfl (lv_at hl 0 rfl) ?_
      refine lv_iload_n hx hb dX9_comesGlue_13 rfl (lv_at hl 1 rfl) ?_
      refine fp9_12 hB hW hS tl139 wd5_91 dX9_comesGlue_14 (fun H locs M3 eM3 hW hS => ?_)
      have hf := nm_o hf eM3
      refine lv_aload_n hx hb dX9_comesGlue_17 rfl (lv_at hl 0 rfl) ?_
      refine lv_iload_n hx hb dX9_comesGlue_18 rfl (lv_at hl 2 rfl) ?_
      refine fp9_13 hB hW hS tl139 wd5_92 dX9_comesGlue_19 (fun H locs M4 eM4 hW hS => ?_)
      have hf := nm_o hf eM4
      refine lv_aload_n hx hb dX9_comesGlue_22 rfl (lv_at hl 0 rfl) ?_
      refine lv_iload_n hx hb dX9_comesGlue_23 rfl (lv_at hl 3 rfl) ?_
      refine fp9_14 hB hW hS tl139 wd5_93 dX9_comesGlue_24 (fun H locs M5 eM5 hW hS => ?_)
      have hf := nm_o hf eM5
      refine lv_iconst (v := (1 : Int32)) hx hb dX9_comesGlue_27 (by decide) ?_
      exact e_z (by decide) hB hW hS hr hlk (s_1 hf) (s_2 hf) dX9_comesGlue_28
    · have hf := i_f hf c2
      refine lv_iconst (v := (0 : Int32)) hx hb dX9_comesGlue_10 (by decide) ?_
      exact e_z (by decide) hB hW hS hr hlk (s_1 hf) (s_2 hf) dX9_comesGlue_11
def f_X9_comesNumber (p1 : Int32) (p2 : Int32) (M : Mem) : Option (Int32 × Mem) := (if p1 = (104 : Int32) then (nmq (si M 139 16 p2) (fun (M2 : Mem) => some ((1 : Int32), M2))) else if p1 = (108 : Int32) then (nmq (si M 139 11 p2) (fun (M4 : Mem) => bq1 (f_X9_isIn p2 (10 : Int32) (60 : Int32)) (fun (x5 : Int32) => gq (zB x5) (some (x5, M4))))) else if p1 = (111 : Int32) then (nmq (si M 139 17 p2) (fun (M9 : Mem) => some ((1 : Int32), M9))) else if p1 = (116 : Int32) then (nmq (si M 139 15 p2) (fun (M11 : Mem) => (if (40 : Int32) < p2 then some ((0 : Int32), M11) else some ((1 : Int32), M11)))) else (nmq (si M 139 18 p2) (fun (M13 : Mem) => (if (2 : Int32) < p2 then some ((0 : Int32), M13) else some ((1 : Int32), M13)))))
set_option maxHeartbeats 4000000 in
set_option maxRecDepth 100000 in
theorem ct_X9_comesNumber (l : Launch) (G : GG) {p1 : Int32} {p2 : Int32} {M : Mem} {r : Int32} {Mr : Mem}  (hf : f_X9_comesNumber p1 p2 M = some (r, Mr)) : Met l yX9_comesNumber (wsq yX9_comesNumber cX9_comesNumber 3 (some .boolean)) (rmq 1 22) (va_Pc [.ref (G.2.2.1 139), .int p1, .int p2] (World G M)) (Qi G r Mr) 0 0 (adA G) := by
  refine x_start (plainFor_of_name (by decide)) (Nat.le_of_ble_eq_true rfl) ?_
  intro p e s m args below meth c hB hr hlk hW hS ls hl
  have hx := hB.x
  have hb := hB.b
  have hl : lv_has ls 3 [(0, .ref (G.2.2.1 139)), (1, .int p1), (2, .int p2)] := hl
  unfold f_X9_comesNumber at hf
  refine lv_iload_n hx hb dX9_comesNumber_0 rfl (lv_at hl 1 rfl) ?_
  by_cases c1 : p1 = (104 : Int32)
  · have hf := i_t hf c1
    refine lv_lookup (tgt := 75) hx hb dX9_comesNumber_1 (by decide) (by rw [c1] <;> rfl) (by decide) ?_
    refine lv_aload_n hx hb dX9_comesNumber_75 rfl (lv_at hl 0 rfl) ?_
    refine lv_iload_n hx hb dX9_comesNumber_76 rfl (lv_at hl 2 rfl) ?_
    refine fp9_16 hB hW hS tl139 wd5_95 dX9_comesNumber_77 (fun H locs M2 eM2 hW hS => ?_)
    have hf := nm_o hf eM2
    refine lv_iconst (v := (1 : Int32)) hx hb dX9_comesNumber_80 (by decide) ?_
    exact e_z (by decide) hB hW hS hr hlk (s_1 hf) (s_2 hf) dX9_comesNumber_81
  · have hf := i_f hf c1
    by_cases c3 : p1 = (108 : Int32)
    · have hf := i_t hf c3
      refine lv_lookup (tgt := 44) hx hb dX9_comesNumber_1 (by decide) (by rw [c3] <;> rfl) (by decide) ?_
      refine lv_aload_n hx hb dX9_comesNumber_44 rfl (lv_at hl 0 rfl) ?_
      refine lv_iload_n hx hb dX9_comesNumber_45 rfl (lv_at hl 2 rfl) ?_
      refine fp9_11 hB hW hS tl139 wd5_90 dX9_comesNumber_46 (fun H locs M4 eM4 hW hS => ?_)
      have hf := nm_o hf eM4
      refine lv_iload_n hx hb dX9_comesNumber_49 rfl (lv_at hl 2 rfl) ?_
      refine lv_bipush (v := (10 : Int32)) hx hb dX9_comesNumber_50 (by decide) ?_
      refine lv_bipush (v := (60 : Int32)) hx hb dX9_comesNumber_52 (by decide) ?_
      obtain ⟨x5, hg6, hf⟩ := b_o1 hf
      refine x_ci hB (x_rs hB hW hS (As := [.int p2, .int (10 : Int32), .int (60 : Int32)]) (rest := []) (ct_X9_isIn l G hg6) (cl_RX9_125 hB.2.2.2.2.1 ⟨Nat.le_of_ble_eq_true rfl, Nat.le_of_ble_eq_true rfl⟩) rfl hl.1 rfl (Nat.le_of_ble_eq_true rfl) dX9_comesNumber_54 ⟨Nat.le_refl _, Nat.le_refl _⟩) hS (fun H locs hW hS => ?_)
      obtain ⟨h7, hf⟩ := g_o hf
      exact e_z h7 hB hW hS hr hlk (s_1 hf) (s_2 hf) dX9_comesNumber_57
    · have hf := i_f hf c3
      by_cases c8 : p1 = (111 : Int32)
      · have hf := i_t hf c8
        refine lv_lookup (tgt := 82) hx hb dX9_comesNumber_1 (by decide) (by rw [c8] <;> rfl) (by decide) ?_
        refine lv_aload_n hx hb dX9_comesNumber_82 rfl (lv_at hl 0 rfl) ?_
        refine lv_iload_n hx hb dX9_comesNumber_83 rfl (lv_at hl 2 rfl) ?_
        refine fp9_17 hB hW hS tl139 wd5_96 dX9_comesNumber_84 (fun H locs M9 eM9 hW hS => ?_)
        have hf := nm_o hf eM9
        refine lv_iconst (v := (1 : Int32)) hx hb dX9_comesNumber_87 (by decide) ?_
        exact e_z (by decide) hB hW hS hr hlk (s_1 hf) (s_2 hf) dX9_comesNumber_88
      · have hf := i_f hf c8
        by_cases c10 : p1 = (116 : Int32)
        · have hf := i_t hf c10
          refine lv_lookup (tgt := 58) hx hb dX9_comesNumber_1 (by decide) (by rw [c10] <;> rfl) (by decide) ?_
          refine lv_aload_n hx hb dX9_comesNumber_58 rfl (lv_at hl 0 rfl) ?_
          refine lv_iload_n hx hb dX9_comesNumber_59 rfl (lv_at hl 2 rfl) ?_
          refine fp9_15 hB hW hS tl139 wd5_94 dX9_comesNumber_60 (fun H locs M11 eM11 hW hS => ?_)
          have hf := nm_o hf eM11
          refine lv_iload_n hx hb dX9_comesNumber_63 rfl (lv_at hl 2 rfl) ?_
          refine lv_bipush (v := (40 : Int32)) hx hb dX9_comesNumber_64 (by decide) ?_
          refine lv_icmp_gt (tgt := 73) hx hb dX9_comesNumber_66 (by decide) (fun c12 => ?_) (fun c12 => ?_)
          · have hf := i_t hf c12
            refine lv_iconst (v := (0 : Int32)) hx hb dX9_comesNumber_73 (by decide) ?_
            exact e_z (by decide) hB hW hS hr hlk (s_1 hf) (s_2 hf) dX9_comesNumber_74
          · have hf := i_f hf c12
            refine lv_iconst (v := (1 : Int32)) hx hb dX9_comesNumber_69 (by decide) ?_
            refine lv_goto (tgt := 74) hx hb dX9_comesNumber_70 (by decide) ?_
            exact e_z (by decide) hB hW hS hr hlk (s_1 hf) (s_2 hf) dX9_comesNumber_74
        · have hf := i_f hf c10
          refine lv_lookup (tgt := 89) hx hb dX9_comesNumber_1 (by decide) (lk_out (by simp only [List.forall_mem_cons, List.not_mem_nil, false_implies, implies_true, and_true]; exact ⟨sw_ne c1, sw_ne c3, sw_ne c8, sw_ne c10⟩)) (by decide) ?_
          refine lv_aload_n hx hb dX9_comesNumber_89 rfl (lv_at hl 0 rfl) ?_
          refine lv_iload_n hx hb dX9_comesNumber_90 rfl (lv_at hl 2 rfl) ?_
          refine fp9_18 hB hW hS tl139 wd5_97 dX9_comesNumber_91 (fun H locs M13 eM13 hW hS => ?_)
          have hf := nm_o hf eM13
          refine lv_iload_n hx hb dX9_comesNumber_94 rfl (lv_at hl 2 rfl) ?_
          refine lv_iconst (v := (2 : Int32)) hx hb dX9_comesNumber_95 (by decide) ?_
          refine lv_icmp_gt (tgt := 103) hx hb dX9_comesNumber_96 (by decide) (fun c14 => ?_) (fun c14 => ?_)
          · have hf := i_t hf c14
            refine lv_iconst (v := (0 : Int32)) hx hb dX9_comesNumber_103 (by decide) ?_
            exact e_z (by decide) hB hW hS hr hlk (s_1 hf) (s_2 hf) dX9_comesNumber_104
          · have hf := i_f hf c14
            refine lv_iconst (v := (1 : Int32)) hx hb dX9_comesNumber_99 (by decide) ?_
            refine lv_goto (tgt := 104) hx hb dX9_comesNumber_100 (by decide) ?_
            exact e_z (by decide) hB hW hS hr hlk (s_1 hf) (s_2 hf) dX9_comesNumber_104
def f_X9_comesForced (M : Mem) : Option (Int32 × Mem) := (if (gi M 139 9) = 0 then some ((0 : Int32), M) else (gq (inB ((gi M 139 9) - (1 : Int32)) 16) (gq (inB ((gi M 139 9) - (1 : Int32)) 16) (nmq (si M 144 ((((gi M 139 9) - (1 : Int32)) : Int32).toNatClampNeg) ((1 : Int32) - (gi M 144 ((((gi M 139 9) - (1 : Int32)) : Int32).toNatClampNeg)))) (fun (M4 : Mem) => some ((1 : Int32), M4))))))
set_option maxHeartbeats 4000000 in
set_option maxRecDepth 100000 in
theorem ct_X9_comesForced (l : Launch) (G : GG)  {M : Mem} {r : Int32} {Mr : Mem}  (hf : f_X9_comesForced M = some (r, Mr)) : Met l yX9_comesForced (wsq yX9_comesForced cX9_comesForced 1 (some .boolean)) (rmq 0 0) (va_Pc [.ref (G.2.2.1 139)] (World G M)) (Qi G r Mr) 0 0 (adA G) := by
  refine x_start (plainFor_of_name (by decide)) (Nat.le_of_ble_eq_true rfl) ?_
  intro p e s m args below meth c hB hr hlk hW hS ls hl
  have hx := hB.x
  have hb := hB.b
  have hl : lv_has ls 1 [(0, .ref (G.2.2.1 139))] := hl
  unfold f_X9_comesForced at hf
  refine lv_aload_n hx hb dX9_comesForced_0 rfl (lv_at hl 0 rfl) ?_
  refine fg9_9 hB hW tl139 wd5_88 dX9_comesForced_1 ?_
  refine lv_if_ne (tgt := 9) hx hb dX9_comesForced_4 (by decide) (fun c1 => ?_) (fun c1 => ?_)
  · have hf := i_f hf c1
    refine lv_aload_n hx hb dX9_comesForced_9 rfl (lv_at hl 0 rfl) ?_
    refine fg9_4 hB hW tl139 wd5_83 dX9_comesForced_10 ?_
    refine lv_aload_n hx hb dX9_comesForced_13 rfl (lv_at hl 0 rfl) ?_
    refine fg9_9 hB hW tl139 wd5_88 dX9_comesForced_14 ?_
    refine lv_iconst (v := (1 : Int32)) hx hb dX9_comesForced_17 (by decide) ?_
    refine lv_isub hx hb dX9_comesForced_18 ?_
    refine lv_iconst (v := (1 : Int32)) hx hb dX9_comesForced_19 (by decide) ?_
    refine lv_aload_n hx hb dX9_comesForced_20 rfl (lv_at hl 0 rfl) ?_
    refine fg9_4 hB hW tl139 wd5_83 dX9_comesForced_21 ?_
    refine lv_aload_n hx hb dX9_comesForced_24 rfl (lv_at hl 0 rfl) ?_
    refine fg9_9 hB hW tl139 wd5_88 dX9_comesForced_25 ?_
    refine lv_iconst (v := (1 : Int32)) hx hb dX9_comesForced_28 (by decide) ?_
    refine lv_isub hx hb dX9_comesForced_29 ?_
    obtain ⟨h2, hf⟩ := g_o hf
    refine x_iald hB hW tl144 al144 h2 dX9_comesForced_30 ?_
    refine lv_isub hx hb dX9_comesForced_31 ?_
    obtain ⟨h3, hf⟩ := g_o hf
    refine x_i hB hW hS tl144 al144 h3 dX9_comesForced_32 (fun H locs M4 eM4 hW hS => ?_)
    have hf := nm_o hf eM4
    refine lv_iconst (v := (1 : Int32)) hx hb dX9_comesForced_33 (by decide) ?_
    exact e_z (by decide) hB hW hS hr hlk (s_1 hf) (s_2 hf) dX9_comesForced_34
  · have hf := i_t hf c1
    refine lv_iconst (v := (0 : Int32)) hx hb dX9_comesForced_7 (by decide) ?_
    exact e_z (by decide) hB hW hS hr hlk (s_1 hf) (s_2 hf) dX9_comesForced_8
def f_X9_comesKind (p1 : Int32) (p2 : Int32) (M : Mem) : Option (Int32 × Mem) := (nmq (si M 139 19 p1) (fun (M1 : Mem) => nmq (si M1 139 20 p2) (fun (M2 : Mem) => (if (6 : Int32) ≤ p1 then some ((0 : Int32), M2) else some ((1 : Int32), M2)))))
set_option maxHeartbeats 4000000 in
set_option maxRecDepth 100000 in
theorem ct_X9_comesKind (l : Launch) (G : GG) {p1 : Int32} {p2 : Int32} {M : Mem} {r : Int32} {Mr : Mem}  (hf : f_X9_comesKind p1 p2 M = some (r, Mr)) : Met l yX9_comesKind (wsq yX9_comesKind cX9_comesKind 3 (some .boolean)) (rmq 0 0) (va_Pc [.ref (G.2.2.1 139), .int p1, .int p2] (World G M)) (Qi G r Mr) 0 0 (adA G) := by
  refine x_start (plainFor_of_name (by decide)) (Nat.le_of_ble_eq_true rfl) ?_
  intro p e s m args below meth c hB hr hlk hW hS ls hl
  have hx := hB.x
  have hb := hB.b
  have hl : lv_has ls 3 [(0, .ref (G.2.2.1 139)), (1, .int p1), (2, .int p2)] := hl
  unfold f_X9_comesKind at hf
  refine lv_aload_n hx hb dX9_comesKind_0 rfl (lv_at hl 0 rfl) ?_
  refine lv_iload_n hx hb dX9_comesKind_1 rfl (lv_at hl 1 rfl) ?_
  refine fp9_19 hB hW hS tl139 wd5_98 dX9_comesKind_2 (fun H locs M1 eM1 hW hS => ?_)
  have hf := nm_o hf eM1
  refine lv_aload_n hx hb dX9_comesKind_5 rfl (lv_at hl 0 rfl) ?_
  refine lv_iload_n hx hb dX9_comesKind_6 rfl (lv_at hl 2 rfl) ?_
  refine fp9_20 hB hW hS tl139 wd5_99 dX9_comesKind_7 (fun H locs M2 eM2 hW hS => ?_)
  have hf := nm_o hf eM2
  refine lv_iload_n hx hb dX9_comesKind_10 rfl (lv_at hl 1 rfl) ?_
  refine lv_bipush (v := (6 : Int32)) hx hb dX9_comesKind_11 (by decide) ?_
  refine lv_icmp_ge (tgt := 20) hx hb dX9_comesKind_13 (by decide) (fun c3 => ?_) (fun c3 => ?_)
  · have hf := i_t hf c3
    refine lv_iconst (v := (0 : Int32)) hx hb dX9_comesKind_20 (by decide) ?_
    exact e_z (by decide) hB hW hS hr hlk (s_1 hf) (s_2 hf) dX9_comesKind_21
  · have hf := i_f hf c3
    refine lv_iconst (v := (1 : Int32)) hx hb dX9_comesKind_16 (by decide) ?_
    refine lv_goto (tgt := 21) hx hb dX9_comesKind_17 (by decide) ?_
    exact e_z (by decide) hB hW hS hr hlk (s_1 hf) (s_2 hf) dX9_comesKind_21
theorem cl_RX9_259 {R : Room} {s : State} {args : Array Value} (ht : ∀ w ∈ lw_all, w.before args s = true) (hR : 0 + 1 ≤ R.frames ∧ 8 + (3 + 11) + 0 ≤ R.locals) : CallW R s args RX9 RX9 259 yX9_comesWord cX9_comesWord 3 (some .boolean) (wsq yX9_comesWord cX9_comesWord 3 (some .boolean)) (rmq 0 0) 0 0 1 := cwV 1 ht (goodV wd6_56 wd6_58 wsel_46 wd1_10 wd6_59) rfl rfl rfl (by decide +kernel) hR
theorem cl_RX9_262 {R : Room} {s : State} {args : Array Value} (ht : ∀ w ∈ lw_all, w.before args s = true) (hR : 0 + 1 ≤ R.frames ∧ 8 + (1 + 11) + 0 ≤ R.locals) : CallW R s args RX9 RX9 262 yX9_comesForced cX9_comesForced 1 (some .boolean) (wsq yX9_comesForced cX9_comesForced 1 (some .boolean)) (rmq 0 0) 0 0 0 := cwV 0 ht (goodV wd6_60 wd6_62 wsel_47 wd1_10 wd6_63) rfl rfl rfl (by decide +kernel) hR
theorem cl_RX9_266 {R : Room} {s : State} {args : Array Value} (ht : ∀ w ∈ lw_all, w.before args s = true) (hR : 2 + 1 ≤ R.frames ∧ 8 + (6 + 11) + 48 ≤ R.locals) : CallW R s args RX9 RX9 266 yX9_comesPatternTold cX9_comesPatternTold 6 (some .boolean) (wsq yX9_comesPatternTold cX9_comesPatternTold 6 (some .boolean)) (rmq 2 48) 0 0 3 := cwV 3 ht (goodV wd6_64 wd6_66 wsel_48 wd1_10 wd6_67) rfl rfl rfl (by decide +kernel) hR
theorem cl_RX9_269 {R : Room} {s : State} {args : Array Value} (ht : ∀ w ∈ lw_all, w.before args s = true) (hR : 0 + 1 ≤ R.frames ∧ 8 + (4 + 11) + 0 ≤ R.locals) : CallW R s args RX9 RX9 269 yX9_comesGlue cX9_comesGlue 4 (some .boolean) (wsq yX9_comesGlue cX9_comesGlue 4 (some .boolean)) (rmq 0 0) 0 0 3 := cwV 3 ht (goodV wd6_80 wd6_82 wsel_52 wd1_10 wd6_83) rfl rfl rfl (by decide +kernel) hR
theorem cl_RX9_272 {R : Room} {s : State} {args : Array Value} (ht : ∀ w ∈ lw_all, w.before args s = true) (hR : 0 + 1 ≤ R.frames ∧ 8 + (3 + 11) + 0 ≤ R.locals) : CallW R s args RX9 RX9 272 yX9_comesKind cX9_comesKind 3 (some .boolean) (wsq yX9_comesKind cX9_comesKind 3 (some .boolean)) (rmq 0 0) 0 0 2 := cwV 2 ht (goodV wd6_84 wd6_86 wsel_53 wd1_10 wd6_87) rfl rfl rfl (by decide +kernel) hR
theorem cl_RX9_275 {R : Room} {s : State} {args : Array Value} (ht : ∀ w ∈ lw_all, w.before args s = true) (hR : 1 + 1 ≤ R.frames ∧ 8 + (3 + 11) + 22 ≤ R.locals) : CallW R s args RX9 RX9 275 yX9_comesNumber cX9_comesNumber 3 (some .boolean) (wsq yX9_comesNumber cX9_comesNumber 3 (some .boolean)) (rmq 1 22) 0 0 2 := cwV 2 ht (goodV wd6_88 wd6_90 wsel_54 wd1_10 wd6_91) rfl rfl rfl (by decide +kernel) hR
def f_X9_comesTold (p1 : Int32) (M : Mem) : Option (Int32 × Mem) := (nmq (((3 : Int32) * p1)) (fun (x1 : Int32) => gq (inB p1 49) (nmq ((gi M 157 ((p1 : Int32).toNatClampNeg))) (fun (x3 : Int32) => (if x3 = (103 : Int32) then (gq (inB x1 147) (gq (inB (x1 + (1 : Int32)) 147) (gq (inB (x1 + (2 : Int32)) 147) (bq2 (f_X9_comesGlue (gi M 159 ((x1 : Int32).toNatClampNeg)) (gi M 159 (((x1 + (1 : Int32)) : Int32).toNatClampNeg)) (gi M 159 (((x1 + (2 : Int32)) : Int32).toNatClampNeg)) M) (fun (x8 : Int32) (M9 : Mem) => gq (zB x8) (some (x8, M9))))))) else if x3 = (107 : Int32) then (gq (inB x1 147) (gq (inB (x1 + (1 : Int32)) 147) (bq2 (f_X9_comesKind (gi M 159 ((x1 : Int32).toNatClampNeg)) (gi M 159 (((x1 + (1 : Int32)) : Int32).toNatClampNeg)) M) (fun (x15 : Int32) (M16 : Mem) => gq (zB x15) (some (x15, M16)))))) else if x3 = (110 : Int32) then (bq2 (f_X9_comesForced M) (fun (x20 : Int32) (M21 : Mem) => gq (zB x20) (some (x20, M21)))) else if x3 = (112 : Int32) then (gq (inB x1 147) (gq (inB (x1 + (1 : Int32)) 147) (bq2 (f_X9_comesPatternTold p1 (gi M 159 ((x1 : Int32).toNatClampNeg)) (gi M 159 (((x1 + (1 : Int32)) : Int32).toNatClampNeg)) M) (fun (x27 : Int32) (M28 : Mem) => gq (zB x27) (some (x27, M28)))))) else if x3 = (119 : Int32) then (bq2 (f_X9_comesWord p1 M) (fun (x32 : Int32) (M33 : Mem) => gq (zB x32) (some (x32, M33)))) else (gq (inB p1 49) (gq (inB x1 147) (bq2 (f_X9_comesNumber (gi M 157 ((p1 : Int32).toNatClampNeg)) (gi M 159 ((x1 : Int32).toNatClampNeg)) M) (fun (x38 : Int32) (M39 : Mem) => gq (zB x38) (some (x38, M39)))))))))))
set_option maxHeartbeats 4000000 in
set_option maxRecDepth 100000 in
theorem ct_X9_comesTold (l : Launch) (G : GG) {p1 : Int32} {M : Mem} {r : Int32} {Mr : Mem}  (hf : f_X9_comesTold p1 M = some (r, Mr)) : Met l yX9_comesTold (wsq yX9_comesTold cX9_comesTold 3 (some .boolean)) (rmq 3 73) (va_Pc [.ref (G.2.2.1 139), .int p1] (World G M)) (Qi G r Mr) 0 0 (adA G) := by
  refine x_start (plainFor_of_name (by decide)) (Nat.le_of_ble_eq_true rfl) ?_
  intro p e s m args below meth c hB hr hlk hW hS ls hl
  have hx := hB.x
  have hb := hB.b
  have hl : lv_has ls 3 [(0, .ref (G.2.2.1 139)), (1, .int p1)] := hl
  unfold f_X9_comesTold at hf
  refine lv_iconst (v := (3 : Int32)) hx hb dX9_comesTold_0 (by decide) ?_
  refine lv_iload_n hx hb dX9_comesTold_1 rfl (lv_at hl 1 rfl) ?_
  refine lv_imul hx hb dX9_comesTold_2 ?_
  refine lv_topi (fun x1 ex1 => ?_)
  have hf := nm_o hf ex1
  refine lv_istore_n (lv' := [(2, .int x1), (0, .ref (G.2.2.1 139)), (1, .int p1)]) hx hb dX9_comesTold_3 rfl hl (by decide) rfl (fun ls hl => ?_)
  refine lv_aload_n hx hb dX9_comesTold_4 rfl (lv_at hl 1 rfl) ?_
  refine fg9_31 hB hW tl139 wd5_110 dX9_comesTold_5 ?_
  refine lv_iload_n hx hb dX9_comesTold_8 rfl (lv_at hl 2 rfl) ?_
  obtain ⟨h2, hf⟩ := g_o hf
  refine x_iald hB hW tl157 al157 h2 dX9_comesTold_9 ?_
  refine lv_topi (fun x3 ex3 => ?_)
  have hf := nm_o hf ex3
  by_cases c4 : x3 = (103 : Int32)
  · have hf := i_t hf c4
    refine lv_lookup (tgt := 91) hx hb dX9_comesTold_10 (by decide) (by rw [c4] <;> rfl) (by decide) ?_
    refine lv_aload_n hx hb dX9_comesTold_91 rfl (lv_at hl 1 rfl) ?_
    refine lv_aload_n hx hb dX9_comesTold_92 rfl (lv_at hl 1 rfl) ?_
    refine fg9_33 hB hW tl139 wd5_112 dX9_comesTold_93 ?_
    refine lv_iload_n hx hb dX9_comesTold_96 rfl (lv_at hl 0 rfl) ?_
    obtain ⟨h5, hf⟩ := g_o hf
    refine x_iald hB hW tl159 al159 h5 dX9_comesTold_97 ?_
    refine lv_aload_n hx hb dX9_comesTold_98 rfl (lv_at hl 1 rfl) ?_
    refine fg9_33 hB hW tl139 wd5_112 dX9_comesTold_99 ?_
    refine lv_iload_n hx hb dX9_comesTold_102 rfl (lv_at hl 0 rfl) ?_
    refine lv_iconst (v := (1 : Int32)) hx hb dX9_comesTold_103 (by decide) ?_
    refine lv_iadd hx hb dX9_comesTold_104 ?_
    obtain ⟨h6, hf⟩ := g_o hf
    refine x_iald hB hW tl159 al159 h6 dX9_comesTold_105 ?_
    refine lv_aload_n hx hb dX9_comesTold_106 rfl (lv_at hl 1 rfl) ?_
    refine fg9_33 hB hW tl139 wd5_112 dX9_comesTold_107 ?_
    refine lv_iload_n hx hb dX9_comesTold_110 rfl (lv_at hl 0 rfl) ?_
    refine lv_iconst (v := (2 : Int32)) hx hb dX9_comesTold_111 (by decide) ?_
    refine lv_iadd hx hb dX9_comesTold_112 ?_
    obtain ⟨h7, hf⟩ := g_o hf
    refine x_iald hB hW tl159 al159 h7 dX9_comesTold_113 ?_
    obtain ⟨x8, M9, hg10, hf⟩ := b_o2 hf
    refine x_ci hB (x_rv hB hW hS (As := [.int (gi M 159 ((x1 : Int32).toNatClampNeg)), .int (gi M 159 (((x1 + (1 : Int32)) : Int32).toNatClampNeg)), .int (gi M 159 (((x1 + (2 : Int32)) : Int32).toNatClampNeg))]) (rest := []) (ct_X9_comesGlue l G hg10) (cl_RX9_269 hB.2.2.2.2.1 ⟨Nat.le_of_ble_eq_true rfl, Nat.le_of_ble_eq_true rfl⟩) tl139 (by decide) rfl rfl hl.1 rfl (Nat.le_of_ble_eq_true rfl) dX9_comesTold_114 ⟨Nat.le_refl _, Nat.le_refl _⟩) hS (fun H locs hW hS => ?_)
    obtain ⟨h11, hf⟩ := g_o hf
    exact e_z h11 hB hW hS hr hlk (s_1 hf) (s_2 hf) dX9_comesTold_117
  · have hf := i_f hf c4
    by_cases c12 : x3 = (107 : Int32)
    · have hf := i_t hf c12
      refine lv_lookup (tgt := 118) hx hb dX9_comesTold_10 (by decide) (by rw [c12] <;> rfl) (by decide) ?_
      refine lv_aload_n hx hb dX9_comesTold_118 rfl (lv_at hl 1 rfl) ?_
      refine lv_aload_n hx hb dX9_comesTold_119 rfl (lv_at hl 1 rfl) ?_
      refine fg9_33 hB hW tl139 wd5_112 dX9_comesTold_120 ?_
      refine lv_iload_n hx hb dX9_comesTold_123 rfl (lv_at hl 0 rfl) ?_
      obtain ⟨h13, hf⟩ := g_o hf
      refine x_iald hB hW tl159 al159 h13 dX9_comesTold_124 ?_
      refine lv_aload_n hx hb dX9_comesTold_125 rfl (lv_at hl 1 rfl) ?_
      refine fg9_33 hB hW tl139 wd5_112 dX9_comesTold_126 ?_
      refine lv_iload_n hx hb dX9_comesTold_129 rfl (lv_at hl 0 rfl) ?_
      refine lv_iconst (v := (1 : Int32)) hx hb dX9_comesTold_130 (by decide) ?_
      refine lv_iadd hx hb dX9_comesTold_131 ?_
      obtain ⟨h14, hf⟩ := g_o hf
      refine x_iald hB hW tl159 al159 h14 dX9_comesTold_132 ?_
      obtain ⟨x15, M16, hg17, hf⟩ := b_o2 hf
      refine x_ci hB (x_rv hB hW hS (As := [.int (gi M 159 ((x1 : Int32).toNatClampNeg)), .int (gi M 159 (((x1 + (1 : Int32)) : Int32).toNatClampNeg))]) (rest := []) (ct_X9_comesKind l G hg17) (cl_RX9_272 hB.2.2.2.2.1 ⟨Nat.le_of_ble_eq_true rfl, Nat.le_of_ble_eq_true rfl⟩) tl139 (by decide) rfl rfl hl.1 rfl (Nat.le_of_ble_eq_true rfl) dX9_comesTold_133 ⟨Nat.le_refl _, Nat.le_refl _⟩) hS (fun H locs hW hS => ?_)
      obtain ⟨h18, hf⟩ := g_o hf
      exact e_z h18 hB hW hS hr hlk (s_1 hf) (s_2 hf) dX9_comesTold_136
    · have hf := i_f hf c12
      by_cases c19 : x3 = (110 : Int32)
      · have hf := i_t hf c19
        refine lv_lookup (tgt := 66) hx hb dX9_comesTold_10 (by decide) (by rw [c19] <;> rfl) (by decide) ?_
        refine lv_aload_n hx hb dX9_comesTold_66 rfl (lv_at hl 1 rfl) ?_
        obtain ⟨x20, M21, hg22, hf⟩ := b_o2 hf
        refine x_ci hB (x_rv hB hW hS (As := []) (rest := []) (ct_X9_comesForced l G hg22) (cl_RX9_262 hB.2.2.2.2.1 ⟨Nat.le_of_ble_eq_true rfl, Nat.le_of_ble_eq_true rfl⟩) tl139 (by decide) rfl rfl hl.1 rfl (Nat.le_of_ble_eq_true rfl) dX9_comesTold_67 ⟨Nat.le_refl _, Nat.le_refl _⟩) hS (fun H locs hW hS => ?_)
        obtain ⟨h23, hf⟩ := g_o hf
        exact e_z h23 hB hW hS hr hlk (s_1 hf) (s_2 hf) dX9_comesTold_70
      · have hf := i_f hf c19
        by_cases c24 : x3 = (112 : Int32)
        · have hf := i_t hf c24
          refine lv_lookup (tgt := 71) hx hb dX9_comesTold_10 (by decide) (by rw [c24] <;> rfl) (by decide) ?_
          refine lv_aload_n hx hb dX9_comesTold_71 rfl (lv_at hl 1 rfl) ?_
          refine lv_iload_n hx hb dX9_comesTold_72 rfl (lv_at hl 2 rfl) ?_
          refine lv_aload_n hx hb dX9_comesTold_73 rfl (lv_at hl 1 rfl) ?_
          refine fg9_33 hB hW tl139 wd5_112 dX9_comesTold_74 ?_
          refine lv_iload_n hx hb dX9_comesTold_77 rfl (lv_at hl 0 rfl) ?_
          obtain ⟨h25, hf⟩ := g_o hf
          refine x_iald hB hW tl159 al159 h25 dX9_comesTold_78 ?_
          refine lv_aload_n hx hb dX9_comesTold_79 rfl (lv_at hl 1 rfl) ?_
          refine fg9_33 hB hW tl139 wd5_112 dX9_comesTold_80 ?_
          refine lv_iload_n hx hb dX9_comesTold_83 rfl (lv_at hl 0 rfl) ?_
          refine lv_iconst (v := (1 : Int32)) hx hb dX9_comesTold_84 (by decide) ?_
          refine lv_iadd hx hb dX9_comesTold_85 ?_
          obtain ⟨h26, hf⟩ := g_o hf
          refine x_iald hB hW tl159 al159 h26 dX9_comesTold_86 ?_
          obtain ⟨x27, M28, hg29, hf⟩ := b_o2 hf
          refine x_ci hB (x_rv hB hW hS (As := [.int p1, .int (gi M 159 ((x1 : Int32).toNatClampNeg)), .int (gi M 159 (((x1 + (1 : Int32)) : Int32).toNatClampNeg))]) (rest := []) (ct_X9_comesPatternTold l G hg29) (cl_RX9_266 hB.2.2.2.2.1 ⟨Nat.le_of_ble_eq_true rfl, Nat.le_of_ble_eq_true rfl⟩) tl139 (by decide) rfl rfl hl.1 rfl (Nat.le_of_ble_eq_true rfl) dX9_comesTold_87 ⟨Nat.le_refl _, Nat.le_refl _⟩) hS (fun H locs hW hS => ?_)
          obtain ⟨h30, hf⟩ := g_o hf
          exact e_z h30 hB hW hS hr hlk (s_1 hf) (s_2 hf) dX9_comesTold_90
        · have hf := i_f hf c24
          by_cases c31 : x3 = (119 : Int32)
          · have hf := i_t hf c31
            refine lv_lookup (tgt := 60) hx hb dX9_comesTold_10 (by decide) (by rw [c31] <;> rfl) (by decide) ?_
            refine lv_aload_n hx hb dX9_comesTold_60 rfl (lv_at hl 1 rfl) ?_
            refine lv_iload_n hx hb dX9_comesTold_61 rfl (lv_at hl 2 rfl) ?_
            obtain ⟨x32, M33, hg34, hf⟩ := b_o2 hf
            refine x_ci hB (x_rv hB hW hS (As := [.int p1]) (rest := []) (ct_X9_comesWord l G hg34) (cl_RX9_259 hB.2.2.2.2.1 ⟨Nat.le_of_ble_eq_true rfl, Nat.le_of_ble_eq_true rfl⟩) tl139 (by decide) rfl rfl hl.1 rfl (Nat.le_of_ble_eq_true rfl) dX9_comesTold_62 ⟨Nat.le_refl _, Nat.le_refl _⟩) hS (fun H locs hW hS => ?_)
            obtain ⟨h35, hf⟩ := g_o hf
            exact e_z h35 hB hW hS hr hlk (s_1 hf) (s_2 hf) dX9_comesTold_65
          · have hf := i_f hf c31
            refine lv_lookup (tgt := 137) hx hb dX9_comesTold_10 (by decide) (lk_out (by simp only [List.forall_mem_cons, List.not_mem_nil, false_implies, implies_true, and_true]; exact ⟨sw_ne c4, sw_ne c12, sw_ne c19, sw_ne c24, sw_ne c31⟩)) (by decide) ?_
            refine lv_aload_n hx hb dX9_comesTold_137 rfl (lv_at hl 1 rfl) ?_
            refine lv_aload_n hx hb dX9_comesTold_138 rfl (lv_at hl 1 rfl) ?_
            refine fg9_31 hB hW tl139 wd5_110 dX9_comesTold_139 ?_
            refine lv_iload_n hx hb dX9_comesTold_142 rfl (lv_at hl 2 rfl) ?_
            obtain ⟨h36, hf⟩ := g_o hf
            refine x_iald hB hW tl157 al157 h36 dX9_comesTold_143 ?_
            refine lv_aload_n hx hb dX9_comesTold_144 rfl (lv_at hl 1 rfl) ?_
            refine fg9_33 hB hW tl139 wd5_112 dX9_comesTold_145 ?_
            refine lv_iload_n hx hb dX9_comesTold_148 rfl (lv_at hl 0 rfl) ?_
            obtain ⟨h37, hf⟩ := g_o hf
            refine x_iald hB hW tl159 al159 h37 dX9_comesTold_149 ?_
            obtain ⟨x38, M39, hg40, hf⟩ := b_o2 hf
            refine x_ci hB (x_rv hB hW hS (As := [.int (gi M 157 ((p1 : Int32).toNatClampNeg)), .int (gi M 159 ((x1 : Int32).toNatClampNeg))]) (rest := []) (ct_X9_comesNumber l G hg40) (cl_RX9_275 hB.2.2.2.2.1 ⟨Nat.le_of_ble_eq_true rfl, Nat.le_of_ble_eq_true rfl⟩) tl139 (by decide) rfl rfl hl.1 rfl (Nat.le_of_ble_eq_true rfl) dX9_comesTold_150 ⟨Nat.le_refl _, Nat.le_refl _⟩) hS (fun H locs hW hS => ?_)
            obtain ⟨h41, hf⟩ := g_o hf
            exact e_z h41 hB hW hS hr hlk (s_1 hf) (s_2 hf) dX9_comesTold_153
def f_X9_passes_L2 (k1 : Nat) (K3 : Int32 → Mem → Option (Mem)) (x1 : Int32) (M2 : Mem) : Option (Mem) := (if (Int32.ofNat (alen k1)) ≤ x1 then (some (M2)) else (bq1 ((if (gi M2 139 43) = 0 then (gq (inB (gi M2 139 44) 3250) (gq (inB x1 (alen k1)) (nmq (si M2 k1 ((x1 : Int32).toNatClampNeg) (gi M2 163 (((gi M2 139 44) : Int32).toNatClampNeg))) (fun (M17 : Mem) => (some (M17)))))) else (gq (inB x1 (alen k1)) (gq (inB (gi M2 139 44) 3250) (nmq (si M2 163 (((gi M2 139 44) : Int32).toNatClampNeg) (gi M2 k1 ((x1 : Int32).toNatClampNeg))) (fun (M20 : Mem) => (some (M20))))))) : Option (Mem)) (fun (M9 : Mem) => (nmq (si M9 139 44 ((gi M9 139 44) + (1 : Int32))) (fun (M11 : Mem) => nmq (x1 + (1 : Int32)) (fun (x12 : Int32) => (K3 x12 M11)))))))
def f_X9_passes (k1 : Nat) (M : Mem) : Option Mem := (bq1 (lq2 (f_X9_passes_L2 k1) FU (0 : Int32) M) (fun (M5 : Mem) => some M5))
set_option maxHeartbeats 4000000 in
set_option maxRecDepth 100000 in
theorem ct_X9_passes (l : Launch) (G : GG) {k1 : Nat} {M : Mem} {Mr : Mem} (hk1 : isT 10 k1) (hf : f_X9_passes k1 M = some Mr) : Met l yX9_passes (wsq yX9_passes cX9_passes 3 none) (rmq 0 0) (va_Pc [.ref (G.2.2.1 139), .ref (G.2.2.1 k1)] (World G M)) (Qv G Mr) 0 0 (adA G) := by
  refine x_start (plainFor_of_name (by decide)) (Nat.le_of_ble_eq_true rfl) ?_
  intro p e s m args below meth c hB hr hlk hW hS ls hl
  have hx := hB.x
  have hb := hB.b
  have hl : lv_has ls 3 [(0, .ref (G.2.2.1 139)), (1, .ref (G.2.2.1 k1))] := hl
  unfold f_X9_passes at hf
  refine lv_iconst (v := (0 : Int32)) hx hb dX9_passes_0 (by decide) ?_
  refine lv_istore_n (lv' := [(2, .int (0 : Int32)), (0, .ref (G.2.2.1 139)), (1, .ref (G.2.2.1 k1))]) hx hb dX9_passes_1 rfl hl (by decide) rfl (fun ls hl => ?_)
  obtain ⟨M6, hL, hf⟩ := b_o1 hf
  have main7 : ∀ (M5 : Mem) (H : Heap) (locs : List Loc) (ls : Array Slot), Wd G M5 H → va_S (adA G) s.heap H locs → lv_has ls 3 [] → some (M5) = some (M6) → W p l e (rmq 0 0) s m args below meth c H locs 0 0 (MQ below (Qv G Mr) args s 0 0 (adA G)) (F0 m 58 ls []) := by
    intro M5 H locs ls hW hS hl hE
    cases hE
    exact e_v hB hW hS hr hlk (Option.some.inj hf) dX9_passes_58
  have loop4 : ∀ (n : Nat) (x1 : Int32) (M2 : Mem) (H : Heap) (locs : List Loc) (ls : Array Slot), Wd G M2 H → va_S (adA G) s.heap H locs → lv_has ls 3 [(0, .ref (G.2.2.1 139)), (1, .ref (G.2.2.1 k1)), (2, .int x1)] → lq2 (f_X9_passes_L2 k1) n x1 M2 = some (M6) → W p l e (rmq 0 0) s m args below meth c H locs 0 0 (MQ below (Qv G Mr) args s 0 0 (adA G)) (F0 m 2 ls []) := by
    intro n
    induction n with
    | zero => intro x1 M2 H locs ls hW hS hl hf; exact (l_z2 hf).elim
    | succ n ih =>
      intro x1 M2 H locs ls hW hS hl hf
      have hf := l_s2 hf
      generalize lq2 (f_X9_passes_L2 k1) n = K3 at ih hf
      unfold f_X9_passes_L2 at hf
      refine lv_iload_n hx hb dX9_passes_2 rfl (lv_at hl 2 rfl) ?_
      refine lv_aload_n hx hb dX9_passes_3 rfl (lv_at hl 1 rfl) ?_
      refine x_alen hB hW hk1 (by decide) rfl (v := (Int32.ofNat (alen k1))) rfl dX9_passes_4 ?_
      refine lv_icmp_ge (tgt := 58) hx hb dX9_passes_5 (by decide) (fun c8 => ?_) (fun c8 => ?_)
      · have hf := i_t hf c8
        exact main7 M2 _ _ ls hW hS (lv_sub hl [] rfl) hf
      · have hf := i_f hf c8
        refine lv_aload_n hx hb dX9_passes_8 rfl (lv_at hl 0 rfl) ?_
        refine fg9_43 hB hW tl139 wd5_122 dX9_passes_9 ?_
        obtain ⟨M13, hR, hf⟩ := b_o1 hf
        have main10 : ∀ (M9 : Mem) (H : Heap) (locs : List Loc) (ls : Array Slot), Wd G M9 H → va_S (adA G) s.heap H locs → lv_has ls 3 [(0, .ref (G.2.2.1 139)), (1, .ref (G.2.2.1 k1)), (2, .int x1)] → some (M9) = some (M13) → W p l e (rmq 0 0) s m args below meth c H locs 0 0 (MQ below (Qv G Mr) args s 0 0 (adA G)) (F0 m 42 ls []) := by
          intro M9 H locs ls hW hS hl hE
          cases hE
          refine lv_aload_n hx hb dX9_passes_42 rfl (lv_at hl 0 rfl) ?_
          refine lv_dup hx hb dX9_passes_43 rfl ?_
          refine fg9_44 hB hW tl139 wd5_123 dX9_passes_44 ?_
          refine lv_iconst (v := (1 : Int32)) hx hb dX9_passes_47 (by decide) ?_
          refine lv_iadd hx hb dX9_passes_48 ?_
          refine fp9_44 hB hW hS tl139 wd5_123 dX9_passes_49 (fun H locs M11 eM11 hW hS => ?_)
          have hf := nm_o hf eM11
          obtain ⟨x12, ex12⟩ : ∃ y : Int32, y = x1 + (1 : Int32) := ⟨_, rfl⟩
          have hf := nm_o hf ex12
          refine lv_iinc (v := x12) (lv' := [(2, .int x12), (0, .ref (G.2.2.1 139)), (1, .ref (G.2.2.1 k1))]) hx hb dX9_passes_52 hl (k := 2) rfl (by rw [ex12]; rfl) (by decide) rfl (fun ls hl => ?_)
          refine lv_goto (tgt := 2) hx hb dX9_passes_55 (by decide) ?_
          exact ih x12 M11 _ _ ls hW hS (lv_sub hl [1, 2, 0] rfl) hf
        have hf := hR
        refine lv_if_eq (tgt := 30) hx hb dX9_passes_12 (by decide) (fun c14 => ?_) (fun c14 => ?_)
        · have hf := i_t hf c14
          refine lv_aload_n hx hb dX9_passes_30 rfl (lv_at hl 1 rfl) ?_
          refine lv_iload_n hx hb dX9_passes_31 rfl (lv_at hl 2 rfl) ?_
          refine lv_aload_n hx hb dX9_passes_32 rfl (lv_at hl 0 rfl) ?_
          refine fg9_41 hB hW tl139 wd5_120 dX9_passes_33 ?_
          refine lv_aload_n hx hb dX9_passes_36 rfl (lv_at hl 0 rfl) ?_
          refine fg9_44 hB hW tl139 wd5_123 dX9_passes_37 ?_
          obtain ⟨h15, hf⟩ := g_o hf
          refine x_iald hB hW tl163 al163 h15 dX9_passes_40 ?_
          obtain ⟨h16, hf⟩ := g_o hf
          refine x_i hB hW hS hk1 rfl h16 dX9_passes_41 (fun H locs M17 eM17 hW hS => ?_)
          have hf := nm_o hf eM17
          exact main10 M17 _ _ ls hW hS (lv_sub hl [0, 1, 2] rfl) hf
        · have hf := i_f hf c14
          refine lv_aload_n hx hb dX9_passes_15 rfl (lv_at hl 0 rfl) ?_
          refine fg9_41 hB hW tl139 wd5_120 dX9_passes_16 ?_
          refine lv_aload_n hx hb dX9_passes_19 rfl (lv_at hl 0 rfl) ?_
          refine fg9_44 hB hW tl139 wd5_123 dX9_passes_20 ?_
          refine lv_aload_n hx hb dX9_passes_23 rfl (lv_at hl 1 rfl) ?_
          refine lv_iload_n hx hb dX9_passes_24 rfl (lv_at hl 2 rfl) ?_
          obtain ⟨h18, hf⟩ := g_o hf
          refine x_iald hB hW hk1 rfl h18 dX9_passes_25 ?_
          obtain ⟨h19, hf⟩ := g_o hf
          refine x_i hB hW hS tl163 al163 h19 dX9_passes_26 (fun H locs M20 eM20 hW hS => ?_)
          have hf := nm_o hf eM20
          refine lv_goto (tgt := 42) hx hb dX9_passes_27 (by decide) ?_
          exact main10 M20 _ _ ls hW hS (lv_sub hl [0, 1, 2] rfl) hf
  exact loop4 FU (0 : Int32) M _ _ ls hW hS (lv_sub hl [1, 2, 0] rfl) hL
def f_X9_passOne (p1 : Int32) (M : Mem) : Option (Int32 × Mem) := (bq1 ((if (gi M 139 43) = 0 then (gq (inB (gi M 139 44) 3250) ((some ((gi M 163 (((gi M 139 44) : Int32).toNatClampNeg)))))) else (some (p1))) : Option (Int32)) (fun (x1 : Int32) => (bq1 ((if (gi M 139 43) = 0 then (some (M)) else (gq (inB (gi M 139 44) 3250) (nmq (si M 163 (((gi M 139 44) : Int32).toNatClampNeg) p1) (fun (M9 : Mem) => (some (M9)))))) : Option (Mem)) (fun (M3 : Mem) => (nmq (si M3 139 44 ((gi M3 139 44) + (1 : Int32))) (fun (M5 : Mem) => some (x1, M5)))))))
set_option maxHeartbeats 4000000 in
set_option maxRecDepth 100000 in
theorem ct_X9_passOne (l : Launch) (G : GG) {p1 : Int32} {M : Mem} {r : Int32} {Mr : Mem}  (hf : f_X9_passOne p1 M = some (r, Mr)) : Met l yX9_passOne (wsq yX9_passOne cX9_passOne 3 (some .int)) (rmq 0 0) (va_Pc [.ref (G.2.2.1 139), .int p1] (World G M)) (Qi G r Mr) 0 0 (adA G) := by
  refine x_start (plainFor_of_name (by decide)) (Nat.le_of_ble_eq_true rfl) ?_
  intro p e s m args below meth c hB hr hlk hW hS ls hl
  have hx := hB.x
  have hb := hB.b
  have hl : lv_has ls 3 [(0, .ref (G.2.2.1 139)), (1, .int p1)] := hl
  unfold f_X9_passOne at hf
  refine lv_aload_n hx hb dX9_passOne_0 rfl (lv_at hl 0 rfl) ?_
  refine fg9_43 hB hW tl139 wd5_122 dX9_passOne_1 ?_
  obtain ⟨y10, hR, hf⟩ := b_o1 hf
  have main2 : ∀ (x1 : Int32) (H : Heap) (locs : List Loc) (ls : Array Slot), Wd G M H → va_S (adA G) s.heap H locs → lv_has ls 3 [(0, .ref (G.2.2.1 139)), (1, .int p1)] → some (x1) = some (y10) → W p l e (rmq 0 0) s m args below meth c H locs 0 0 (MQ below (Qi G r Mr) args s 0 0 (adA G)) (F0 m 20 ls [.int x1]) := by
    intro x1 H locs ls hW hS hl hE
    cases hE
    refine lv_istore_n (lv' := [(2, .int y10), (0, .ref (G.2.2.1 139)), (1, .int p1)]) hx hb dX9_passOne_20 rfl hl (by decide) rfl (fun ls hl => ?_)
    refine lv_aload_n hx hb dX9_passOne_21 rfl (lv_at hl 1 rfl) ?_
    refine fg9_43 hB hW tl139 wd5_122 dX9_passOne_22 ?_
    obtain ⟨M6, hR, hf⟩ := b_o1 hf
    have main4 : ∀ (M3 : Mem) (H : Heap) (locs : List Loc) (ls : Array Slot), Wd G M3 H → va_S (adA G) s.heap H locs → lv_has ls 3 [(0, .ref (G.2.2.1 139)), (2, .int y10)] → some (M3) = some (M6) → W p l e (rmq 0 0) s m args below meth c H locs 0 0 (MQ below (Qi G r Mr) args s 0 0 (adA G)) (F0 m 38 ls []) := by
      intro M3 H locs ls hW hS hl hE
      cases hE
      refine lv_aload_n hx hb dX9_passOne_38 rfl (lv_at hl 0 rfl) ?_
      refine lv_dup hx hb dX9_passOne_39 rfl ?_
      refine fg9_44 hB hW tl139 wd5_123 dX9_passOne_40 ?_
      refine lv_iconst (v := (1 : Int32)) hx hb dX9_passOne_43 (by decide) ?_
      refine lv_iadd hx hb dX9_passOne_44 ?_
      refine fp9_44 hB hW hS tl139 wd5_123 dX9_passOne_45 (fun H locs M5 eM5 hW hS => ?_)
      have hf := nm_o hf eM5
      refine lv_iload_n hx hb dX9_passOne_48 rfl (lv_at hl 1 rfl) ?_
      exact e_i hB hW hS hr hlk (s_1 hf) (s_2 hf) dX9_passOne_49
    have hf := hR
    refine lv_if_eq (tgt := 38) hx hb dX9_passOne_25 (by decide) (fun c7 => ?_) (fun c7 => ?_)
    · have hf := i_t hf c7
      exact main4 M _ _ ls hW hS (lv_sub hl [1, 0] rfl) hf
    · have hf := i_f hf c7
      refine lv_aload_n hx hb dX9_passOne_28 rfl (lv_at hl 1 rfl) ?_
      refine fg9_41 hB hW tl139 wd5_120 dX9_passOne_29 ?_
      refine lv_aload_n hx hb dX9_passOne_32 rfl (lv_at hl 1 rfl) ?_
      refine fg9_44 hB hW tl139 wd5_123 dX9_passOne_33 ?_
      refine lv_iload_n hx hb dX9_passOne_36 rfl (lv_at hl 2 rfl) ?_
      obtain ⟨h8, hf⟩ := g_o hf
      refine x_i hB hW hS tl163 al163 h8 dX9_passOne_37 (fun H locs M9 eM9 hW hS => ?_)
      have hf := nm_o hf eM9
      exact main4 M9 _ _ ls hW hS (lv_sub hl [1, 0] rfl) hf
  have hf := hR
  refine lv_if_eq (tgt := 11) hx hb dX9_passOne_4 (by decide) (fun c11 => ?_) (fun c11 => ?_)
  · have hf := i_t hf c11
    refine lv_aload_n hx hb dX9_passOne_11 rfl (lv_at hl 0 rfl) ?_
    refine fg9_41 hB hW tl139 wd5_120 dX9_passOne_12 ?_
    refine lv_aload_n hx hb dX9_passOne_15 rfl (lv_at hl 0 rfl) ?_
    refine fg9_44 hB hW tl139 wd5_123 dX9_passOne_16 ?_
    obtain ⟨h12, hf⟩ := g_o hf
    refine x_iald hB hW tl163 al163 h12 dX9_passOne_19 ?_
    exact main2 (gi M 163 (((gi M 139 44) : Int32).toNatClampNeg)) _ _ ls hW hS (lv_sub hl [0, 1] rfl) hf
  · have hf := i_f hf c11
    refine lv_iload_n hx hb dX9_passOne_7 rfl (lv_at hl 1 rfl) ?_
    refine lv_goto (tgt := 20) hx hb dX9_passOne_8 (by decide) ?_
    exact main2 p1 _ _ ls hW hS (lv_sub hl [0, 1] rfl) hf
theorem cl_RX9_298 {R : Room} {s : State} {args : Array Value} (ht : ∀ w ∈ lw_all, w.before args s = true) (hR : 0 + 1 ≤ R.frames ∧ 8 + (3 + 11) + 0 ≤ R.locals) : CallW R s args RX9 RX9 298 yX9_passes cX9_passes 3 none (wsq yX9_passes cX9_passes 3 none) (rmq 0 0) 0 0 1 := cwV 1 ht (goodV wd6_44 wd6_46 wsel_43 wd1_10 wd6_47) rfl rfl rfl (by decide +kernel) hR
theorem cl_RX9_302 {R : Room} {s : State} {args : Array Value} (ht : ∀ w ∈ lw_all, w.before args s = true) (hR : 0 + 1 ≤ R.frames ∧ 8 + (3 + 11) + 0 ≤ R.locals) : CallW R s args RX9 RX9 302 yX9_passOne cX9_passOne 3 (some .int) (wsq yX9_passOne cX9_passOne 3 (some .int)) (rmq 0 0) 0 0 1 := cwV 1 ht (goodV wd6_48 wd6_50 wsel_44 wd1_10 wd6_51) rfl rfl rfl (by decide +kernel) hR
def f_X9_passesAll (p1 : Int32) (p2 : Int32) (M : Mem) : Option Mem := (nmq (si M 139 44 ((295 : Int32) * p1)) (fun (M1 : Mem) => gq (zB p2) (nmq (si M1 139 43 p2) (fun (M3 : Mem) => bq1 (f_X9_passes 141 M3) (fun (M4 : Mem) => bq1 (f_X9_passes 142 M4) (fun (M6 : Mem) => bq1 (f_X9_passes 143 M6) (fun (M8 : Mem) => bq1 (f_X9_passes 144 M8) (fun (M10 : Mem) => bq1 (f_X9_passes 145 M10) (fun (M12 : Mem) => bq1 (f_X9_passes 146 M12) (fun (M14 : Mem) => bq1 (f_X9_passes 147 M14) (fun (M16 : Mem) => bq1 (f_X9_passes 148 M16) (fun (M18 : Mem) => bq2 (f_X9_passOne (gi M18 139 9) M18) (fun (x20 : Int32) (M21 : Mem) => nmq (si M21 139 9 x20) (fun (M23 : Mem) => bq2 (f_X9_passOne (gi M23 139 10) M23) (fun (x24 : Int32) (M25 : Mem) => nmq (si M25 139 10 x24) (fun (M27 : Mem) => bq2 (f_X9_passOne (gi M27 139 11) M27) (fun (x28 : Int32) (M29 : Mem) => nmq (si M29 139 11 x28) (fun (M31 : Mem) => bq2 (f_X9_passOne (gi M31 139 12) M31) (fun (x32 : Int32) (M33 : Mem) => nmq (si M33 139 12 x32) (fun (M35 : Mem) => bq2 (f_X9_passOne (gi M35 139 13) M35) (fun (x36 : Int32) (M37 : Mem) => nmq (si M37 139 13 x36) (fun (M39 : Mem) => bq2 (f_X9_passOne (gi M39 139 14) M39) (fun (x40 : Int32) (M41 : Mem) => nmq (si M41 139 14 x40) (fun (M43 : Mem) => bq2 (f_X9_passOne (gi M43 139 15) M43) (fun (x44 : Int32) (M45 : Mem) => nmq (si M45 139 15 x44) (fun (M47 : Mem) => bq2 (f_X9_passOne (gi M47 139 16) M47) (fun (x48 : Int32) (M49 : Mem) => nmq (si M49 139 16 x48) (fun (M51 : Mem) => bq2 (f_X9_passOne (gi M51 139 17) M51) (fun (x52 : Int32) (M53 : Mem) => nmq (si M53 139 17 x52) (fun (M55 : Mem) => bq2 (f_X9_passOne (gi M55 139 18) M55) (fun (x56 : Int32) (M57 : Mem) => nmq (si M57 139 18 x56) (fun (M59 : Mem) => bq2 (f_X9_passOne (gi M59 139 19) M59) (fun (x60 : Int32) (M61 : Mem) => nmq (si M61 139 19 x60) (fun (M63 : Mem) => bq2 (f_X9_passOne (gi M63 139 20) M63) (fun (x64 : Int32) (M65 : Mem) => nmq (si M65 139 20 x64) (fun (M67 : Mem) => some M67))))))))))))))))))))))))))))))))))))
set_option maxHeartbeats 4000000 in
set_option maxRecDepth 100000 in
theorem ct_X9_passesAll (l : Launch) (G : GG) {p1 : Int32} {p2 : Int32} {M : Mem} {Mr : Mem}  (hf : f_X9_passesAll p1 p2 M = some Mr) : Met l yX9_passesAll (wsq yX9_passesAll cX9_passesAll 3 none) (rmq 1 22) (va_Pc [.ref (G.2.2.1 139), .int p1, .int p2] (World G M)) (Qv G Mr) 0 0 (adA G) := by
  refine x_start (plainFor_of_name (by decide)) (Nat.le_of_ble_eq_true rfl) ?_
  intro p e s m args below meth c hB hr hlk hW hS ls hl
  have hx := hB.x
  have hb := hB.b
  have hl : lv_has ls 3 [(0, .ref (G.2.2.1 139)), (1, .int p1), (2, .int p2)] := hl
  unfold f_X9_passesAll at hf
  refine lv_aload_n hx hb dX9_passesAll_0 rfl (lv_at hl 0 rfl) ?_
  refine lv_sipush (v := (295 : Int32)) hx hb dX9_passesAll_1 (by decide) ?_
  refine lv_iload_n hx hb dX9_passesAll_4 rfl (lv_at hl 1 rfl) ?_
  refine lv_imul hx hb dX9_passesAll_5 ?_
  refine fp9_44 hB hW hS tl139 wd5_123 dX9_passesAll_6 (fun H locs M1 eM1 hW hS => ?_)
  have hf := nm_o hf eM1
  refine lv_aload_n hx hb dX9_passesAll_9 rfl (lv_at hl 0 rfl) ?_
  refine lv_iload_n hx hb dX9_passesAll_10 rfl (lv_at hl 2 rfl) ?_
  obtain ⟨h2, hf⟩ := g_o hf
  refine fp9_43 hB hW hS tl139 h2 wd5_122 dX9_passesAll_11 (fun H locs M3 eM3 hW hS => ?_)
  have hf := nm_o hf eM3
  refine lv_aload_n hx hb dX9_passesAll_14 rfl (lv_at hl 0 rfl) ?_
  refine lv_aload_n hx hb dX9_passesAll_15 rfl (lv_at hl 0 rfl) ?_
  refine fg9_1 hB hW tl139 wd5_80 dX9_passesAll_16 ?_
  obtain ⟨M4, hg5, hf⟩ := b_o1 hf
  refine x_cv hB (x_rv hB hW hS (As := [.ref (G.2.2.1 141)]) (rest := []) (ct_X9_passes l G tl141 hg5) (cl_RX9_298 hB.2.2.2.2.1 ⟨Nat.le_of_ble_eq_true rfl, Nat.le_of_ble_eq_true rfl⟩) tl139 (by decide) rfl rfl hl.1 rfl (Nat.le_of_ble_eq_true rfl) dX9_passesAll_19 ⟨Nat.le_refl _, Nat.le_refl _⟩) hS (fun H locs hW hS => ?_)
  refine lv_aload_n hx hb dX9_passesAll_22 rfl (lv_at hl 0 rfl) ?_
  refine lv_aload_n hx hb dX9_passesAll_23 rfl (lv_at hl 0 rfl) ?_
  refine fg9_2 hB hW tl139 wd5_81 dX9_passesAll_24 ?_
  obtain ⟨M6, hg7, hf⟩ := b_o1 hf
  refine x_cv hB (x_rv hB hW hS (As := [.ref (G.2.2.1 142)]) (rest := []) (ct_X9_passes l G tl142 hg7) (cl_RX9_298 hB.2.2.2.2.1 ⟨Nat.le_of_ble_eq_true rfl, Nat.le_of_ble_eq_true rfl⟩) tl139 (by decide) rfl rfl hl.1 rfl (Nat.le_of_ble_eq_true rfl) dX9_passesAll_27 ⟨Nat.le_refl _, Nat.le_refl _⟩) hS (fun H locs hW hS => ?_)
  refine lv_aload_n hx hb dX9_passesAll_30 rfl (lv_at hl 0 rfl) ?_
  refine lv_aload_n hx hb dX9_passesAll_31 rfl (lv_at hl 0 rfl) ?_
  refine fg9_3 hB hW tl139 wd5_82 dX9_passesAll_32 ?_
  obtain ⟨M8, hg9, hf⟩ := b_o1 hf
  refine x_cv hB (x_rv hB hW hS (As := [.ref (G.2.2.1 143)]) (rest := []) (ct_X9_passes l G tl143 hg9) (cl_RX9_298 hB.2.2.2.2.1 ⟨Nat.le_of_ble_eq_true rfl, Nat.le_of_ble_eq_true rfl⟩) tl139 (by decide) rfl rfl hl.1 rfl (Nat.le_of_ble_eq_true rfl) dX9_passesAll_35 ⟨Nat.le_refl _, Nat.le_refl _⟩) hS (fun H locs hW hS => ?_)
  refine lv_aload_n hx hb dX9_passesAll_38 rfl (lv_at hl 0 rfl) ?_
  refine lv_aload_n hx hb dX9_passesAll_39 rfl (lv_at hl 0 rfl) ?_
  refine fg9_4 hB hW tl139 wd5_83 dX9_passesAll_40 ?_
  obtain ⟨M10, hg11, hf⟩ := b_o1 hf
  refine x_cv hB (x_rv hB hW hS (As := [.ref (G.2.2.1 144)]) (rest := []) (ct_X9_passes l G tl144 hg11) (cl_RX9_298 hB.2.2.2.2.1 ⟨Nat.le_of_ble_eq_true rfl, Nat.le_of_ble_eq_true rfl⟩) tl139 (by decide) rfl rfl hl.1 rfl (Nat.le_of_ble_eq_true rfl) dX9_passesAll_43 ⟨Nat.le_refl _, Nat.le_refl _⟩) hS (fun H locs hW hS => ?_)
  refine lv_aload_n hx hb dX9_passesAll_46 rfl (lv_at hl 0 rfl) ?_
  refine lv_aload_n hx hb dX9_passesAll_47 rfl (lv_at hl 0 rfl) ?_
  refine fg9_5 hB hW tl139 wd5_84 dX9_passesAll_48 ?_
  obtain ⟨M12, hg13, hf⟩ := b_o1 hf
  refine x_cv hB (x_rv hB hW hS (As := [.ref (G.2.2.1 145)]) (rest := []) (ct_X9_passes l G tl145 hg13) (cl_RX9_298 hB.2.2.2.2.1 ⟨Nat.le_of_ble_eq_true rfl, Nat.le_of_ble_eq_true rfl⟩) tl139 (by decide) rfl rfl hl.1 rfl (Nat.le_of_ble_eq_true rfl) dX9_passesAll_51 ⟨Nat.le_refl _, Nat.le_refl _⟩) hS (fun H locs hW hS => ?_)
  refine lv_aload_n hx hb dX9_passesAll_54 rfl (lv_at hl 0 rfl) ?_
  refine lv_aload_n hx hb dX9_passesAll_55 rfl (lv_at hl 0 rfl) ?_
  refine fg9_6 hB hW tl139 wd5_85 dX9_passesAll_56 ?_
  obtain ⟨M14, hg15, hf⟩ := b_o1 hf
  refine x_cv hB (x_rv hB hW hS (As := [.ref (G.2.2.1 146)]) (rest := []) (ct_X9_passes l G tl146 hg15) (cl_RX9_298 hB.2.2.2.2.1 ⟨Nat.le_of_ble_eq_true rfl, Nat.le_of_ble_eq_true rfl⟩) tl139 (by decide) rfl rfl hl.1 rfl (Nat.le_of_ble_eq_true rfl) dX9_passesAll_59 ⟨Nat.le_refl _, Nat.le_refl _⟩) hS (fun H locs hW hS => ?_)
  refine lv_aload_n hx hb dX9_passesAll_62 rfl (lv_at hl 0 rfl) ?_
  refine lv_aload_n hx hb dX9_passesAll_63 rfl (lv_at hl 0 rfl) ?_
  refine fg9_7 hB hW tl139 wd5_86 dX9_passesAll_64 ?_
  obtain ⟨M16, hg17, hf⟩ := b_o1 hf
  refine x_cv hB (x_rv hB hW hS (As := [.ref (G.2.2.1 147)]) (rest := []) (ct_X9_passes l G tl147 hg17) (cl_RX9_298 hB.2.2.2.2.1 ⟨Nat.le_of_ble_eq_true rfl, Nat.le_of_ble_eq_true rfl⟩) tl139 (by decide) rfl rfl hl.1 rfl (Nat.le_of_ble_eq_true rfl) dX9_passesAll_67 ⟨Nat.le_refl _, Nat.le_refl _⟩) hS (fun H locs hW hS => ?_)
  refine lv_aload_n hx hb dX9_passesAll_70 rfl (lv_at hl 0 rfl) ?_
  refine lv_aload_n hx hb dX9_passesAll_71 rfl (lv_at hl 0 rfl) ?_
  refine fg9_8 hB hW tl139 wd5_87 dX9_passesAll_72 ?_
  obtain ⟨M18, hg19, hf⟩ := b_o1 hf
  refine x_cv hB (x_rv hB hW hS (As := [.ref (G.2.2.1 148)]) (rest := []) (ct_X9_passes l G tl148 hg19) (cl_RX9_298 hB.2.2.2.2.1 ⟨Nat.le_of_ble_eq_true rfl, Nat.le_of_ble_eq_true rfl⟩) tl139 (by decide) rfl rfl hl.1 rfl (Nat.le_of_ble_eq_true rfl) dX9_passesAll_75 ⟨Nat.le_refl _, Nat.le_refl _⟩) hS (fun H locs hW hS => ?_)
  refine lv_aload_n hx hb dX9_passesAll_78 rfl (lv_at hl 0 rfl) ?_
  refine lv_aload_n hx hb dX9_passesAll_79 rfl (lv_at hl 0 rfl) ?_
  refine lv_aload_n hx hb dX9_passesAll_80 rfl (lv_at hl 0 rfl) ?_
  refine fg9_9 hB hW tl139 wd5_88 dX9_passesAll_81 ?_
  obtain ⟨x20, M21, hg22, hf⟩ := b_o2 hf
  refine x_ci hB (x_rv hB hW hS (As := [.int (gi M18 139 9)]) (rest := [.ref (G.2.2.1 139)]) (ct_X9_passOne l G hg22) (cl_RX9_302 hB.2.2.2.2.1 ⟨Nat.le_of_ble_eq_true rfl, Nat.le_of_ble_eq_true rfl⟩) tl139 (by decide) rfl rfl hl.1 rfl (Nat.le_of_ble_eq_true rfl) dX9_passesAll_84 ⟨Nat.le_refl _, Nat.le_refl _⟩) hS (fun H locs hW hS => ?_)
  refine fp9_9 hB hW hS tl139 wd5_88 dX9_passesAll_87 (fun H locs M23 eM23 hW hS => ?_)
  have hf := nm_o hf eM23
  refine lv_aload_n hx hb dX9_passesAll_90 rfl (lv_at hl 0 rfl) ?_
  refine lv_aload_n hx hb dX9_passesAll_91 rfl (lv_at hl 0 rfl) ?_
  refine lv_aload_n hx hb dX9_passesAll_92 rfl (lv_at hl 0 rfl) ?_
  refine fg9_10 hB hW tl139 wd5_89 dX9_passesAll_93 ?_
  obtain ⟨x24, M25, hg26, hf⟩ := b_o2 hf
  refine x_ci hB (x_rv hB hW hS (As := [.int (gi M23 139 10)]) (rest := [.ref (G.2.2.1 139)]) (ct_X9_passOne l G hg26) (cl_RX9_302 hB.2.2.2.2.1 ⟨Nat.le_of_ble_eq_true rfl, Nat.le_of_ble_eq_true rfl⟩) tl139 (by decide) rfl rfl hl.1 rfl (Nat.le_of_ble_eq_true rfl) dX9_passesAll_96 ⟨Nat.le_refl _, Nat.le_refl _⟩) hS (fun H locs hW hS => ?_)
  refine fp9_10 hB hW hS tl139 wd5_89 dX9_passesAll_99 (fun H locs M27 eM27 hW hS => ?_)
  have hf := nm_o hf eM27
  refine lv_aload_n hx hb dX9_passesAll_102 rfl (lv_at hl 0 rfl) ?_
  refine lv_aload_n hx hb dX9_passesAll_103 rfl (lv_at hl 0 rfl) ?_
  refine lv_aload_n hx hb dX9_passesAll_104 rfl (lv_at hl 0 rfl) ?_
  refine fg9_11 hB hW tl139 wd5_90 dX9_passesAll_105 ?_
  obtain ⟨x28, M29, hg30, hf⟩ := b_o2 hf
  refine x_ci hB (x_rv hB hW hS (As := [.int (gi M27 139 11)]) (rest := [.ref (G.2.2.1 139)]) (ct_X9_passOne l G hg30) (cl_RX9_302 hB.2.2.2.2.1 ⟨Nat.le_of_ble_eq_true rfl, Nat.le_of_ble_eq_true rfl⟩) tl139 (by decide) rfl rfl hl.1 rfl (Nat.le_of_ble_eq_true rfl) dX9_passesAll_108 ⟨Nat.le_refl _, Nat.le_refl _⟩) hS (fun H locs hW hS => ?_)
  refine fp9_11 hB hW hS tl139 wd5_90 dX9_passesAll_111 (fun H locs M31 eM31 hW hS => ?_)
  have hf := nm_o hf eM31
  refine lv_aload_n hx hb dX9_passesAll_114 rfl (lv_at hl 0 rfl) ?_
  refine lv_aload_n hx hb dX9_passesAll_115 rfl (lv_at hl 0 rfl) ?_
  refine lv_aload_n hx hb dX9_passesAll_116 rfl (lv_at hl 0 rfl) ?_
  refine fg9_12 hB hW tl139 wd5_91 dX9_passesAll_117 ?_
  obtain ⟨x32, M33, hg34, hf⟩ := b_o2 hf
  refine x_ci hB (x_rv hB hW hS (As := [.int (gi M31 139 12)]) (rest := [.ref (G.2.2.1 139)]) (ct_X9_passOne l G hg34) (cl_RX9_302 hB.2.2.2.2.1 ⟨Nat.le_of_ble_eq_true rfl, Nat.le_of_ble_eq_true rfl⟩) tl139 (by decide) rfl rfl hl.1 rfl (Nat.le_of_ble_eq_true rfl) dX9_passesAll_120 ⟨Nat.le_refl _, Nat.le_refl _⟩) hS (fun H locs hW hS => ?_)
  refine fp9_12 hB hW hS tl139 wd5_91 dX9_passesAll_123 (fun H locs M35 eM35 hW hS => ?_)
  have hf := nm_o hf eM35
  refine lv_aload_n hx hb dX9_passesAll_126 rfl (lv_at hl 0 rfl) ?_
  refine lv_aload_n hx hb dX9_passesAll_127 rfl (lv_at hl 0 rfl) ?_
  refine lv_aload_n hx hb dX9_passesAll_128 rfl (lv_at hl 0 rfl) ?_
  refine fg9_13 hB hW tl139 wd5_92 dX9_passesAll_129 ?_
  obtain ⟨x36, M37, hg38, hf⟩ := b_o2 hf
  refine x_ci hB (x_rv hB hW hS (As := [.int (gi M35 139 13)]) (rest := [.ref (G.2.2.1 139)]) (ct_X9_passOne l G hg38) (cl_RX9_302 hB.2.2.2.2.1 ⟨Nat.le_of_ble_eq_true rfl, Nat.le_of_ble_eq_true rfl⟩) tl139 (by decide) rfl rfl hl.1 rfl (Nat.le_of_ble_eq_true rfl) dX9_passesAll_132 ⟨Nat.le_refl _, Nat.le_refl _⟩) hS (fun H locs hW hS => ?_)
  refine fp9_13 hB hW hS tl139 wd5_92 dX9_passesAll_135 (fun H locs M39 eM39 hW hS => ?_)
  have hf := nm_o hf eM39
  refine lv_aload_n hx hb dX9_passesAll_138 rfl (lv_at hl 0 rfl) ?_
  refine lv_aload_n hx hb dX9_passesAll_139 rfl (lv_at hl 0 rfl) ?_
  refine lv_aload_n hx hb dX9_passesAll_140 rfl (lv_at hl 0 rfl) ?_
  refine fg9_14 hB hW tl139 wd5_93 dX9_passesAll_141 ?_
  obtain ⟨x40, M41, hg42, hf⟩ := b_o2 hf
  refine x_ci hB (x_rv hB hW hS (As := [.int (gi M39 139 14)]) (rest := [.ref (G.2.2.1 139)]) (ct_X9_passOne l G hg42) (cl_RX9_302 hB.2.2.2.2.1 ⟨Nat.le_of_ble_eq_true rfl, Nat.le_of_ble_eq_true rfl⟩) tl139 (by decide) rfl rfl hl.1 rfl (Nat.le_of_ble_eq_true rfl) dX9_passesAll_144 ⟨Nat.le_refl _, Nat.le_refl _⟩) hS (fun H locs hW hS => ?_)
  refine fp9_14 hB hW hS tl139 wd5_93 dX9_passesAll_147 (fun H locs M43 eM43 hW hS => ?_)
  have hf := nm_o hf eM43
  refine lv_aload_n hx hb dX9_passesAll_150 rfl (lv_at hl 0 rfl) ?_
  refine lv_aload_n hx hb dX9_passesAll_151 rfl (lv_at hl 0 rfl) ?_
  refine lv_aload_n hx hb dX9_passesAll_152 rfl (lv_at hl 0 rfl) ?_
  refine fg9_15 hB hW tl139 wd5_94 dX9_passesAll_153 ?_
  obtain ⟨x44, M45, hg46, hf⟩ := b_o2 hf
  refine x_ci hB (x_rv hB hW hS (As := [.int (gi M43 139 15)]) (rest := [.ref (G.2.2.1 139)]) (ct_X9_passOne l G hg46) (cl_RX9_302 hB.2.2.2.2.1 ⟨Nat.le_of_ble_eq_true rfl, Nat.le_of_ble_eq_true rfl⟩) tl139 (by decide) rfl rfl hl.1 rfl (Nat.le_of_ble_eq_true rfl) dX9_passesAll_156 ⟨Nat.le_refl _, Nat.le_refl _⟩) hS (fun H locs hW hS => ?_)
  refine fp9_15 hB hW hS tl139 wd5_94 dX9_passesAll_159 (fun H locs M47 eM47 hW hS => ?_)
  have hf := nm_o hf eM47
  refine lv_aload_n hx hb dX9_passesAll_162 rfl (lv_at hl 0 rfl) ?_
  refine lv_aload_n hx hb dX9_passesAll_163 rfl (lv_at hl 0 rfl) ?_
  refine lv_aload_n hx hb dX9_passesAll_164 rfl (lv_at hl 0 rfl) ?_
  refine fg9_16 hB hW tl139 wd5_95 dX9_passesAll_165 ?_
  obtain ⟨x48, M49, hg50, hf⟩ := b_o2 hf
  refine x_ci hB (x_rv hB hW hS (As := [.int (gi M47 139 16)]) (rest := [.ref (G.2.2.1 139)]) (ct_X9_passOne l G hg50) (cl_RX9_302 hB.2.2.2.2.1 ⟨Nat.le_of_ble_eq_true rfl, Nat.le_of_ble_eq_true rfl⟩) tl139 (by decide) rfl rfl hl.1 rfl (Nat.le_of_ble_eq_true rfl) dX9_passesAll_168 ⟨Nat.le_refl _, Nat.le_refl _⟩) hS (fun H locs hW hS => ?_)
  refine fp9_16 hB hW hS tl139 wd5_95 dX9_passesAll_171 (fun H locs M51 eM51 hW hS => ?_)
  have hf := nm_o hf eM51
  refine lv_aload_n hx hb dX9_passesAll_174 rfl (lv_at hl 0 rfl) ?_
  refine lv_aload_n hx hb dX9_passesAll_175 rfl (lv_at hl 0 rfl) ?_
  refine lv_aload_n hx hb dX9_passesAll_176 rfl (lv_at hl 0 rfl) ?_
  refine fg9_17 hB hW tl139 wd5_96 dX9_passesAll_177 ?_
  obtain ⟨x52, M53, hg54, hf⟩ := b_o2 hf
  refine x_ci hB (x_rv hB hW hS (As := [.int (gi M51 139 17)]) (rest := [.ref (G.2.2.1 139)]) (ct_X9_passOne l G hg54) (cl_RX9_302 hB.2.2.2.2.1 ⟨Nat.le_of_ble_eq_true rfl, Nat.le_of_ble_eq_true rfl⟩) tl139 (by decide) rfl rfl hl.1 rfl (Nat.le_of_ble_eq_true rfl) dX9_passesAll_180 ⟨Nat.le_refl _, Nat.le_refl _⟩) hS (fun H locs hW hS => ?_)
  refine fp9_17 hB hW hS tl139 wd5_96 dX9_passesAll_183 (fun H locs M55 eM55 hW hS => ?_)
  have hf := nm_o hf eM55
  refine lv_aload_n hx hb dX9_passesAll_186 rfl (lv_at hl 0 rfl) ?_
  refine lv_aload_n hx hb dX9_passesAll_187 rfl (lv_at hl 0 rfl) ?_
  refine lv_aload_n hx hb dX9_passesAll_188 rfl (lv_at hl 0 rfl) ?_
  refine fg9_18 hB hW tl139 wd5_97 dX9_passesAll_189 ?_
  obtain ⟨x56, M57, hg58, hf⟩ := b_o2 hf
  refine x_ci hB (x_rv hB hW hS (As := [.int (gi M55 139 18)]) (rest := [.ref (G.2.2.1 139)]) (ct_X9_passOne l G hg58) (cl_RX9_302 hB.2.2.2.2.1 ⟨Nat.le_of_ble_eq_true rfl, Nat.le_of_ble_eq_true rfl⟩) tl139 (by decide) rfl rfl hl.1 rfl (Nat.le_of_ble_eq_true rfl) dX9_passesAll_192 ⟨Nat.le_refl _, Nat.le_refl _⟩) hS (fun H locs hW hS => ?_)
  refine fp9_18 hB hW hS tl139 wd5_97 dX9_passesAll_195 (fun H locs M59 eM59 hW hS => ?_)
  have hf := nm_o hf eM59
  refine lv_aload_n hx hb dX9_passesAll_198 rfl (lv_at hl 0 rfl) ?_
  refine lv_aload_n hx hb dX9_passesAll_199 rfl (lv_at hl 0 rfl) ?_
  refine lv_aload_n hx hb dX9_passesAll_200 rfl (lv_at hl 0 rfl) ?_
  refine fg9_19 hB hW tl139 wd5_98 dX9_passesAll_201 ?_
  obtain ⟨x60, M61, hg62, hf⟩ := b_o2 hf
  refine x_ci hB (x_rv hB hW hS (As := [.int (gi M59 139 19)]) (rest := [.ref (G.2.2.1 139)]) (ct_X9_passOne l G hg62) (cl_RX9_302 hB.2.2.2.2.1 ⟨Nat.le_of_ble_eq_true rfl, Nat.le_of_ble_eq_true rfl⟩) tl139 (by decide) rfl rfl hl.1 rfl (Nat.le_of_ble_eq_true rfl) dX9_passesAll_204 ⟨Nat.le_refl _, Nat.le_refl _⟩) hS (fun H locs hW hS => ?_)
  refine fp9_19 hB hW hS tl139 wd5_98 dX9_passesAll_207 (fun H locs M63 eM63 hW hS => ?_)
  have hf := nm_o hf eM63
  refine lv_aload_n hx hb dX9_passesAll_210 rfl (lv_at hl 0 rfl) ?_
  refine lv_aload_n hx hb dX9_passesAll_211 rfl (lv_at hl 0 rfl) ?_
  refine lv_aload_n hx hb dX9_passesAll_212 rfl (lv_at hl 0 rfl) ?_
  refine fg9_20 hB hW tl139 wd5_99 dX9_passesAll_213 ?_
  obtain ⟨x64, M65, hg66, hf⟩ := b_o2 hf
  refine x_ci hB (x_rv hB hW hS (As := [.int (gi M63 139 20)]) (rest := [.ref (G.2.2.1 139)]) (ct_X9_passOne l G hg66) (cl_RX9_302 hB.2.2.2.2.1 ⟨Nat.le_of_ble_eq_true rfl, Nat.le_of_ble_eq_true rfl⟩) tl139 (by decide) rfl rfl hl.1 rfl (Nat.le_of_ble_eq_true rfl) dX9_passesAll_216 ⟨Nat.le_refl _, Nat.le_refl _⟩) hS (fun H locs hW hS => ?_)
  refine fp9_20 hB hW hS tl139 wd5_99 dX9_passesAll_219 (fun H locs M67 eM67 hW hS => ?_)
  have hf := nm_o hf eM67
  exact e_v hB hW hS hr hlk (Option.some.inj hf) dX9_passesAll_222
theorem cl_RX9_278 {R : Room} {s : State} {args : Array Value} (ht : ∀ w ∈ lw_all, w.before args s = true) (hR : 3 + 1 ≤ R.frames ∧ 8 + (2 + 11) + 66 ≤ R.locals) : CallW R s args RX9 RX9 278 yX9_statement cX9_statement 2 (some .boolean) (wsq yX9_statement cX9_statement 2 (some .boolean)) (rmq 3 66) 0 0 0 := cwV 0 ht (goodV wd6_17 wd6_19 wsel_37 wd1_10 wd6_20) rfl rfl rfl (by decide +kernel) hR
theorem cl_RX9_281 {R : Room} {s : State} {args : Array Value} (ht : ∀ w ∈ lw_all, w.before args s = true) (hR : 1 + 1 ≤ R.frames ∧ 8 + (3 + 11) + 22 ≤ R.locals) : CallW R s args RX9 RX9 281 yX9_passesAll cX9_passesAll 3 none (wsq yX9_passesAll cX9_passesAll 3 none) (rmq 1 22) 0 0 2 := cwV 2 ht (goodV wd6_40 wd6_42 wsel_42 wd1_10 wd6_43) rfl rfl rfl (by decide +kernel) hR
theorem cl_RX9_285 {R : Room} {s : State} {args : Array Value} (ht : ∀ w ∈ lw_all, w.before args s = true) (hR : 3 + 1 ≤ R.frames ∧ 8 + (3 + 11) + 73 ≤ R.locals) : CallW R s args RX9 RX9 285 yX9_comesTold cX9_comesTold 3 (some .boolean) (wsq yX9_comesTold cX9_comesTold 3 (some .boolean)) (rmq 3 73) 0 0 1 := cwV 1 ht (goodV wd6_52 wd6_54 wsel_45 wd1_10 wd6_55) rfl rfl rfl (by decide +kernel) hR
def f_X9_sheet_L86  (K15 : Int32 → Mem → Option (Int32 × Mem)) (x13 : Int32) (M14 : Mem) : Option (Int32 × Mem) := (if (gi M14 139 38) ≤ x13 then (nmq (si M14 139 46 (0 : Int32)) (fun (M18 : Mem) => some ((gi M18 139 38), M18))) else (bq2 (f_X9_comesTold x13 M14) (fun (x19 : Int32) (M20 : Mem) => (if x19 = 0 then (bq1 (f_X9_passesAll (1 : Int32) (0 : Int32) M20) (fun (M23 : Mem) => gq (inB x13 49) (some (((-2000 : Int32) - (gi M23 158 ((x13 : Int32).toNatClampNeg))), M23)))) else (nmq (x13 + (1 : Int32)) (fun (x26 : Int32) => (K15 x26 M20)))))))
def f_X9_sheet_L12  (K5 : Int32 → Mem → Option (Int32 × Mem)) (x3 : Int32) (M4 : Mem) : Option (Int32 × Mem) := (if x3 = 0 then (some (x3, M4)) else (jq (fun (_ : Unit) => (bq2 (f_X9_statement M4) (fun (x33 : Int32) (M34 : Mem) => (nmq ((if x33 = 0 then ((0 : Int32)) else ((1 : Int32)))) (fun (x36 : Int32) => (nmq (si M34 139 38 ((gi M34 139 38) + x36)) (fun (M38 : Mem) => (K5 x33 M38)))))))) (fun (K32 : Unit → Option (Int32 × Mem)) => (if (gi M4 139 37) < (gi M4 139 36) then (K32 ()) else (if (gi M4 139 38) = 0 then (K32 ()) else (some (x3, M4)))))))
def f_X9_sheet (M : Mem) : Option (Int32 × Mem) := (nmq (si M 139 37 (0 : Int32)) (fun (M1 : Mem) => nmq (si M1 139 38 (0 : Int32)) (fun (M2 : Mem) => (bq2 (lq2 f_X9_sheet_L12 FU (1 : Int32) M2) (fun (x7 : Int32) (M8 : Mem) => (nmq (si M8 139 36 (0 : Int32)) (fun (M9 : Mem) => (if x7 = 0 then some (((-1000 : Int32) - (gi M9 139 37)), M9) else (bq1 (f_X9_passesAll (1 : Int32) (1 : Int32) M9) (fun (M11 : Mem) => (lq2 f_X9_sheet_L86 FU (0 : Int32) M11)))))))))))
set_option maxHeartbeats 4000000 in
set_option maxRecDepth 100000 in
theorem ct_X9_sheet (l : Launch) (G : GG)  {M : Mem} {r : Int32} {Mr : Mem}  (hf : f_X9_sheet M = some (r, Mr)) : Met l yX9_sheet (wsq yX9_sheet cX9_sheet 3 (some .int)) (rmq 4 95) (va_Pc [.ref (G.2.2.1 139)] (World G M)) (Qi G r Mr) 0 0 (adA G) := by
  refine x_start (plainFor_of_name (by decide)) (Nat.le_of_ble_eq_true rfl) ?_
  intro p e s m args below meth c hB hr hlk hW hS ls hl
  have hx := hB.x
  have hb := hB.b
  have hl : lv_has ls 3 [(0, .ref (G.2.2.1 139))] := hl
  unfold f_X9_sheet at hf
  refine lv_aload_n hx hb dX9_sheet_0 rfl (lv_at hl 0 rfl) ?_
  refine lv_iconst (v := (0 : Int32)) hx hb dX9_sheet_1 (by decide) ?_
  refine fp9_37 hB hW hS tl139 wd5_116 dX9_sheet_2 (fun H locs M1 eM1 hW hS => ?_)
  have hf := nm_o hf eM1
  refine lv_aload_n hx hb dX9_sheet_5 rfl (lv_at hl 0 rfl) ?_
  refine lv_iconst (v := (0 : Int32)) hx hb dX9_sheet_6 (by decide) ?_
  refine fp9_38 hB hW hS tl139 wd5_117 dX9_sheet_7 (fun H locs M2 eM2 hW hS => ?_)
  have hf := nm_o hf eM2
  refine lv_iconst (v := (1 : Int32)) hx hb dX9_sheet_10 (by decide) ?_
  refine lv_istore_n (lv' := [(1, .int (1 : Int32)), (0, .ref (G.2.2.1 139))]) hx hb dX9_sheet_11 rfl hl (by decide) rfl (fun ls hl => ?_)
  obtain ⟨y27, M28, hL, hf⟩ := b_o2 hf
  have main29 : ∀ (x7 : Int32) (M8 : Mem) (H : Heap) (locs : List Loc) (ls : Array Slot), Wd G M8 H → va_S (adA G) s.heap H locs → lv_has ls 3 [(0, .ref (G.2.2.1 139)), (1, .int x7)] → some (x7, M8) = some (y27, M28) → W p l e (rmq 4 95) s m args below meth c H locs 0 0 (MQ below (Qi G r Mr) args s 0 0 (adA G)) (F0 m 60 ls []) := by
    intro x7 M8 H locs ls hW hS hl hE
    cases hE
    refine lv_aload_n hx hb dX9_sheet_60 rfl (lv_at hl 0 rfl) ?_
    refine lv_iconst (v := (0 : Int32)) hx hb dX9_sheet_61 (by decide) ?_
    refine fp9_36 hB hW hS tl139 wd5_115 dX9_sheet_62 (fun H locs M9 eM9 hW hS => ?_)
    have hf := nm_o hf eM9
    refine lv_iload_n hx hb dX9_sheet_65 rfl (lv_at hl 1 rfl) ?_
    refine lv_if_ne (tgt := 78) hx hb dX9_sheet_66 (by decide) (fun c10 => ?_) (fun c10 => ?_)
    · have hf := i_f hf c10
      refine lv_aload_n hx hb dX9_sheet_78 rfl (lv_at hl 0 rfl) ?_
      refine lv_iconst (v := (1 : Int32)) hx hb dX9_sheet_79 (by decide) ?_
      refine lv_iconst (v := (1 : Int32)) hx hb dX9_sheet_80 (by decide) ?_
      obtain ⟨M11, hg12, hf⟩ := b_o1 hf
      refine x_cv hB (x_rv hB hW hS (As := [.int (1 : Int32), .int (1 : Int32)]) (rest := []) (ct_X9_passesAll l G hg12) (cl_RX9_281 hB.2.2.2.2.1 ⟨Nat.le_of_ble_eq_true rfl, Nat.le_of_ble_eq_true rfl⟩) tl139 (by decide) rfl rfl hl.1 rfl (Nat.le_of_ble_eq_true rfl) dX9_sheet_81 ⟨Nat.le_refl _, Nat.le_refl _⟩) hS (fun H locs hW hS => ?_)
      refine lv_iconst (v := (0 : Int32)) hx hb dX9_sheet_84 (by decide) ?_
      refine lv_istore_n (lv' := [(2, .int (0 : Int32)), (0, .ref (G.2.2.1 139)), (1, .int y27)]) hx hb dX9_sheet_85 rfl hl (by decide) rfl (fun ls hl => ?_)
      have loop16 : ∀ (n : Nat) (x13 : Int32) (M14 : Mem) (H : Heap) (locs : List Loc) (ls : Array Slot), Wd G M14 H → va_S (adA G) s.heap H locs → lv_has ls 3 [(0, .ref (G.2.2.1 139)), (2, .int x13)] → lq2 f_X9_sheet_L86 n x13 M14 = some (r, Mr) → W p l e (rmq 4 95) s m args below meth c H locs 0 0 (MQ below (Qi G r Mr) args s 0 0 (adA G)) (F0 m 86 ls []) := by
        intro n
        induction n with
        | zero => intro x13 M14 H locs ls hW hS hl hf; exact (l_z2 hf).elim
        | succ n ih =>
          intro x13 M14 H locs ls hW hS hl hf
          have hf := l_s2 hf
          generalize lq2 f_X9_sheet_L86 n = K15 at ih hf
          unfold f_X9_sheet_L86 at hf
          refine lv_iload_n hx hb dX9_sheet_86 rfl (lv_at hl 1 rfl) ?_
          refine lv_aload_n hx hb dX9_sheet_87 rfl (lv_at hl 0 rfl) ?_
          refine fg9_38 hB hW tl139 wd5_117 dX9_sheet_88 ?_
          refine lv_icmp_ge (tgt := 128) hx hb dX9_sheet_91 (by decide) (fun c17 => ?_) (fun c17 => ?_)
          · have hf := i_t hf c17
            refine lv_aload_n hx hb dX9_sheet_128 rfl (lv_at hl 0 rfl) ?_
            refine lv_iconst (v := (0 : Int32)) hx hb dX9_sheet_129 (by decide) ?_
            refine fp9_46 hB hW hS tl139 wd5_125 dX9_sheet_130 (fun H locs M18 eM18 hW hS => ?_)
            have hf := nm_o hf eM18
            refine lv_aload_n hx hb dX9_sheet_133 rfl (lv_at hl 0 rfl) ?_
            refine fg9_38 hB hW tl139 wd5_117 dX9_sheet_134 ?_
            exact e_i hB hW hS hr hlk (s_1 hf) (s_2 hf) dX9_sheet_137
          · have hf := i_f hf c17
            refine lv_aload_n hx hb dX9_sheet_94 rfl (lv_at hl 0 rfl) ?_
            refine lv_iload_n hx hb dX9_sheet_95 rfl (lv_at hl 1 rfl) ?_
            obtain ⟨x19, M20, hg21, hf⟩ := b_o2 hf
            refine x_ci hB (x_rv hB hW hS (As := [.int x13]) (rest := []) (ct_X9_comesTold l G hg21) (cl_RX9_285 hB.2.2.2.2.1 ⟨Nat.le_of_ble_eq_true rfl, Nat.le_of_ble_eq_true rfl⟩) tl139 (by decide) rfl rfl hl.1 rfl (Nat.le_of_ble_eq_true rfl) dX9_sheet_96 ⟨Nat.le_refl _, Nat.le_refl _⟩) hS (fun H locs hW hS => ?_)
            refine lv_if_eq (tgt := 105) hx hb dX9_sheet_99 (by decide) (fun c22 => ?_) (fun c22 => ?_)
            · have hf := i_t hf c22
              refine lv_aload_n hx hb dX9_sheet_105 rfl (lv_at hl 0 rfl) ?_
              refine lv_iconst (v := (1 : Int32)) hx hb dX9_sheet_106 (by decide) ?_
              refine lv_iconst (v := (0 : Int32)) hx hb dX9_sheet_107 (by decide) ?_
              obtain ⟨M23, hg24, hf⟩ := b_o1 hf
              refine x_cv hB (x_rv hB hW hS (As := [.int (1 : Int32), .int (0 : Int32)]) (rest := []) (ct_X9_passesAll l G hg24) (cl_RX9_281 hB.2.2.2.2.1 ⟨Nat.le_of_ble_eq_true rfl, Nat.le_of_ble_eq_true rfl⟩) tl139 (by decide) rfl rfl hl.1 rfl (Nat.le_of_ble_eq_true rfl) dX9_sheet_108 ⟨Nat.le_refl _, Nat.le_refl _⟩) hS (fun H locs hW hS => ?_)
              refine lv_sipush (v := (-2000 : Int32)) hx hb dX9_sheet_111 (by decide) ?_
              refine lv_aload_n hx hb dX9_sheet_114 rfl (lv_at hl 0 rfl) ?_
              refine fg9_32 hB hW tl139 wd5_111 dX9_sheet_115 ?_
              refine lv_iload_n hx hb dX9_sheet_118 rfl (lv_at hl 1 rfl) ?_
              obtain ⟨h25, hf⟩ := g_o hf
              refine x_iald hB hW tl158 al158 h25 dX9_sheet_119 ?_
              refine lv_isub hx hb dX9_sheet_120 ?_
              exact e_i hB hW hS hr hlk (s_1 hf) (s_2 hf) dX9_sheet_121
            · have hf := i_f hf c22
              refine lv_goto (tgt := 122) hx hb dX9_sheet_102 (by decide) ?_
              obtain ⟨x26, ex26⟩ : ∃ y : Int32, y = x13 + (1 : Int32) := ⟨_, rfl⟩
              have hf := nm_o hf ex26
              refine lv_iinc (v := x26) (lv' := [(2, .int x26), (0, .ref (G.2.2.1 139))]) hx hb dX9_sheet_122 hl (k := 1) rfl (by rw [ex26]; rfl) (by decide) rfl (fun ls hl => ?_)
              refine lv_goto (tgt := 86) hx hb dX9_sheet_125 (by decide) ?_
              exact ih x26 M20 _ _ ls hW hS (lv_sub hl [1, 0] rfl) hf
      exact loop16 FU (0 : Int32) M11 _ _ ls hW hS (lv_sub hl [1, 0] rfl) hf
    · have hf := i_t hf c10
      refine lv_sipush (v := (-1000 : Int32)) hx hb dX9_sheet_69 (by decide) ?_
      refine lv_aload_n hx hb dX9_sheet_72 rfl (lv_at hl 0 rfl) ?_
      refine fg9_37 hB hW tl139 wd5_116 dX9_sheet_73 ?_
      refine lv_isub hx hb dX9_sheet_76 ?_
      exact e_i hB hW hS hr hlk (s_1 hf) (s_2 hf) dX9_sheet_77
  have loop6 : ∀ (n : Nat) (x3 : Int32) (M4 : Mem) (H : Heap) (locs : List Loc) (ls : Array Slot), Wd G M4 H → va_S (adA G) s.heap H locs → lv_has ls 3 [(0, .ref (G.2.2.1 139)), (1, .int x3)] → lq2 f_X9_sheet_L12 n x3 M4 = some (y27, M28) → W p l e (rmq 4 95) s m args below meth c H locs 0 0 (MQ below (Qi G r Mr) args s 0 0 (adA G)) (F0 m 12 ls []) := by
    intro n
    induction n with
    | zero => intro x3 M4 H locs ls hW hS hl hf; exact (l_z2 hf).elim
    | succ n ih =>
      intro x3 M4 H locs ls hW hS hl hf
      have hf := l_s2 hf
      generalize lq2 f_X9_sheet_L12 n = K5 at ih hf
      unfold f_X9_sheet_L12 at hf
      refine lv_iload_n hx hb dX9_sheet_12 rfl (lv_at hl 1 rfl) ?_
      refine lv_if_eq (tgt := 60) hx hb dX9_sheet_13 (by decide) (fun c30 => ?_) (fun c30 => ?_)
      · have hf := i_t hf c30
        exact main29 x3 M4 _ _ ls hW hS (lv_sub hl [0, 1] rfl) hf
      · have hf := i_f hf c30
        refine lv_aload_n hx hb dX9_sheet_16 rfl (lv_at hl 0 rfl) ?_
        refine fg9_37 hB hW tl139 wd5_116 dX9_sheet_17 ?_
        refine lv_aload_n hx hb dX9_sheet_20 rfl (lv_at hl 0 rfl) ?_
        refine fg9_36 hB hW tl139 wd5_115 dX9_sheet_21 ?_
        obtain ⟨K32, eK32, hf⟩ := j_o hf
        have main31 : ∀ (_ : Unit) (H : Heap) (locs : List Loc) (ls : Array Slot), Wd G M4 H → va_S (adA G) s.heap H locs → lv_has ls 3 [(0, .ref (G.2.2.1 139))] → K32 () = some (y27, M28) → W p l e (rmq 4 95) s m args below meth c H locs 0 0 (MQ below (Qi G r Mr) args s 0 0 (adA G)) (F0 m 34 ls []) := by
          intro _ H locs ls hW hS hl hf
          subst eK32
          refine lv_aload_n hx hb dX9_sheet_34 rfl (lv_at hl 0 rfl) ?_
          obtain ⟨x33, M34, hg35, hf⟩ := b_o2 hf
          refine x_ci hB (x_rv hB hW hS (As := []) (rest := []) (ct_X9_statement l G hg35) (cl_RX9_278 hB.2.2.2.2.1 ⟨Nat.le_of_ble_eq_true rfl, Nat.le_of_ble_eq_true rfl⟩) tl139 (by decide) rfl rfl hl.1 rfl (Nat.le_of_ble_eq_true rfl) dX9_sheet_35 ⟨Nat.le_refl _, Nat.le_refl _⟩) hS (fun H locs hW hS => ?_)
          refine lv_istore_n (lv' := [(1, .int x33), (0, .ref (G.2.2.1 139))]) hx hb dX9_sheet_38 rfl hl (by decide) rfl (fun ls hl => ?_)
          refine lv_aload_n hx hb dX9_sheet_39 rfl (lv_at hl 1 rfl) ?_
          refine lv_dup hx hb dX9_sheet_40 rfl ?_
          refine fg9_38 hB hW tl139 wd5_117 dX9_sheet_41 ?_
          refine lv_iload_n hx hb dX9_sheet_44 rfl (lv_at hl 0 rfl) ?_
          obtain ⟨y39, evy39⟩ : ∃ z : Int32, (if x33 = 0 then ((0 : Int32)) else ((1 : Int32))) = z := ⟨_, rfl⟩
          have hf := nm_o hf evy39.symm
          have main37 : ∀ (x36 : Int32) (H : Heap) (locs : List Loc) (ls : Array Slot), Wd G M34 H → va_S (adA G) s.heap H locs → lv_has ls 3 [(0, .ref (G.2.2.1 139)), (1, .int x33)] → x36 = y39 → W p l e (rmq 4 95) s m args below meth c H locs 0 0 (MQ below (Qi G r Mr) args s 0 0 (adA G)) (F0 m 53 ls [.int x36, .int (gi M34 139 38), .ref (G.2.2.1 139)]) := by
            intro x36 H locs ls hW hS hl hE
            have hE := hE.symm
            subst hE
            refine lv_iadd hx hb dX9_sheet_53 ?_
            refine fp9_38 hB hW hS tl139 wd5_117 dX9_sheet_54 (fun H locs M38 eM38 hW hS => ?_)
            have hf := nm_o hf eM38
            refine lv_goto (tgt := 12) hx hb dX9_sheet_57 (by decide) ?_
            exact ih x33 M38 _ _ ls hW hS (lv_sub hl [0, 1] rfl) hf
          have hf := evy39
          refine lv_if_eq (tgt := 52) hx hb dX9_sheet_45 (by decide) (fun c40 => ?_) (fun c40 => ?_)
          · have hf := i_t hf c40
            refine lv_iconst (v := (0 : Int32)) hx hb dX9_sheet_52 (by decide) ?_
            exact main37 (0 : Int32) _ _ ls hW hS (lv_sub hl [1, 0] rfl) hf
          · have hf := i_f hf c40
            refine lv_iconst (v := (1 : Int32)) hx hb dX9_sheet_48 (by decide) ?_
            refine lv_goto (tgt := 53) hx hb dX9_sheet_49 (by decide) ?_
            exact main37 (1 : Int32) _ _ ls hW hS (lv_sub hl [1, 0] rfl) hf
        refine lv_icmp_lt (tgt := 34) hx hb dX9_sheet_24 (by decide) (fun c41 => ?_) (fun c41 => ?_)
        · have hf := i_t hf c41
          exact main31 () _ _ ls hW hS (lv_sub hl [0] rfl) hf
        · have hf := i_f hf c41
          refine lv_aload_n hx hb dX9_sheet_27 rfl (lv_at hl 0 rfl) ?_
          refine fg9_38 hB hW tl139 wd5_117 dX9_sheet_28 ?_
          refine lv_if_ne (tgt := 60) hx hb dX9_sheet_31 (by decide) (fun c42 => ?_) (fun c42 => ?_)
          · have hf := i_f hf c42
            exact main29 x3 M4 _ _ ls hW hS (lv_sub hl [0, 1] rfl) hf
          · have hf := i_t hf c42
            exact main31 () _ _ ls hW hS (lv_sub hl [0] rfl) hf
  exact loop6 FU (1 : Int32) M2 _ _ ls hW hS (lv_sub hl [1, 0] rfl) hL
def f_X9_minds (M : Mem) : Option Mem := (bq1 (f_X9_passesAll (2 : Int32) (1 : Int32) M) (fun (M1 : Mem) => some M1))
set_option maxHeartbeats 4000000 in
set_option maxRecDepth 100000 in
theorem ct_X9_minds (l : Launch) (G : GG)  {M : Mem} {Mr : Mem}  (hf : f_X9_minds M = some Mr) : Met l yX9_minds (wsq yX9_minds cX9_minds 1 none) (rmq 2 44) (va_Pc [.ref (G.2.2.1 139)] (World G M)) (Qv G Mr) 0 0 (adA G) := by
  refine x_start (plainFor_of_name (by decide)) (Nat.le_of_ble_eq_true rfl) ?_
  intro p e s m args below meth c hB hr hlk hW hS ls hl
  have hx := hB.x
  have hb := hB.b
  have hl : lv_has ls 1 [(0, .ref (G.2.2.1 139))] := hl
  unfold f_X9_minds at hf
  refine lv_aload_n hx hb dX9_minds_0 rfl (lv_at hl 0 rfl) ?_
  refine lv_iconst (v := (2 : Int32)) hx hb dX9_minds_1 (by decide) ?_
  refine lv_iconst (v := (1 : Int32)) hx hb dX9_minds_2 (by decide) ?_
  obtain ⟨M1, hg2, hf⟩ := b_o1 hf
  refine x_cv hB (x_rv hB hW hS (As := [.int (2 : Int32), .int (1 : Int32)]) (rest := []) (ct_X9_passesAll l G hg2) (cl_RX9_281 hB.2.2.2.2.1 ⟨Nat.le_of_ble_eq_true rfl, Nat.le_of_ble_eq_true rfl⟩) tl139 (by decide) rfl rfl hl.1 rfl (Nat.le_of_ble_eq_true rfl) dX9_minds_3 ⟨Nat.le_refl _, Nat.le_refl _⟩) hS (fun H locs hW hS => ?_)
  exact e_v hB hW hS hr hlk (Option.some.inj hf) dX9_minds_6
def f_X9_forgets (M : Mem) : Option Mem := (bq1 (f_X9_passesAll (2 : Int32) (0 : Int32) M) (fun (M1 : Mem) => some M1))
set_option maxHeartbeats 4000000 in
set_option maxRecDepth 100000 in
theorem ct_X9_forgets (l : Launch) (G : GG)  {M : Mem} {Mr : Mem}  (hf : f_X9_forgets M = some Mr) : Met l yX9_forgets (wsq yX9_forgets cX9_forgets 1 none) (rmq 2 44) (va_Pc [.ref (G.2.2.1 139)] (World G M)) (Qv G Mr) 0 0 (adA G) := by
  refine x_start (plainFor_of_name (by decide)) (Nat.le_of_ble_eq_true rfl) ?_
  intro p e s m args below meth c hB hr hlk hW hS ls hl
  have hx := hB.x
  have hb := hB.b
  have hl : lv_has ls 1 [(0, .ref (G.2.2.1 139))] := hl
  unfold f_X9_forgets at hf
  refine lv_aload_n hx hb dX9_forgets_0 rfl (lv_at hl 0 rfl) ?_
  refine lv_iconst (v := (2 : Int32)) hx hb dX9_forgets_1 (by decide) ?_
  refine lv_iconst (v := (0 : Int32)) hx hb dX9_forgets_2 (by decide) ?_
  obtain ⟨M1, hg2, hf⟩ := b_o1 hf
  refine x_cv hB (x_rv hB hW hS (As := [.int (2 : Int32), .int (0 : Int32)]) (rest := []) (ct_X9_passesAll l G hg2) (cl_RX9_281 hB.2.2.2.2.1 ⟨Nat.le_of_ble_eq_true rfl, Nat.le_of_ble_eq_true rfl⟩) tl139 (by decide) rfl rfl hl.1 rfl (Nat.le_of_ble_eq_true rfl) dX9_forgets_3 ⟨Nat.le_refl _, Nat.le_refl _⟩) hS (fun H locs hW hS => ?_)
  exact e_v hB hW hS hr hlk (Option.some.inj hf) dX9_forgets_6
def f_X9_remembers (M : Mem) : Option Mem := (bq1 ((if (gi M 139 46) = (8 : Int32) then (nmq (si M 139 45 (irm ((gi M 139 45) + (1 : Int32)) (8 : Int32))) (fun (M8 : Mem) => (some (M8)))) else (nmq (si M 139 46 ((gi M 139 46) + (1 : Int32))) (fun (M7 : Mem) => (some (M7))))) : Option (Mem)) (fun (M1 : Mem) => (bq1 (f_X9_passesAll ((3 : Int32) + (irm (((gi M1 139 45) + (gi M1 139 46)) - (1 : Int32)) (8 : Int32))) (1 : Int32) M1) (fun (M3 : Mem) => some M3))))
set_option maxHeartbeats 4000000 in
set_option maxRecDepth 100000 in
theorem ct_X9_remembers (l : Launch) (G : GG)  {M : Mem} {Mr : Mem}  (hf : f_X9_remembers M = some Mr) : Met l yX9_remembers (wsq yX9_remembers cX9_remembers 1 none) (rmq 2 44) (va_Pc [.ref (G.2.2.1 139)] (World G M)) (Qv G Mr) 0 0 (adA G) := by
  refine x_start (plainFor_of_name (by decide)) (Nat.le_of_ble_eq_true rfl) ?_
  intro p e s m args below meth c hB hr hlk hW hS ls hl
  have hx := hB.x
  have hb := hB.b
  have hl : lv_has ls 1 [(0, .ref (G.2.2.1 139))] := hl
  unfold f_X9_remembers at hf
  refine lv_aload_n hx hb dX9_remembers_0 rfl (lv_at hl 0 rfl) ?_
  refine fg9_46 hB hW tl139 wd5_125 dX9_remembers_1 ?_
  refine lv_bipush (v := (8 : Int32)) hx hb dX9_remembers_4 (by decide) ?_
  obtain ⟨M5, hR, hf⟩ := b_o1 hf
  have main2 : ∀ (M1 : Mem) (H : Heap) (locs : List Loc) (ls : Array Slot), Wd G M1 H → va_S (adA G) s.heap H locs → lv_has ls 1 [(0, .ref (G.2.2.1 139))] → some (M1) = some (M5) → W p l e (rmq 2 44) s m args below meth c H locs 0 0 (MQ below (Qv G Mr) args s 0 0 (adA G)) (F0 m 35 ls []) := by
    intro M1 H locs ls hW hS hl hE
    cases hE
    refine lv_aload_n hx hb dX9_remembers_35 rfl (lv_at hl 0 rfl) ?_
    refine lv_iconst (v := (3 : Int32)) hx hb dX9_remembers_36 (by decide) ?_
    refine lv_aload_n hx hb dX9_remembers_37 rfl (lv_at hl 0 rfl) ?_
    refine fg9_45 hB hW tl139 wd5_124 dX9_remembers_38 ?_
    refine lv_aload_n hx hb dX9_remembers_41 rfl (lv_at hl 0 rfl) ?_
    refine fg9_46 hB hW tl139 wd5_125 dX9_remembers_42 ?_
    refine lv_iadd hx hb dX9_remembers_45 ?_
    refine lv_iconst (v := (1 : Int32)) hx hb dX9_remembers_46 (by decide) ?_
    refine lv_isub hx hb dX9_remembers_47 ?_
    refine lv_bipush (v := (8 : Int32)) hx hb dX9_remembers_48 (by decide) ?_
    refine lv_irem hx hb dX9_remembers_50 (by decide) ?_
    refine lv_iadd hx hb dX9_remembers_51 ?_
    refine lv_iconst (v := (1 : Int32)) hx hb dX9_remembers_52 (by decide) ?_
    obtain ⟨M3, hg4, hf⟩ := b_o1 hf
    refine x_cv hB (x_rv hB hW hS (As := [.int ((3 : Int32) + (irm (((gi M5 139 45) + (gi M5 139 46)) - (1 : Int32)) (8 : Int32))), .int (1 : Int32)]) (rest := []) (ct_X9_passesAll l G hg4) (cl_RX9_281 hB.2.2.2.2.1 ⟨Nat.le_of_ble_eq_true rfl, Nat.le_of_ble_eq_true rfl⟩) tl139 (by decide) rfl rfl hl.1 rfl (Nat.le_of_ble_eq_true rfl) dX9_remembers_53 ⟨Nat.le_refl _, Nat.le_refl _⟩) hS (fun H locs hW hS => ?_)
    exact e_v hB hW hS hr hlk (Option.some.inj hf) dX9_remembers_56
  have hf := hR
  refine lv_icmp_ne (tgt := 25) hx hb dX9_remembers_6 (by decide) (fun c6 => ?_) (fun c6 => ?_)
  · have hf := i_f hf c6
    refine lv_aload_n hx hb dX9_remembers_25 rfl (lv_at hl 0 rfl) ?_
    refine lv_dup hx hb dX9_remembers_26 rfl ?_
    refine fg9_46 hB hW tl139 wd5_125 dX9_remembers_27 ?_
    refine lv_iconst (v := (1 : Int32)) hx hb dX9_remembers_30 (by decide) ?_
    refine lv_iadd hx hb dX9_remembers_31 ?_
    refine fp9_46 hB hW hS tl139 wd5_125 dX9_remembers_32 (fun H locs M7 eM7 hW hS => ?_)
    have hf := nm_o hf eM7
    exact main2 M7 _ _ ls hW hS (lv_sub hl [0] rfl) hf
  · have hf := i_t hf c6
    refine lv_aload_n hx hb dX9_remembers_9 rfl (lv_at hl 0 rfl) ?_
    refine lv_aload_n hx hb dX9_remembers_10 rfl (lv_at hl 0 rfl) ?_
    refine fg9_45 hB hW tl139 wd5_124 dX9_remembers_11 ?_
    refine lv_iconst (v := (1 : Int32)) hx hb dX9_remembers_14 (by decide) ?_
    refine lv_iadd hx hb dX9_remembers_15 ?_
    refine lv_bipush (v := (8 : Int32)) hx hb dX9_remembers_16 (by decide) ?_
    refine lv_irem hx hb dX9_remembers_18 (by decide) ?_
    refine fp9_45 hB hW hS tl139 wd5_124 dX9_remembers_19 (fun H locs M8 eM8 hW hS => ?_)
    have hf := nm_o hf eM8
    refine lv_goto (tgt := 35) hx hb dX9_remembers_22 (by decide) ?_
    exact main2 M8 _ _ ls hW hS (lv_sub hl [0] rfl) hf
def f_X9_back (M : Mem) : Option (Int32 × Mem) := (if (gi M 139 46) = 0 then (bq2 (f_X9_no (-3 : Int32) M) (fun (x5 : Int32) (M6 : Mem) => some (x5, M6))) else (bq1 (f_X9_passesAll ((3 : Int32) + (irm (((gi M 139 45) + (gi M 139 46)) - (1 : Int32)) (8 : Int32))) (0 : Int32) M) (fun (M2 : Mem) => nmq (si M2 139 46 ((gi M2 139 46) - (1 : Int32))) (fun (M4 : Mem) => some ((gi M4 139 46), M4)))))
set_option maxHeartbeats 4000000 in
set_option maxRecDepth 100000 in
theorem ct_X9_back (l : Launch) (G : GG)  {M : Mem} {r : Int32} {Mr : Mem}  (hf : f_X9_back M = some (r, Mr)) : Met l yX9_back (wsq yX9_back cX9_back 1 (some .int)) (rmq 2 44) (va_Pc [.ref (G.2.2.1 139)] (World G M)) (Qi G r Mr) 0 0 (adA G) := by
  refine x_start (plainFor_of_name (by decide)) (Nat.le_of_ble_eq_true rfl) ?_
  intro p e s m args below meth c hB hr hlk hW hS ls hl
  have hx := hB.x
  have hb := hB.b
  have hl : lv_has ls 1 [(0, .ref (G.2.2.1 139))] := hl
  unfold f_X9_back at hf
  refine lv_aload_n hx hb dX9_back_0 rfl (lv_at hl 0 rfl) ?_
  refine fg9_46 hB hW tl139 wd5_125 dX9_back_1 ?_
  refine lv_if_ne (tgt := 14) hx hb dX9_back_4 (by decide) (fun c1 => ?_) (fun c1 => ?_)
  · have hf := i_f hf c1
    refine lv_aload_n hx hb dX9_back_14 rfl (lv_at hl 0 rfl) ?_
    refine lv_iconst (v := (3 : Int32)) hx hb dX9_back_15 (by decide) ?_
    refine lv_aload_n hx hb dX9_back_16 rfl (lv_at hl 0 rfl) ?_
    refine fg9_45 hB hW tl139 wd5_124 dX9_back_17 ?_
    refine lv_aload_n hx hb dX9_back_20 rfl (lv_at hl 0 rfl) ?_
    refine fg9_46 hB hW tl139 wd5_125 dX9_back_21 ?_
    refine lv_iadd hx hb dX9_back_24 ?_
    refine lv_iconst (v := (1 : Int32)) hx hb dX9_back_25 (by decide) ?_
    refine lv_isub hx hb dX9_back_26 ?_
    refine lv_bipush (v := (8 : Int32)) hx hb dX9_back_27 (by decide) ?_
    refine lv_irem hx hb dX9_back_29 (by decide) ?_
    refine lv_iadd hx hb dX9_back_30 ?_
    refine lv_iconst (v := (0 : Int32)) hx hb dX9_back_31 (by decide) ?_
    obtain ⟨M2, hg3, hf⟩ := b_o1 hf
    refine x_cv hB (x_rv hB hW hS (As := [.int ((3 : Int32) + (irm (((gi M 139 45) + (gi M 139 46)) - (1 : Int32)) (8 : Int32))), .int (0 : Int32)]) (rest := []) (ct_X9_passesAll l G hg3) (cl_RX9_281 hB.2.2.2.2.1 ⟨Nat.le_of_ble_eq_true rfl, Nat.le_of_ble_eq_true rfl⟩) tl139 (by decide) rfl rfl hl.1 rfl (Nat.le_of_ble_eq_true rfl) dX9_back_32 ⟨Nat.le_refl _, Nat.le_refl _⟩) hS (fun H locs hW hS => ?_)
    refine lv_aload_n hx hb dX9_back_35 rfl (lv_at hl 0 rfl) ?_
    refine lv_dup hx hb dX9_back_36 rfl ?_
    refine fg9_46 hB hW tl139 wd5_125 dX9_back_37 ?_
    refine lv_iconst (v := (1 : Int32)) hx hb dX9_back_40 (by decide) ?_
    refine lv_isub hx hb dX9_back_41 ?_
    refine fp9_46 hB hW hS tl139 wd5_125 dX9_back_42 (fun H locs M4 eM4 hW hS => ?_)
    have hf := nm_o hf eM4
    refine lv_aload_n hx hb dX9_back_45 rfl (lv_at hl 0 rfl) ?_
    refine fg9_46 hB hW tl139 wd5_125 dX9_back_46 ?_
    exact e_i hB hW hS hr hlk (s_1 hf) (s_2 hf) dX9_back_49
  · have hf := i_t hf c1
    refine lv_aload_n hx hb dX9_back_7 rfl (lv_at hl 0 rfl) ?_
    refine lv_bipush (v := (-3 : Int32)) hx hb dX9_back_8 (by decide) ?_
    obtain ⟨x5, M6, hg7, hf⟩ := b_o2 hf
    refine x_ci hB (x_rv hB hW hS (As := [.int (-3 : Int32)]) (rest := []) (ct_X9_no l G hg7) (cl_RX9_224 hB.2.2.2.2.1 ⟨Nat.le_of_ble_eq_true rfl, Nat.le_of_ble_eq_true rfl⟩) tl139 (by decide) rfl rfl hl.1 rfl (Nat.le_of_ble_eq_true rfl) dX9_back_10 ⟨Nat.le_refl _, Nat.le_refl _⟩) hS (fun H locs hW hS => ?_)
    exact e_i hB hW hS hr hlk (s_1 hf) (s_2 hf) dX9_back_13
def f_X9_image (M : Mem) : Option (Int32 × Mem) := (nmq (si M 139 42 (1 : Int32)) (fun (M1 : Mem) => bq1 (f_X9_passesAll (0 : Int32) (1 : Int32) M1) (fun (M2 : Mem) => some ((gi M2 139 9), M2))))
set_option maxHeartbeats 4000000 in
set_option maxRecDepth 100000 in
theorem ct_X9_image (l : Launch) (G : GG)  {M : Mem} {r : Int32} {Mr : Mem}  (hf : f_X9_image M = some (r, Mr)) : Met l yX9_image (wsq yX9_image cX9_image 1 (some .int)) (rmq 2 44) (va_Pc [.ref (G.2.2.1 139)] (World G M)) (Qi G r Mr) 0 0 (adA G) := by
  refine x_start (plainFor_of_name (by decide)) (Nat.le_of_ble_eq_true rfl) ?_
  intro p e s m args below meth c hB hr hlk hW hS ls hl
  have hx := hB.x
  have hb := hB.b
  have hl : lv_has ls 1 [(0, .ref (G.2.2.1 139))] := hl
  unfold f_X9_image at hf
  refine lv_aload_n hx hb dX9_image_0 rfl (lv_at hl 0 rfl) ?_
  refine lv_iconst (v := (1 : Int32)) hx hb dX9_image_1 (by decide) ?_
  refine fp9_42 hB hW hS tl139 (by decide) wd5_121 dX9_image_2 (fun H locs M1 eM1 hW hS => ?_)
  have hf := nm_o hf eM1
  refine lv_aload_n hx hb dX9_image_5 rfl (lv_at hl 0 rfl) ?_
  refine lv_iconst (v := (0 : Int32)) hx hb dX9_image_6 (by decide) ?_
  refine lv_iconst (v := (1 : Int32)) hx hb dX9_image_7 (by decide) ?_
  obtain ⟨M2, hg3, hf⟩ := b_o1 hf
  refine x_cv hB (x_rv hB hW hS (As := [.int (0 : Int32), .int (1 : Int32)]) (rest := []) (ct_X9_passesAll l G hg3) (cl_RX9_281 hB.2.2.2.2.1 ⟨Nat.le_of_ble_eq_true rfl, Nat.le_of_ble_eq_true rfl⟩) tl139 (by decide) rfl rfl hl.1 rfl (Nat.le_of_ble_eq_true rfl) dX9_image_8 ⟨Nat.le_refl _, Nat.le_refl _⟩) hS (fun H locs hW hS => ?_)
  refine lv_aload_n hx hb dX9_image_11 rfl (lv_at hl 0 rfl) ?_
  refine fg9_9 hB hW tl139 wd5_88 dX9_image_12 ?_
  exact e_i hB hW hS hr hlk (s_1 hf) (s_2 hf) dX9_image_15
def f_X9_on (M : Mem) : Option (Int32 × Mem) := (if (gi M 139 42) = 0 then (bq2 (f_X9_no (-3 : Int32) M) (fun (x5 : Int32) (M6 : Mem) => some (x5, M6))) else (bq1 (f_X9_passesAll (0 : Int32) (0 : Int32) M) (fun (M2 : Mem) => nmq (si M2 139 46 (0 : Int32)) (fun (M4 : Mem) => some ((gi M4 139 9), M4)))))
set_option maxHeartbeats 4000000 in
set_option maxRecDepth 100000 in
theorem ct_X9_on (l : Launch) (G : GG)  {M : Mem} {r : Int32} {Mr : Mem}  (hf : f_X9_on M = some (r, Mr)) : Met l yX9_on (wsq yX9_on cX9_on 1 (some .int)) (rmq 2 44) (va_Pc [.ref (G.2.2.1 139)] (World G M)) (Qi G r Mr) 0 0 (adA G) := by
  refine x_start (plainFor_of_name (by decide)) (Nat.le_of_ble_eq_true rfl) ?_
  intro p e s m args below meth c hB hr hlk hW hS ls hl
  have hx := hB.x
  have hb := hB.b
  have hl : lv_has ls 1 [(0, .ref (G.2.2.1 139))] := hl
  unfold f_X9_on at hf
  refine lv_aload_n hx hb dX9_on_0 rfl (lv_at hl 0 rfl) ?_
  refine fg9_42 hB hW tl139 wd5_121 dX9_on_1 ?_
  refine lv_if_ne (tgt := 14) hx hb dX9_on_4 (by decide) (fun c1 => ?_) (fun c1 => ?_)
  · have hf := i_f hf c1
    refine lv_aload_n hx hb dX9_on_14 rfl (lv_at hl 0 rfl) ?_
    refine lv_iconst (v := (0 : Int32)) hx hb dX9_on_15 (by decide) ?_
    refine lv_iconst (v := (0 : Int32)) hx hb dX9_on_16 (by decide) ?_
    obtain ⟨M2, hg3, hf⟩ := b_o1 hf
    refine x_cv hB (x_rv hB hW hS (As := [.int (0 : Int32), .int (0 : Int32)]) (rest := []) (ct_X9_passesAll l G hg3) (cl_RX9_281 hB.2.2.2.2.1 ⟨Nat.le_of_ble_eq_true rfl, Nat.le_of_ble_eq_true rfl⟩) tl139 (by decide) rfl rfl hl.1 rfl (Nat.le_of_ble_eq_true rfl) dX9_on_17 ⟨Nat.le_refl _, Nat.le_refl _⟩) hS (fun H locs hW hS => ?_)
    refine lv_aload_n hx hb dX9_on_20 rfl (lv_at hl 0 rfl) ?_
    refine lv_iconst (v := (0 : Int32)) hx hb dX9_on_21 (by decide) ?_
    refine fp9_46 hB hW hS tl139 wd5_125 dX9_on_22 (fun H locs M4 eM4 hW hS => ?_)
    have hf := nm_o hf eM4
    refine lv_aload_n hx hb dX9_on_25 rfl (lv_at hl 0 rfl) ?_
    refine fg9_9 hB hW tl139 wd5_88 dX9_on_26 ?_
    exact e_i hB hW hS hr hlk (s_1 hf) (s_2 hf) dX9_on_29
  · have hf := i_t hf c1
    refine lv_aload_n hx hb dX9_on_7 rfl (lv_at hl 0 rfl) ?_
    refine lv_bipush (v := (-3 : Int32)) hx hb dX9_on_8 (by decide) ?_
    obtain ⟨x5, M6, hg7, hf⟩ := b_o2 hf
    refine x_ci hB (x_rv hB hW hS (As := [.int (-3 : Int32)]) (rest := []) (ct_X9_no l G hg7) (cl_RX9_224 hB.2.2.2.2.1 ⟨Nat.le_of_ble_eq_true rfl, Nat.le_of_ble_eq_true rfl⟩) tl139 (by decide) rfl rfl hl.1 rfl (Nat.le_of_ble_eq_true rfl) dX9_on_10 ⟨Nat.le_refl _, Nat.le_refl _⟩) hS (fun H locs hW hS => ?_)
    exact e_i hB hW hS hr hlk (s_1 hf) (s_2 hf) dX9_on_13
theorem cl_RX9_311 {R : Room} {s : State} {args : Array Value} (ht : ∀ w ∈ lw_all, w.before args s = true) (hR : 1 + 1 ≤ R.frames ∧ 8 + (1 + 11) + 22 ≤ R.locals) : CallB R s args RX9 311 yX9_isLetter cX9_isLetter 1 (some .boolean) (wsq yX9_isLetter cX9_isLetter 1 (some .boolean)) (rmq 1 22) 0 0 1 ∧ (Cond.static yX9_isLetter).before args s = true := va_cwS 1 ht (goodS wd6_108 wd6_109 wd1_10 wd6_110) rfl rfl rfl (by decide +kernel) hR
theorem cl_RX9_314 {R : Room} {s : State} {args : Array Value} (ht : ∀ w ∈ lw_all, w.before args s = true) (hR : 2 + 1 ≤ R.frames ∧ 8 + (1 + 11) + 44 ≤ R.locals) : CallW R s args RX9 RX9 314 yX9_remembers cX9_remembers 1 none (wsq yX9_remembers cX9_remembers 1 none) (rmq 2 44) 0 0 0 := cwV 0 ht (goodV wd6_111 wd6_113 wsel_55 wd1_10 wd6_114) rfl rfl rfl (by decide +kernel) hR
def f_X9_widens (p1 : Int32) (p2 : Int32) (M : Mem) : Option (Int32 × Mem) := (bq1 (f_X9_isLetter p1) (fun (x1 : Int32) => (bq1 ((if x1 = 0 then (some ((-1 : Int32))) else (bq1 (f_X9_bound p2 (2 : Int32) (9 : Int32)) (fun (x17 : Int32) => (some (x17))))) : Option (Int32)) (fun (x3 : Int32) => (if x3 = 0 then (bq1 (f_X9_remembers M) (fun (M6 : Mem) => gq (inB p1 8) (nmq ((gi M6 141 ((p1 : Int32).toNatClampNeg))) (fun (x9 : Int32) => gq (inB p1 8) (nmq (si M6 141 ((p1 : Int32).toNatClampNeg) p2) (fun (M11 : Mem) => some (x9, M11))))))) else (bq2 (f_X9_no x3 M) (fun (x12 : Int32) (M13 : Mem) => some (x12, M13))))))))
set_option maxHeartbeats 4000000 in
set_option maxRecDepth 100000 in
theorem ct_X9_widens (l : Launch) (G : GG) {p1 : Int32} {p2 : Int32} {M : Mem} {r : Int32} {Mr : Mem}  (hf : f_X9_widens p1 p2 M = some (r, Mr)) : Met l yX9_widens (wsq yX9_widens cX9_widens 5 (some .int)) (rmq 3 64) (va_Pc [.ref (G.2.2.1 139), .int p1, .int p2] (World G M)) (Qi G r Mr) 0 0 (adA G) := by
  refine x_start (plainFor_of_name (by decide)) (Nat.le_of_ble_eq_true rfl) ?_
  intro p e s m args below meth c hB hr hlk hW hS ls hl
  have hx := hB.x
  have hb := hB.b
  have hl : lv_has ls 5 [(0, .ref (G.2.2.1 139)), (1, .int p1), (2, .int p2)] := hl
  unfold f_X9_widens at hf
  refine lv_iload_n hx hb dX9_widens_0 rfl (lv_at hl 1 rfl) ?_
  obtain ⟨x1, hg2, hf⟩ := b_o1 hf
  refine x_ci hB (x_rs hB hW hS (As := [.int p1]) (rest := []) (ct_X9_isLetter l G hg2) (cl_RX9_311 hB.2.2.2.2.1 ⟨Nat.le_of_ble_eq_true rfl, Nat.le_of_ble_eq_true rfl⟩) rfl hl.1 rfl (Nat.le_of_ble_eq_true rfl) dX9_widens_1 ⟨Nat.le_refl _, Nat.le_refl _⟩) hS (fun H locs hW hS => ?_)
  obtain ⟨y15, hR, hf⟩ := b_o1 hf
  have main4 : ∀ (x3 : Int32) (H : Heap) (locs : List Loc) (ls : Array Slot), Wd G M H → va_S (adA G) s.heap H locs → lv_has ls 5 [(0, .ref (G.2.2.1 139)), (1, .int p1), (2, .int p2)] → some (x3) = some (y15) → W p l e (rmq 3 64) s m args below meth c H locs 0 0 (MQ below (Qi G r Mr) args s 0 0 (adA G)) (F0 m 18 ls [.int x3]) := by
    intro x3 H locs ls hW hS hl hE
    cases hE
    refine lv_istore_n (lv' := [(3, .int y15), (0, .ref (G.2.2.1 139)), (1, .int p1), (2, .int p2)]) hx hb dX9_widens_18 rfl hl (by decide) rfl (fun ls hl => ?_)
    refine lv_iload_n hx hb dX9_widens_19 rfl (lv_at hl 0 rfl) ?_
    refine lv_if_eq (tgt := 29) hx hb dX9_widens_20 (by decide) (fun c5 => ?_) (fun c5 => ?_)
    · have hf := i_t hf c5
      refine lv_aload_n hx hb dX9_widens_29 rfl (lv_at hl 1 rfl) ?_
      obtain ⟨M6, hg7, hf⟩ := b_o1 hf
      refine x_cv hB (x_rv hB hW hS (As := []) (rest := []) (ct_X9_remembers l G hg7) (cl_RX9_314 hB.2.2.2.2.1 ⟨Nat.le_of_ble_eq_true rfl, Nat.le_of_ble_eq_true rfl⟩) tl139 (by decide) rfl rfl hl.1 rfl (Nat.le_of_ble_eq_true rfl) dX9_widens_30 ⟨Nat.le_refl _, Nat.le_refl _⟩) hS (fun H locs hW hS => ?_)
      refine lv_aload_n hx hb dX9_widens_33 rfl (lv_at hl 1 rfl) ?_
      refine fg9_1 hB hW tl139 wd5_80 dX9_widens_34 ?_
      refine lv_iload_n hx hb dX9_widens_37 rfl (lv_at hl 2 rfl) ?_
      obtain ⟨h8, hf⟩ := g_o hf
      refine x_iald hB hW tl141 al141 h8 dX9_widens_38 ?_
      refine lv_topi (fun x9 ex9 => ?_)
      have hf := nm_o hf ex9
      refine lv_istore (lv' := [(4, .int x9), (3, .int y15), (0, .ref (G.2.2.1 139)), (1, .int p1), (2, .int p2)]) hx hb dX9_widens_39 hl (by decide) rfl (fun ls hl => ?_)
      refine lv_aload_n hx hb dX9_widens_41 rfl (lv_at hl 2 rfl) ?_
      refine fg9_1 hB hW tl139 wd5_80 dX9_widens_42 ?_
      refine lv_iload_n hx hb dX9_widens_45 rfl (lv_at hl 3 rfl) ?_
      refine lv_iload_n hx hb dX9_widens_46 rfl (lv_at hl 4 rfl) ?_
      obtain ⟨h10, hf⟩ := g_o hf
      refine x_i hB hW hS tl141 al141 h10 dX9_widens_47 (fun H locs M11 eM11 hW hS => ?_)
      have hf := nm_o hf eM11
      refine lv_iload hx hb dX9_widens_48 (lv_at hl 0 rfl) ?_
      exact e_i hB hW hS hr hlk (s_1 hf) (s_2 hf) dX9_widens_50
    · have hf := i_f hf c5
      refine lv_aload_n hx hb dX9_widens_23 rfl (lv_at hl 1 rfl) ?_
      refine lv_iload_n hx hb dX9_widens_24 rfl (lv_at hl 0 rfl) ?_
      obtain ⟨x12, M13, hg14, hf⟩ := b_o2 hf
      refine x_ci hB (x_rv hB hW hS (As := [.int y15]) (rest := []) (ct_X9_no l G hg14) (cl_RX9_224 hB.2.2.2.2.1 ⟨Nat.le_of_ble_eq_true rfl, Nat.le_of_ble_eq_true rfl⟩) tl139 (by decide) rfl rfl hl.1 rfl (Nat.le_of_ble_eq_true rfl) dX9_widens_25 ⟨Nat.le_refl _, Nat.le_refl _⟩) hS (fun H locs hW hS => ?_)
      exact e_i hB hW hS hr hlk (s_1 hf) (s_2 hf) dX9_widens_28
  have hf := hR
  refine lv_if_ne (tgt := 11) hx hb dX9_widens_4 (by decide) (fun c16 => ?_) (fun c16 => ?_)
  · have hf := i_f hf c16
    refine lv_iload_n hx hb dX9_widens_11 rfl (lv_at hl 2 rfl) ?_
    refine lv_iconst (v := (2 : Int32)) hx hb dX9_widens_12 (by decide) ?_
    refine lv_bipush (v := (9 : Int32)) hx hb dX9_widens_13 (by decide) ?_
    obtain ⟨x17, hg18, hf⟩ := b_o1 hf
    refine x_ci hB (x_rs hB hW hS (As := [.int p2, .int (2 : Int32), .int (9 : Int32)]) (rest := []) (ct_X9_bound l G hg18) (cl_RX9_217 hB.2.2.2.2.1 ⟨Nat.le_of_ble_eq_true rfl, Nat.le_of_ble_eq_true rfl⟩) rfl hl.1 rfl (Nat.le_of_ble_eq_true rfl) dX9_widens_15 ⟨Nat.le_refl _, Nat.le_refl _⟩) hS (fun H locs hW hS => ?_)
    exact main4 x17 _ _ ls hW hS (lv_sub hl [0, 1, 2] rfl) hf
  · have hf := i_t hf c16
    refine lv_iconst (v := (-1 : Int32)) hx hb dX9_widens_7 (by decide) ?_
    refine lv_goto (tgt := 18) hx hb dX9_widens_8 (by decide) ?_
    exact main4 (-1 : Int32) _ _ ls hW hS (lv_sub hl [0, 1, 2] rfl) hf
