def f_X9_isLetterOrNone (p1 : Int32) : Option Int32 := (bq1 (f_X9_isIn p1 (-1 : Int32) (7 : Int32)) (fun (x1 : Int32) => gq (zB x1) (some x1)))
set_option maxHeartbeats 4000000 in
set_option maxRecDepth 100000 in
theorem ct_X9_isLetterOrNone (l : Launch) (G : GG) {p1 : Int32} {M : Mem} {r : Int32}  (hf : f_X9_isLetterOrNone p1 = some r) : Met l yX9_isLetterOrNone (wsq yX9_isLetterOrNone cX9_isLetterOrNone 1 (some .boolean)) (rmq 1 22) (va_Pc [.int p1] (World G M)) (Qi G r M) 0 0 (adA G) := by
  refine x_start (plainFor_of_name (by decide)) (Nat.le_of_ble_eq_true rfl) ?_
  intro p e s m args below meth c hB hr hlk hW hS ls hl
  have hx := hB.x
  have hb := hB.b
  have hl : lv_has ls 1 [(0, .int p1)] := hl
  unfold f_X9_isLetterOrNone at hf
  refine lv_iload_n hx hb dX9_isLetterOrNone_0 rfl (lv_at hl 0 rfl) ?_
  refine lv_iconst (v := (-1 : Int32)) hx hb dX9_isLetterOrNone_1 (by decide) ?_
  refine lv_bipush (v := (7 : Int32)) hx hb dX9_isLetterOrNone_2 (by decide) ?_
  obtain ⟨x1, hg2, hf⟩ := b_o1 hf
  refine x_ci hB (x_rs hB hW hS (As := [.int p1, .int (-1 : Int32), .int (7 : Int32)]) (rest := []) (ct_X9_isIn l G hg2) (cl_RX9_125 hB.2.2.2.2.1 ⟨Nat.le_of_ble_eq_true rfl, Nat.le_of_ble_eq_true rfl⟩) rfl hl.1 rfl (Nat.le_of_ble_eq_true rfl) dX9_isLetterOrNone_4 ⟨Nat.le_refl _, Nat.le_refl _⟩) hS (fun H locs hW hS => ?_)
  obtain ⟨h3, hf⟩ := g_o hf
  exact e_z h3 hB hW hS hr hlk (Option.some.inj hf) rfl dX9_isLetterOrNone_7
theorem cl_RX9_317 {R : Room} {s : State} {args : Array Value} (ht : ∀ w ∈ lw_all, w.before args s = true) (hR : 1 + 1 ≤ R.frames ∧ 8 + (1 + 11) + 22 ≤ R.locals) : CallB R s args RX9 317 yX9_isLetterOrNone cX9_isLetterOrNone 1 (some .boolean) (wsq yX9_isLetterOrNone cX9_isLetterOrNone 1 (some .boolean)) (rmq 1 22) 0 0 1 ∧ (Cond.static yX9_isLetterOrNone).before args s = true := va_cwS 1 ht (goodS wd6_119 wd6_120 wd1_10 wd6_121) rfl rfl rfl (by decide +kernel) hR
def f_X9_adds (p1 : Int32) (p2 : Int32) (p3 : Int32) (M : Mem) : Option (Int32 × Mem) := (bq1 (f_X9_isLetter p1) (fun (x1 : Int32) => (bq1 ((if x1 = 0 then (some ((0 : Int32))) else (bq1 (f_X9_isLetterOrNone p2) (fun (x34 : Int32) => (if x34 = 0 then (some ((0 : Int32))) else (bq1 (f_X9_isLetterOrNone p3) (fun (x37 : Int32) => (if x37 = 0 then (some ((0 : Int32))) else (if 0 ≤ p2 then (some ((1 : Int32))) else (if 0 ≤ p3 then (some ((0 : Int32))) else (some ((1 : Int32)))))))))))) : Option (Int32)) (fun (x3 : Int32) => (nmq ((if x3 = 0 then ((-1 : Int32)) else (if (gi M 139 9) = (16 : Int32) then ((-6 : Int32)) else ((0 : Int32))))) (fun (x5 : Int32) => (if x5 = 0 then (bq1 (f_X9_remembers M) (fun (M8 : Mem) => (nmq ((if 0 ≤ p2 then (if 0 ≤ p3 then ((3 : Int32)) else ((2 : Int32))) else ((1 : Int32)))) (fun (x10 : Int32) => (gq (inB (gi M8 139 9) 16) (nmq (si M8 142 (((gi M8 139 9) : Int32).toNatClampNeg) x10) (fun (M13 : Mem) => gq (inB ((12 : Int32) * (gi M13 139 9)) 192) (nmq (si M13 143 ((((12 : Int32) * (gi M13 139 9)) : Int32).toNatClampNeg) p1) (fun (M15 : Mem) => gq (inB (((12 : Int32) * (gi M15 139 9)) + (1 : Int32)) 192) (nmq (si M15 143 (((((12 : Int32) * (gi M15 139 9)) + (1 : Int32)) : Int32).toNatClampNeg) p2) (fun (M17 : Mem) => gq (inB (((12 : Int32) * (gi M17 139 9)) + (2 : Int32)) 192) (nmq (si M17 143 (((((12 : Int32) * (gi M17 139 9)) + (2 : Int32)) : Int32).toNatClampNeg) p3) (fun (M19 : Mem) => gq (inB (gi M19 139 9) 16) (nmq (si M19 144 (((gi M19 139 9) : Int32).toNatClampNeg) (0 : Int32)) (fun (M21 : Mem) => nmq (si M21 139 9 ((gi M21 139 9) + (1 : Int32))) (fun (M22 : Mem) => some (((gi M22 139 9) - (1 : Int32)), M22))))))))))))))))) else (bq2 (f_X9_no x5 M) (fun (x26 : Int32) (M27 : Mem) => some (x26, M27))))))))))
set_option maxHeartbeats 4000000 in
set_option maxRecDepth 100000 in
theorem ct_X9_adds (l : Launch) (G : GG) {p1 : Int32} {p2 : Int32} {p3 : Int32} {M : Mem} {r : Int32} {Mr : Mem}  (hf : f_X9_adds p1 p2 p3 M = some (r, Mr)) : Met l yX9_adds (wsq yX9_adds cX9_adds 6 (some .int)) (rmq 3 64) (va_Pc [.ref (G.2.2.1 139), .int p1, .int p2, .int p3] (World G M)) (Qi G r Mr) 0 0 (adA G) := by
  refine x_start (plainFor_of_name (by decide)) (Nat.le_of_ble_eq_true rfl) ?_
  intro p e s m args below meth c hB hr hlk hW hS ls hl
  have hx := hB.x
  have hb := hB.b
  have hl : lv_has ls 6 [(0, .ref (G.2.2.1 139)), (1, .int p1), (2, .int p2), (3, .int p3)] := hl
  unfold f_X9_adds at hf
  refine lv_iload_n hx hb dX9_adds_0 rfl (lv_at hl 1 rfl) ?_
  obtain ⟨x1, hg2, hf⟩ := b_o1 hf
  refine x_ci hB (x_rs hB hW hS (As := [.int p1]) (rest := []) (ct_X9_isLetter l G hg2) (cl_RX9_311 hB.2.2.2.2.1 ⟨Nat.le_of_ble_eq_true rfl, Nat.le_of_ble_eq_true rfl⟩) rfl hl.1 rfl (Nat.le_of_ble_eq_true rfl) dX9_adds_1 ⟨Nat.le_refl _, Nat.le_refl _⟩) hS (fun H locs hW hS => ?_)
  obtain ⟨y32, hR, hf⟩ := b_o1 hf
  have main4 : ∀ (x3 : Int32) (H : Heap) (locs : List Loc) (ls : Array Slot), Wd G M H → va_S (adA G) s.heap H locs → lv_has ls 6 [(0, .ref (G.2.2.1 139)), (1, .int p1), (2, .int p2), (3, .int p3)] → some (x3) = some (y32) → W p l e (rmq 3 64) s m args below meth c H locs 0 0 (MQ below (Qi G r Mr) args s 0 0 (adA G)) (F0 m 34 ls [.int x3]) := by
    intro x3 H locs ls hW hS hl hE
    cases hE
    refine lv_istore (lv' := [(4, .int y32), (0, .ref (G.2.2.1 139)), (1, .int p1), (2, .int p2), (3, .int p3)]) hx hb dX9_adds_34 hl (by decide) rfl (fun ls hl => ?_)
    refine lv_iload hx hb dX9_adds_36 (lv_at hl 0 rfl) ?_
    obtain ⟨y29, evy29⟩ : ∃ z : Int32, (if y32 = 0 then ((-1 : Int32)) else (if (gi M 139 9) = (16 : Int32) then ((-6 : Int32)) else ((0 : Int32)))) = z := ⟨_, rfl⟩
    have hf := nm_o hf evy29.symm
    have main6 : ∀ (x5 : Int32) (H : Heap) (locs : List Loc) (ls : Array Slot), Wd G M H → va_S (adA G) s.heap H locs → lv_has ls 6 [(0, .ref (G.2.2.1 139)), (1, .int p1), (2, .int p2), (3, .int p3)] → x5 = y29 → W p l e (rmq 3 64) s m args below meth c H locs 0 0 (MQ below (Qi G r Mr) args s 0 0 (adA G)) (F0 m 60 ls [.int x5]) := by
      intro x5 H locs ls hW hS hl hE
      have hE := hE.symm
      subst hE
      refine lv_istore (lv' := [(5, .int y29), (0, .ref (G.2.2.1 139)), (1, .int p1), (2, .int p2), (3, .int p3)]) hx hb dX9_adds_60 hl (by decide) rfl (fun ls hl => ?_)
      refine lv_iload hx hb dX9_adds_62 (lv_at hl 0 rfl) ?_
      refine lv_if_eq (tgt := 74) hx hb dX9_adds_64 (by decide) (fun c7 => ?_) (fun c7 => ?_)
      · have hf := i_t hf c7
        refine lv_aload_n hx hb dX9_adds_74 rfl (lv_at hl 1 rfl) ?_
        obtain ⟨M8, hg9, hf⟩ := b_o1 hf
        refine x_cv hB (x_rv hB hW hS (As := []) (rest := []) (ct_X9_remembers l G hg9) (cl_RX9_314 hB.2.2.2.2.1 ⟨Nat.le_of_ble_eq_true rfl, Nat.le_of_ble_eq_true rfl⟩) tl139 (by decide) rfl rfl hl.1 rfl (Nat.le_of_ble_eq_true rfl) dX9_adds_75 ⟨Nat.le_refl _, Nat.le_refl _⟩) hS (fun H locs hW hS => ?_)
        refine lv_aload_n hx hb dX9_adds_78 rfl (lv_at hl 1 rfl) ?_
        refine fg9_2 hB hW tl139 wd5_81 dX9_adds_79 ?_
        refine lv_aload_n hx hb dX9_adds_82 rfl (lv_at hl 1 rfl) ?_
        refine fg9_9 hB hW tl139 wd5_88 dX9_adds_83 ?_
        refine lv_iload_n hx hb dX9_adds_86 rfl (lv_at hl 3 rfl) ?_
        obtain ⟨y23, evy23⟩ : ∃ z : Int32, (if 0 ≤ p2 then (if 0 ≤ p3 then ((3 : Int32)) else ((2 : Int32))) else ((1 : Int32))) = z := ⟨_, rfl⟩
        have hf := nm_o hf evy23.symm
        have main11 : ∀ (x10 : Int32) (H : Heap) (locs : List Loc) (ls : Array Slot), Wd G M8 H → va_S (adA G) s.heap H locs → lv_has ls 6 [(0, .ref (G.2.2.1 139)), (1, .int p1), (2, .int p2), (3, .int p3)] → x10 = y23 → W p l e (rmq 3 64) s m args below meth c H locs 0 0 (MQ below (Qi G r Mr) args s 0 0 (adA G)) (F0 m 103 ls [.int x10, .int (gi M8 139 9), .ref (G.2.2.1 142)]) := by
          intro x10 H locs ls hW hS hl hE
          have hE := hE.symm
          subst hE
          obtain ⟨h12, hf⟩ := g_o hf
          refine x_i hB hW hS tl142 al142 h12 dX9_adds_103 (fun H locs M13 eM13 hW hS => ?_)
          have hf := nm_o hf eM13
          refine lv_aload_n hx hb dX9_adds_104 rfl (lv_at hl 0 rfl) ?_
          refine fg9_3 hB hW tl139 wd5_82 dX9_adds_105 ?_
          refine lv_bipush (v := (12 : Int32)) hx hb dX9_adds_108 (by decide) ?_
          refine lv_aload_n hx hb dX9_adds_110 rfl (lv_at hl 0 rfl) ?_
          refine fg9_9 hB hW tl139 wd5_88 dX9_adds_111 ?_
          refine lv_imul hx hb dX9_adds_114 ?_
          refine lv_iload_n hx hb dX9_adds_115 rfl (lv_at hl 1 rfl) ?_
          obtain ⟨h14, hf⟩ := g_o hf
          refine x_i hB hW hS tl143 al143 h14 dX9_adds_116 (fun H locs M15 eM15 hW hS => ?_)
          have hf := nm_o hf eM15
          refine lv_aload_n hx hb dX9_adds_117 rfl (lv_at hl 0 rfl) ?_
          refine fg9_3 hB hW tl139 wd5_82 dX9_adds_118 ?_
          refine lv_bipush (v := (12 : Int32)) hx hb dX9_adds_121 (by decide) ?_
          refine lv_aload_n hx hb dX9_adds_123 rfl (lv_at hl 0 rfl) ?_
          refine fg9_9 hB hW tl139 wd5_88 dX9_adds_124 ?_
          refine lv_imul hx hb dX9_adds_127 ?_
          refine lv_iconst (v := (1 : Int32)) hx hb dX9_adds_128 (by decide) ?_
          refine lv_iadd hx hb dX9_adds_129 ?_
          refine lv_iload_n hx hb dX9_adds_130 rfl (lv_at hl 2 rfl) ?_
          obtain ⟨h16, hf⟩ := g_o hf
          refine x_i hB hW hS tl143 al143 h16 dX9_adds_131 (fun H locs M17 eM17 hW hS => ?_)
          have hf := nm_o hf eM17
          refine lv_aload_n hx hb dX9_adds_132 rfl (lv_at hl 0 rfl) ?_
          refine fg9_3 hB hW tl139 wd5_82 dX9_adds_133 ?_
          refine lv_bipush (v := (12 : Int32)) hx hb dX9_adds_136 (by decide) ?_
          refine lv_aload_n hx hb dX9_adds_138 rfl (lv_at hl 0 rfl) ?_
          refine fg9_9 hB hW tl139 wd5_88 dX9_adds_139 ?_
          refine lv_imul hx hb dX9_adds_142 ?_
          refine lv_iconst (v := (2 : Int32)) hx hb dX9_adds_143 (by decide) ?_
          refine lv_iadd hx hb dX9_adds_144 ?_
          refine lv_iload_n hx hb dX9_adds_145 rfl (lv_at hl 3 rfl) ?_
          obtain ⟨h18, hf⟩ := g_o hf
          refine x_i hB hW hS tl143 al143 h18 dX9_adds_146 (fun H locs M19 eM19 hW hS => ?_)
          have hf := nm_o hf eM19
          refine lv_aload_n hx hb dX9_adds_147 rfl (lv_at hl 0 rfl) ?_
          refine fg9_4 hB hW tl139 wd5_83 dX9_adds_148 ?_
          refine lv_aload_n hx hb dX9_adds_151 rfl (lv_at hl 0 rfl) ?_
          refine fg9_9 hB hW tl139 wd5_88 dX9_adds_152 ?_
          refine lv_iconst (v := (0 : Int32)) hx hb dX9_adds_155 (by decide) ?_
          obtain ⟨h20, hf⟩ := g_o hf
          refine x_i hB hW hS tl144 al144 h20 dX9_adds_156 (fun H locs M21 eM21 hW hS => ?_)
          have hf := nm_o hf eM21
          refine lv_aload_n hx hb dX9_adds_157 rfl (lv_at hl 0 rfl) ?_
          refine lv_dup hx hb dX9_adds_158 rfl ?_
          refine fg9_9 hB hW tl139 wd5_88 dX9_adds_159 ?_
          refine lv_iconst (v := (1 : Int32)) hx hb dX9_adds_162 (by decide) ?_
          refine lv_iadd hx hb dX9_adds_163 ?_
          refine fp9_9 hB hW hS tl139 wd5_88 dX9_adds_164 (fun H locs M22 eM22 hW hS => ?_)
          have hf := nm_o hf eM22
          refine lv_aload_n hx hb dX9_adds_167 rfl (lv_at hl 0 rfl) ?_
          refine fg9_9 hB hW tl139 wd5_88 dX9_adds_168 ?_
          refine lv_iconst (v := (1 : Int32)) hx hb dX9_adds_171 (by decide) ?_
          refine lv_isub hx hb dX9_adds_172 ?_
          exact e_i hB hW hS hr hlk (s_1 hf) (s_2 hf) dX9_adds_173
        have hf := evy23
        refine lv_if_ge (tgt := 94) hx hb dX9_adds_87 (by decide) (fun c24 => ?_) (fun c24 => ?_)
        · have hf := i_t hf c24
          refine lv_iload_n hx hb dX9_adds_94 rfl (lv_at hl 4 rfl) ?_
          refine lv_if_ge (tgt := 102) hx hb dX9_adds_95 (by decide) (fun c25 => ?_) (fun c25 => ?_)
          · have hf := i_t hf c25
            refine lv_iconst (v := (3 : Int32)) hx hb dX9_adds_102 (by decide) ?_
            exact main11 (3 : Int32) _ _ ls hW hS (lv_sub hl [1, 2, 3, 4] rfl) hf
          · have hf := i_f hf c25
            refine lv_iconst (v := (2 : Int32)) hx hb dX9_adds_98 (by decide) ?_
            refine lv_goto (tgt := 103) hx hb dX9_adds_99 (by decide) ?_
            exact main11 (2 : Int32) _ _ ls hW hS (lv_sub hl [1, 2, 3, 4] rfl) hf
        · have hf := i_f hf c24
          refine lv_iconst (v := (1 : Int32)) hx hb dX9_adds_90 (by decide) ?_
          refine lv_goto (tgt := 103) hx hb dX9_adds_91 (by decide) ?_
          exact main11 (1 : Int32) _ _ ls hW hS (lv_sub hl [1, 2, 3, 4] rfl) hf
      · have hf := i_f hf c7
        refine lv_aload_n hx hb dX9_adds_67 rfl (lv_at hl 1 rfl) ?_
        refine lv_iload hx hb dX9_adds_68 (lv_at hl 0 rfl) ?_
        obtain ⟨x26, M27, hg28, hf⟩ := b_o2 hf
        refine x_ci hB (x_rv hB hW hS (As := [.int y29]) (rest := []) (ct_X9_no l G hg28) (cl_RX9_224 hB.2.2.2.2.1 ⟨Nat.le_of_ble_eq_true rfl, Nat.le_of_ble_eq_true rfl⟩) tl139 (by decide) rfl rfl hl.1 rfl (Nat.le_of_ble_eq_true rfl) dX9_adds_70 ⟨Nat.le_refl _, Nat.le_refl _⟩) hS (fun H locs hW hS => ?_)
        exact e_i hB hW hS hr hlk (s_1 hf) (s_2 hf) dX9_adds_73
    have hf := evy29
    refine lv_if_ne (tgt := 45) hx hb dX9_adds_38 (by decide) (fun c30 => ?_) (fun c30 => ?_)
    · have hf := i_f hf c30
      refine lv_aload_n hx hb dX9_adds_45 rfl (lv_at hl 1 rfl) ?_
      refine fg9_9 hB hW tl139 wd5_88 dX9_adds_46 ?_
      refine lv_bipush (v := (16 : Int32)) hx hb dX9_adds_49 (by decide) ?_
      refine lv_icmp_ne (tgt := 59) hx hb dX9_adds_51 (by decide) (fun c31 => ?_) (fun c31 => ?_)
      · have hf := i_f hf c31
        refine lv_iconst (v := (0 : Int32)) hx hb dX9_adds_59 (by decide) ?_
        exact main6 (0 : Int32) _ _ ls hW hS (lv_sub hl [1, 2, 3, 4] rfl) hf
      · have hf := i_t hf c31
        refine lv_bipush (v := (-6 : Int32)) hx hb dX9_adds_54 (by decide) ?_
        refine lv_goto (tgt := 60) hx hb dX9_adds_56 (by decide) ?_
        exact main6 (-6 : Int32) _ _ ls hW hS (lv_sub hl [1, 2, 3, 4] rfl) hf
    · have hf := i_t hf c30
      refine lv_iconst (v := (-1 : Int32)) hx hb dX9_adds_41 (by decide) ?_
      refine lv_goto (tgt := 60) hx hb dX9_adds_42 (by decide) ?_
      exact main6 (-1 : Int32) _ _ ls hW hS (lv_sub hl [1, 2, 3, 4] rfl) hf
  have hf := hR
  refine lv_if_eq (tgt := 33) hx hb dX9_adds_4 (by decide) (fun c33 => ?_) (fun c33 => ?_)
  · have hf := i_t hf c33
    refine lv_iconst (v := (0 : Int32)) hx hb dX9_adds_33 (by decide) ?_
    exact main4 (0 : Int32) _ _ ls hW hS (lv_sub hl [0, 1, 2, 3] rfl) hf
  · have hf := i_f hf c33
    refine lv_iload_n hx hb dX9_adds_7 rfl (lv_at hl 2 rfl) ?_
    obtain ⟨x34, hg35, hf⟩ := b_o1 hf
    refine x_ci hB (x_rs hB hW hS (As := [.int p2]) (rest := []) (ct_X9_isLetterOrNone l G hg35) (cl_RX9_317 hB.2.2.2.2.1 ⟨Nat.le_of_ble_eq_true rfl, Nat.le_of_ble_eq_true rfl⟩) rfl hl.1 rfl (Nat.le_of_ble_eq_true rfl) dX9_adds_8 ⟨Nat.le_refl _, Nat.le_refl _⟩) hS (fun H locs hW hS => ?_)
    refine lv_if_eq (tgt := 33) hx hb dX9_adds_11 (by decide) (fun c36 => ?_) (fun c36 => ?_)
    · have hf := i_t hf c36
      refine lv_iconst (v := (0 : Int32)) hx hb dX9_adds_33 (by decide) ?_
      exact main4 (0 : Int32) _ _ ls hW hS (lv_sub hl [0, 1, 2, 3] rfl) hf
    · have hf := i_f hf c36
      refine lv_iload_n hx hb dX9_adds_14 rfl (lv_at hl 3 rfl) ?_
      obtain ⟨x37, hg38, hf⟩ := b_o1 hf
      refine x_ci hB (x_rs hB hW hS (As := [.int p3]) (rest := []) (ct_X9_isLetterOrNone l G hg38) (cl_RX9_317 hB.2.2.2.2.1 ⟨Nat.le_of_ble_eq_true rfl, Nat.le_of_ble_eq_true rfl⟩) rfl hl.1 rfl (Nat.le_of_ble_eq_true rfl) dX9_adds_15 ⟨Nat.le_refl _, Nat.le_refl _⟩) hS (fun H locs hW hS => ?_)
      refine lv_if_eq (tgt := 33) hx hb dX9_adds_18 (by decide) (fun c39 => ?_) (fun c39 => ?_)
      · have hf := i_t hf c39
        refine lv_iconst (v := (0 : Int32)) hx hb dX9_adds_33 (by decide) ?_
        exact main4 (0 : Int32) _ _ ls hW hS (lv_sub hl [0, 1, 2, 3] rfl) hf
      · have hf := i_f hf c39
        refine lv_iload_n hx hb dX9_adds_21 rfl (lv_at hl 2 rfl) ?_
        refine lv_if_ge (tgt := 29) hx hb dX9_adds_22 (by decide) (fun c40 => ?_) (fun c40 => ?_)
        · have hf := i_t hf c40
          refine lv_iconst (v := (1 : Int32)) hx hb dX9_adds_29 (by decide) ?_
          refine lv_goto (tgt := 34) hx hb dX9_adds_30 (by decide) ?_
          exact main4 (1 : Int32) _ _ ls hW hS (lv_sub hl [0, 1, 2, 3] rfl) hf
        · have hf := i_f hf c40
          refine lv_iload_n hx hb dX9_adds_25 rfl (lv_at hl 3 rfl) ?_
          refine lv_if_ge (tgt := 33) hx hb dX9_adds_26 (by decide) (fun c41 => ?_) (fun c41 => ?_)
          · have hf := i_t hf c41
            refine lv_iconst (v := (0 : Int32)) hx hb dX9_adds_33 (by decide) ?_
            exact main4 (0 : Int32) _ _ ls hW hS (lv_sub hl [0, 1, 2, 3] rfl) hf
          · have hf := i_f hf c41
            refine lv_iconst (v := (1 : Int32)) hx hb dX9_adds_29 (by decide) ?_
            refine lv_goto (tgt := 34) hx hb dX9_adds_30 (by decide) ?_
            exact main4 (1 : Int32) _ _ ls hW hS (lv_sub hl [0, 1, 2, 3] rfl) hf
theorem cl_RX9_320 {R : Room} {s : State} {args : Array Value} (ht : ∀ w ∈ lw_all, w.before args s = true) (hR : 1 + 1 ≤ R.frames ∧ 8 + (2 + 11) + 22 ≤ R.locals) : CallW R s args RX9 RX9 320 yX9_isWord cX9_isWord 2 (some .boolean) (wsq yX9_isWord cX9_isWord 2 (some .boolean)) (rmq 1 22) 0 0 1 := cwV 1 ht (goodV wd6_126 wd6_128 wsel_56 wd1_10 wd6_129) rfl rfl rfl (by decide +kernel) hR
def f_X9_forces (p1 : Int32) (M : Mem) : Option (Int32 × Mem) := (bq1 (f_X9_isWord p1 M) (fun (x1 : Int32) => (if x1 = 0 then (bq2 (f_X9_no (-1 : Int32) M) (fun (x10 : Int32) (M11 : Mem) => some (x10, M11))) else (bq1 (f_X9_remembers M) (fun (M4 : Mem) => gq (inB p1 16) (gq (inB p1 16) (nmq (si M4 144 ((p1 : Int32).toNatClampNeg) ((1 : Int32) - (gi M4 144 ((p1 : Int32).toNatClampNeg)))) (fun (M8 : Mem) => gq (inB p1 16) (some ((gi M8 144 ((p1 : Int32).toNatClampNeg)), M8))))))))))
set_option maxHeartbeats 4000000 in
set_option maxRecDepth 100000 in
theorem ct_X9_forces (l : Launch) (G : GG) {p1 : Int32} {M : Mem} {r : Int32} {Mr : Mem}  (hf : f_X9_forces p1 M = some (r, Mr)) : Met l yX9_forces (wsq yX9_forces cX9_forces 2 (some .int)) (rmq 3 64) (va_Pc [.ref (G.2.2.1 139), .int p1] (World G M)) (Qi G r Mr) 0 0 (adA G) := by
  refine x_start (plainFor_of_name (by decide)) (Nat.le_of_ble_eq_true rfl) ?_
  intro p e s m args below meth c hB hr hlk hW hS ls hl
  have hx := hB.x
  have hb := hB.b
  have hl : lv_has ls 2 [(0, .ref (G.2.2.1 139)), (1, .int p1)] := hl
  unfold f_X9_forces at hf
  refine lv_aload_n hx hb dX9_forces_0 rfl (lv_at hl 0 rfl) ?_
  refine lv_iload_n hx hb dX9_forces_1 rfl (lv_at hl 1 rfl) ?_
  obtain ⟨x1, hg2, hf⟩ := b_o1 hf
  refine x_ci hB (x_rv hB hW hS (As := [.int p1]) (rest := []) (ct_X9_isWord l G hg2) (cl_RX9_320 hB.2.2.2.2.1 ⟨Nat.le_of_ble_eq_true rfl, Nat.le_of_ble_eq_true rfl⟩) tl139 (by decide) rfl rfl hl.1 rfl (Nat.le_of_ble_eq_true rfl) dX9_forces_2 ⟨Nat.le_refl _, Nat.le_refl _⟩) hS (fun H locs hW hS => ?_)
  refine lv_if_ne (tgt := 14) hx hb dX9_forces_5 (by decide) (fun c3 => ?_) (fun c3 => ?_)
  · have hf := i_f hf c3
    refine lv_aload_n hx hb dX9_forces_14 rfl (lv_at hl 0 rfl) ?_
    obtain ⟨M4, hg5, hf⟩ := b_o1 hf
    refine x_cv hB (x_rv hB hW hS (As := []) (rest := []) (ct_X9_remembers l G hg5) (cl_RX9_314 hB.2.2.2.2.1 ⟨Nat.le_of_ble_eq_true rfl, Nat.le_of_ble_eq_true rfl⟩) tl139 (by decide) rfl rfl hl.1 rfl (Nat.le_of_ble_eq_true rfl) dX9_forces_15 ⟨Nat.le_refl _, Nat.le_refl _⟩) hS (fun H locs hW hS => ?_)
    refine lv_aload_n hx hb dX9_forces_18 rfl (lv_at hl 0 rfl) ?_
    refine fg9_4 hB hW tl139 wd5_83 dX9_forces_19 ?_
    refine lv_iload_n hx hb dX9_forces_22 rfl (lv_at hl 1 rfl) ?_
    refine lv_iconst (v := (1 : Int32)) hx hb dX9_forces_23 (by decide) ?_
    refine lv_aload_n hx hb dX9_forces_24 rfl (lv_at hl 0 rfl) ?_
    refine fg9_4 hB hW tl139 wd5_83 dX9_forces_25 ?_
    refine lv_iload_n hx hb dX9_forces_28 rfl (lv_at hl 1 rfl) ?_
    obtain ⟨h6, hf⟩ := g_o hf
    refine x_iald hB hW tl144 al144 h6 dX9_forces_29 ?_
    refine lv_isub hx hb dX9_forces_30 ?_
    obtain ⟨h7, hf⟩ := g_o hf
    refine x_i hB hW hS tl144 al144 h7 dX9_forces_31 (fun H locs M8 eM8 hW hS => ?_)
    have hf := nm_o hf eM8
    refine lv_aload_n hx hb dX9_forces_32 rfl (lv_at hl 0 rfl) ?_
    refine fg9_4 hB hW tl139 wd5_83 dX9_forces_33 ?_
    refine lv_iload_n hx hb dX9_forces_36 rfl (lv_at hl 1 rfl) ?_
    obtain ⟨h9, hf⟩ := g_o hf
    refine x_iald hB hW tl144 al144 h9 dX9_forces_37 ?_
    exact e_i hB hW hS hr hlk (s_1 hf) (s_2 hf) dX9_forces_38
  · have hf := i_t hf c3
    refine lv_aload_n hx hb dX9_forces_8 rfl (lv_at hl 0 rfl) ?_
    refine lv_iconst (v := (-1 : Int32)) hx hb dX9_forces_9 (by decide) ?_
    obtain ⟨x10, M11, hg12, hf⟩ := b_o2 hf
    refine x_ci hB (x_rv hB hW hS (As := [.int (-1 : Int32)]) (rest := []) (ct_X9_no l G hg12) (cl_RX9_224 hB.2.2.2.2.1 ⟨Nat.le_of_ble_eq_true rfl, Nat.le_of_ble_eq_true rfl⟩) tl139 (by decide) rfl rfl hl.1 rfl (Nat.le_of_ble_eq_true rfl) dX9_forces_10 ⟨Nat.le_refl _, Nat.le_refl _⟩) hS (fun H locs hW hS => ?_)
    exact e_i hB hW hS hr hlk (s_1 hf) (s_2 hf) dX9_forces_13
def f_X9_drop_L50 (x2 : Int32) (K18 : Int32 → Mem → Option (Mem)) (x16 : Int32) (M17 : Mem) : Option (Mem) := (if (12 : Int32) ≤ x16 then (some (M17)) else (gq (inB ((((12 : Int32) * x2) + (12 : Int32)) + x16) 192) (gq (inB (((12 : Int32) * x2) + x16) 192) (nmq (si M17 143 (((((12 : Int32) * x2) + x16) : Int32).toNatClampNeg) (gi M17 143 ((((((12 : Int32) * x2) + (12 : Int32)) + x16) : Int32).toNatClampNeg))) (fun (M27 : Mem) => nmq (x16 + (1 : Int32)) (fun (x28 : Int32) => (K18 x28 M27)))))))
def f_X9_drop_L12  (K4 : Int32 → Mem → Option (Mem)) (x2 : Int32) (M3 : Mem) : Option (Mem) := (if (gi M3 139 9) ≤ x2 then (some (M3)) else (gq (inB (x2 + (1 : Int32)) 16) (gq (inB x2 16) (nmq (si M3 142 ((x2 : Int32).toNatClampNeg) (gi M3 142 (((x2 + (1 : Int32)) : Int32).toNatClampNeg))) (fun (M12 : Mem) => gq (inB (x2 + (1 : Int32)) 16) (gq (inB x2 16) (nmq (si M12 144 ((x2 : Int32).toNatClampNeg) (gi M12 144 (((x2 + (1 : Int32)) : Int32).toNatClampNeg))) (fun (M15 : Mem) => (bq1 (lq2 (f_X9_drop_L50 x2) FU (0 : Int32) M15) (fun (M20 : Mem) => (nmq (x2 + (1 : Int32)) (fun (x21 : Int32) => (K4 x21 M20)))))))))))))
def f_X9_drop (p1 : Int32) (M : Mem) : Option Mem := (nmq (si M 139 9 ((gi M 139 9) - (1 : Int32))) (fun (M1 : Mem) => (bq1 (lq2 f_X9_drop_L12 FU p1 M1) (fun (M6 : Mem) => some M6))))
set_option maxHeartbeats 4000000 in
set_option maxRecDepth 100000 in
theorem ct_X9_drop (l : Launch) (G : GG) {p1 : Int32} {M : Mem} {Mr : Mem}  (hf : f_X9_drop p1 M = some Mr) : Met l yX9_drop (wsq yX9_drop cX9_drop 4 none) (rmq 0 0) (va_Pc [.ref (G.2.2.1 139), .int p1] (World G M)) (Qv G Mr) 0 0 (adA G) := by
  refine x_start (plainFor_of_name (by decide)) (Nat.le_of_ble_eq_true rfl) ?_
  intro p e s m args below meth c hB hr hlk hW hS ls hl
  have hx := hB.x
  have hb := hB.b
  have hl : lv_has ls 4 [(0, .ref (G.2.2.1 139)), (1, .int p1)] := hl
  unfold f_X9_drop at hf
  refine lv_aload_n hx hb dX9_drop_0 rfl (lv_at hl 0 rfl) ?_
  refine lv_dup hx hb dX9_drop_1 rfl ?_
  refine fg9_9 hB hW tl139 wd5_88 dX9_drop_2 ?_
  refine lv_iconst (v := (1 : Int32)) hx hb dX9_drop_5 (by decide) ?_
  refine lv_isub hx hb dX9_drop_6 ?_
  refine fp9_9 hB hW hS tl139 wd5_88 dX9_drop_7 (fun H locs M1 eM1 hW hS => ?_)
  have hf := nm_o hf eM1
  refine lv_iload_n hx hb dX9_drop_10 rfl (lv_at hl 1 rfl) ?_
  refine lv_istore_n (lv' := [(2, .int p1), (0, .ref (G.2.2.1 139)), (1, .int p1)]) hx hb dX9_drop_11 rfl hl (by decide) rfl (fun ls hl => ?_)
  obtain ⟨M7, hL, hf⟩ := b_o1 hf
  have main8 : ∀ (M6 : Mem) (H : Heap) (locs : List Loc) (ls : Array Slot), Wd G M6 H → va_S (adA G) s.heap H locs → lv_has ls 4 [] → some (M6) = some (M7) → W p l e (rmq 0 0) s m args below meth c H locs 0 0 (MQ below (Qv G Mr) args s 0 0 (adA G)) (F0 m 93 ls []) := by
    intro M6 H locs ls hW hS hl hE
    cases hE
    exact e_v hB hW hS hr hlk (Option.some.inj hf) dX9_drop_93
  have loop5 : ∀ (n : Nat) (x2 : Int32) (M3 : Mem) (H : Heap) (locs : List Loc) (ls : Array Slot), Wd G M3 H → va_S (adA G) s.heap H locs → lv_has ls 4 [(0, .ref (G.2.2.1 139)), (2, .int x2)] → lq2 f_X9_drop_L12 n x2 M3 = some (M7) → W p l e (rmq 0 0) s m args below meth c H locs 0 0 (MQ below (Qv G Mr) args s 0 0 (adA G)) (F0 m 12 ls []) := by
    intro n
    induction n with
    | zero => intro x2 M3 H locs ls hW hS hl hf; exact (l_z2 hf).elim
    | succ n ih =>
      intro x2 M3 H locs ls hW hS hl hf
      have hf := l_s2 hf
      generalize lq2 f_X9_drop_L12 n = K4 at ih hf
      unfold f_X9_drop_L12 at hf
      refine lv_iload_n hx hb dX9_drop_12 rfl (lv_at hl 1 rfl) ?_
      refine lv_aload_n hx hb dX9_drop_13 rfl (lv_at hl 0 rfl) ?_
      refine fg9_9 hB hW tl139 wd5_88 dX9_drop_14 ?_
      refine lv_icmp_ge (tgt := 93) hx hb dX9_drop_17 (by decide) (fun c9 => ?_) (fun c9 => ?_)
      · have hf := i_t hf c9
        exact main8 M3 _ _ ls hW hS (lv_sub hl [] rfl) hf
      · have hf := i_f hf c9
        refine lv_aload_n hx hb dX9_drop_20 rfl (lv_at hl 0 rfl) ?_
        refine fg9_2 hB hW tl139 wd5_81 dX9_drop_21 ?_
        refine lv_iload_n hx hb dX9_drop_24 rfl (lv_at hl 1 rfl) ?_
        refine lv_aload_n hx hb dX9_drop_25 rfl (lv_at hl 0 rfl) ?_
        refine fg9_2 hB hW tl139 wd5_81 dX9_drop_26 ?_
        refine lv_iload_n hx hb dX9_drop_29 rfl (lv_at hl 1 rfl) ?_
        refine lv_iconst (v := (1 : Int32)) hx hb dX9_drop_30 (by decide) ?_
        refine lv_iadd hx hb dX9_drop_31 ?_
        obtain ⟨h10, hf⟩ := g_o hf
        refine x_iald hB hW tl142 al142 h10 dX9_drop_32 ?_
        obtain ⟨h11, hf⟩ := g_o hf
        refine x_i hB hW hS tl142 al142 h11 dX9_drop_33 (fun H locs M12 eM12 hW hS => ?_)
        have hf := nm_o hf eM12
        refine lv_aload_n hx hb dX9_drop_34 rfl (lv_at hl 0 rfl) ?_
        refine fg9_4 hB hW tl139 wd5_83 dX9_drop_35 ?_
        refine lv_iload_n hx hb dX9_drop_38 rfl (lv_at hl 1 rfl) ?_
        refine lv_aload_n hx hb dX9_drop_39 rfl (lv_at hl 0 rfl) ?_
        refine fg9_4 hB hW tl139 wd5_83 dX9_drop_40 ?_
        refine lv_iload_n hx hb dX9_drop_43 rfl (lv_at hl 1 rfl) ?_
        refine lv_iconst (v := (1 : Int32)) hx hb dX9_drop_44 (by decide) ?_
        refine lv_iadd hx hb dX9_drop_45 ?_
        obtain ⟨h13, hf⟩ := g_o hf
        refine x_iald hB hW tl144 al144 h13 dX9_drop_46 ?_
        obtain ⟨h14, hf⟩ := g_o hf
        refine x_i hB hW hS tl144 al144 h14 dX9_drop_47 (fun H locs M15 eM15 hW hS => ?_)
        have hf := nm_o hf eM15
        refine lv_iconst (v := (0 : Int32)) hx hb dX9_drop_48 (by decide) ?_
        refine lv_istore_n (lv' := [(3, .int (0 : Int32)), (0, .ref (G.2.2.1 139)), (2, .int x2)]) hx hb dX9_drop_49 rfl hl (by decide) rfl (fun ls hl => ?_)
        obtain ⟨M22, hL, hf⟩ := b_o1 hf
        have main23 : ∀ (M20 : Mem) (H : Heap) (locs : List Loc) (ls : Array Slot), Wd G M20 H → va_S (adA G) s.heap H locs → lv_has ls 4 [(0, .ref (G.2.2.1 139)), (2, .int x2)] → some (M20) = some (M22) → W p l e (rmq 0 0) s m args below meth c H locs 0 0 (MQ below (Qv G Mr) args s 0 0 (adA G)) (F0 m 87 ls []) := by
          intro M20 H locs ls hW hS hl hE
          cases hE
          obtain ⟨x21, ex21⟩ : ∃ y : Int32, y = x2 + (1 : Int32) := ⟨_, rfl⟩
          have hf := nm_o hf ex21
          refine lv_iinc (v := x21) (lv' := [(2, .int x21), (0, .ref (G.2.2.1 139))]) hx hb dX9_drop_87 hl (k := 1) rfl (by rw [ex21]; rfl) (by decide) rfl (fun ls hl => ?_)
          refine lv_goto (tgt := 12) hx hb dX9_drop_90 (by decide) ?_
          exact ih x21 M22 _ _ ls hW hS (lv_sub hl [1, 0] rfl) hf
        have loop19 : ∀ (n : Nat) (x16 : Int32) (M17 : Mem) (H : Heap) (locs : List Loc) (ls : Array Slot), Wd G M17 H → va_S (adA G) s.heap H locs → lv_has ls 4 [(0, .ref (G.2.2.1 139)), (2, .int x2), (3, .int x16)] → lq2 (f_X9_drop_L50 x2) n x16 M17 = some (M22) → W p l e (rmq 0 0) s m args below meth c H locs 0 0 (MQ below (Qv G Mr) args s 0 0 (adA G)) (F0 m 50 ls []) := by
          intro n
          induction n with
          | zero => intro x16 M17 H locs ls hW hS hl hf; exact (l_z2 hf).elim
          | succ n ih =>
            intro x16 M17 H locs ls hW hS hl hf
            have hf := l_s2 hf
            generalize lq2 (f_X9_drop_L50 x2) n = K18 at ih hf
            unfold f_X9_drop_L50 at hf
            refine lv_iload_n hx hb dX9_drop_50 rfl (lv_at hl 2 rfl) ?_
            refine lv_bipush (v := (12 : Int32)) hx hb dX9_drop_51 (by decide) ?_
            refine lv_icmp_ge (tgt := 87) hx hb dX9_drop_53 (by decide) (fun c24 => ?_) (fun c24 => ?_)
            · have hf := i_t hf c24
              exact main23 M17 _ _ ls hW hS (lv_sub hl [0, 1] rfl) hf
            · have hf := i_f hf c24
              refine lv_aload_n hx hb dX9_drop_56 rfl (lv_at hl 0 rfl) ?_
              refine fg9_3 hB hW tl139 wd5_82 dX9_drop_57 ?_
              refine lv_bipush (v := (12 : Int32)) hx hb dX9_drop_60 (by decide) ?_
              refine lv_iload_n hx hb dX9_drop_62 rfl (lv_at hl 1 rfl) ?_
              refine lv_imul hx hb dX9_drop_63 ?_
              refine lv_iload_n hx hb dX9_drop_64 rfl (lv_at hl 2 rfl) ?_
              refine lv_iadd hx hb dX9_drop_65 ?_
              refine lv_aload_n hx hb dX9_drop_66 rfl (lv_at hl 0 rfl) ?_
              refine fg9_3 hB hW tl139 wd5_82 dX9_drop_67 ?_
              refine lv_bipush (v := (12 : Int32)) hx hb dX9_drop_70 (by decide) ?_
              refine lv_iload_n hx hb dX9_drop_72 rfl (lv_at hl 1 rfl) ?_
              refine lv_imul hx hb dX9_drop_73 ?_
              refine lv_bipush (v := (12 : Int32)) hx hb dX9_drop_74 (by decide) ?_
              refine lv_iadd hx hb dX9_drop_76 ?_
              refine lv_iload_n hx hb dX9_drop_77 rfl (lv_at hl 2 rfl) ?_
              refine lv_iadd hx hb dX9_drop_78 ?_
              obtain ⟨h25, hf⟩ := g_o hf
              refine x_iald hB hW tl143 al143 h25 dX9_drop_79 ?_
              obtain ⟨h26, hf⟩ := g_o hf
              refine x_i hB hW hS tl143 al143 h26 dX9_drop_80 (fun H locs M27 eM27 hW hS => ?_)
              have hf := nm_o hf eM27
              obtain ⟨x28, ex28⟩ : ∃ y : Int32, y = x16 + (1 : Int32) := ⟨_, rfl⟩
              have hf := nm_o hf ex28
              refine lv_iinc (v := x28) (lv' := [(3, .int x28), (0, .ref (G.2.2.1 139)), (2, .int x2)]) hx hb dX9_drop_81 hl (k := 2) rfl (by rw [ex28]; rfl) (by decide) rfl (fun ls hl => ?_)
              refine lv_goto (tgt := 50) hx hb dX9_drop_84 (by decide) ?_
              exact ih x28 M27 _ _ ls hW hS (lv_sub hl [1, 2, 0] rfl) hf
        exact loop19 FU (0 : Int32) M15 _ _ ls hW hS (lv_sub hl [1, 2, 0] rfl) hL
  exact loop5 FU p1 M1 _ _ ls hW hS (lv_sub hl [1, 0] rfl) hL
theorem cl_RX9_323 {R : Room} {s : State} {args : Array Value} (ht : ∀ w ∈ lw_all, w.before args s = true) (hR : 0 + 1 ≤ R.frames ∧ 8 + (4 + 11) + 0 ≤ R.locals) : CallW R s args RX9 RX9 323 yX9_drop cX9_drop 4 none (wsq yX9_drop cX9_drop 4 none) (rmq 0 0) 0 0 1 := cwV 1 ht (goodV wd6_134 wd6_136 wsel_57 wd1_10 wd6_137) rfl rfl rfl (by decide +kernel) hR
def f_X9_drops (p1 : Int32) (M : Mem) : Option (Int32 × Mem) := (bq1 (f_X9_isWord p1 M) (fun (x1 : Int32) => (if x1 = 0 then (bq2 (f_X9_no (-1 : Int32) M) (fun (x8 : Int32) (M9 : Mem) => some (x8, M9))) else (bq1 (f_X9_remembers M) (fun (M4 : Mem) => bq1 (f_X9_drop p1 M4) (fun (M6 : Mem) => some ((gi M6 139 9), M6)))))))
set_option maxHeartbeats 4000000 in
set_option maxRecDepth 100000 in
theorem ct_X9_drops (l : Launch) (G : GG) {p1 : Int32} {M : Mem} {r : Int32} {Mr : Mem}  (hf : f_X9_drops p1 M = some (r, Mr)) : Met l yX9_drops (wsq yX9_drops cX9_drops 2 (some .int)) (rmq 3 64) (va_Pc [.ref (G.2.2.1 139), .int p1] (World G M)) (Qi G r Mr) 0 0 (adA G) := by
  refine x_start (plainFor_of_name (by decide)) (Nat.le_of_ble_eq_true rfl) ?_
  intro p e s m args below meth c hB hr hlk hW hS ls hl
  have hx := hB.x
  have hb := hB.b
  have hl : lv_has ls 2 [(0, .ref (G.2.2.1 139)), (1, .int p1)] := hl
  unfold f_X9_drops at hf
  refine lv_aload_n hx hb dX9_drops_0 rfl (lv_at hl 0 rfl) ?_
  refine lv_iload_n hx hb dX9_drops_1 rfl (lv_at hl 1 rfl) ?_
  obtain ⟨x1, hg2, hf⟩ := b_o1 hf
  refine x_ci hB (x_rv hB hW hS (As := [.int p1]) (rest := []) (ct_X9_isWord l G hg2) (cl_RX9_320 hB.2.2.2.2.1 ⟨Nat.le_of_ble_eq_true rfl, Nat.le_of_ble_eq_true rfl⟩) tl139 (by decide) rfl rfl hl.1 rfl (Nat.le_of_ble_eq_true rfl) dX9_drops_2 ⟨Nat.le_refl _, Nat.le_refl _⟩) hS (fun H locs hW hS => ?_)
  refine lv_if_ne (tgt := 14) hx hb dX9_drops_5 (by decide) (fun c3 => ?_) (fun c3 => ?_)
  · have hf := i_f hf c3
    refine lv_aload_n hx hb dX9_drops_14 rfl (lv_at hl 0 rfl) ?_
    obtain ⟨M4, hg5, hf⟩ := b_o1 hf
    refine x_cv hB (x_rv hB hW hS (As := []) (rest := []) (ct_X9_remembers l G hg5) (cl_RX9_314 hB.2.2.2.2.1 ⟨Nat.le_of_ble_eq_true rfl, Nat.le_of_ble_eq_true rfl⟩) tl139 (by decide) rfl rfl hl.1 rfl (Nat.le_of_ble_eq_true rfl) dX9_drops_15 ⟨Nat.le_refl _, Nat.le_refl _⟩) hS (fun H locs hW hS => ?_)
    refine lv_aload_n hx hb dX9_drops_18 rfl (lv_at hl 0 rfl) ?_
    refine lv_iload_n hx hb dX9_drops_19 rfl (lv_at hl 1 rfl) ?_
    obtain ⟨M6, hg7, hf⟩ := b_o1 hf
    refine x_cv hB (x_rv hB hW hS (As := [.int p1]) (rest := []) (ct_X9_drop l G hg7) (cl_RX9_323 hB.2.2.2.2.1 ⟨Nat.le_of_ble_eq_true rfl, Nat.le_of_ble_eq_true rfl⟩) tl139 (by decide) rfl rfl hl.1 rfl (Nat.le_of_ble_eq_true rfl) dX9_drops_20 ⟨Nat.le_refl _, Nat.le_refl _⟩) hS (fun H locs hW hS => ?_)
    refine lv_aload_n hx hb dX9_drops_23 rfl (lv_at hl 0 rfl) ?_
    refine fg9_9 hB hW tl139 wd5_88 dX9_drops_24 ?_
    exact e_i hB hW hS hr hlk (s_1 hf) (s_2 hf) dX9_drops_27
  · have hf := i_t hf c3
    refine lv_aload_n hx hb dX9_drops_8 rfl (lv_at hl 0 rfl) ?_
    refine lv_iconst (v := (-1 : Int32)) hx hb dX9_drops_9 (by decide) ?_
    obtain ⟨x8, M9, hg10, hf⟩ := b_o2 hf
    refine x_ci hB (x_rv hB hW hS (As := [.int (-1 : Int32)]) (rest := []) (ct_X9_no l G hg10) (cl_RX9_224 hB.2.2.2.2.1 ⟨Nat.le_of_ble_eq_true rfl, Nat.le_of_ble_eq_true rfl⟩) tl139 (by decide) rfl rfl hl.1 rfl (Nat.le_of_ble_eq_true rfl) dX9_drops_10 ⟨Nat.le_refl _, Nat.le_refl _⟩) hS (fun H locs hW hS => ?_)
    exact e_i hB hW hS hr hlk (s_1 hf) (s_2 hf) dX9_drops_13
def f_X9_patterns (p1 : Int32) (p2 : Int32) (p3 : Int32) (p4 : Int32) (M : Mem) : Option (Int32 × Mem) := (nmq ((if 0 ≤ p2 then ((2 : Int32)) else ((1 : Int32)))) (fun (x1 : Int32) => (bq1 (f_X9_isLetter p1) (fun (x3 : Int32) => (bq1 ((if x3 = 0 then (some ((-1 : Int32))) else (bq1 (f_X9_isLetterOrNone p2) (fun (x26 : Int32) => (if x26 = 0 then (some ((-1 : Int32))) else (bq1 (f_X9_isIn p3 (0 : Int32) x1) (fun (x29 : Int32) => (if x29 = 0 then (some ((-1 : Int32))) else (bq1 (f_X9_bound p4 (1 : Int32) (9 : Int32)) (fun (x32 : Int32) => (some (x32))))))))))) : Option (Int32)) (fun (x5 : Int32) => (nmq (si M 162 0 p1) (fun (M7 : Mem) => nmq (si M7 162 1 p2) (fun (M8 : Mem) => bq1 (f_X9_placeOfPattern x1 p3 M8) (fun (x9 : Int32) => (bq1 ((if x5 = 0 then (if x9 = (8 : Int32) then (some ((-6 : Int32))) else (some (x5))) else (some (x5))) : Option (Int32)) (fun (x11 : Int32) => (if x11 = 0 then (bq1 (f_X9_remembers M8) (fun (M14 : Mem) => bq1 (f_X9_comesPattern x9 x1 p3 p4 M14) (fun (M16 : Mem) => some ((gi M16 139 10), M16)))) else (bq2 (f_X9_no x11 M8) (fun (x18 : Int32) (M19 : Mem) => some (x18, M19))))))))))))))))
set_option maxHeartbeats 4000000 in
set_option maxRecDepth 100000 in
theorem ct_X9_patterns (l : Launch) (G : GG) {p1 : Int32} {p2 : Int32} {p3 : Int32} {p4 : Int32} {M : Mem} {r : Int32} {Mr : Mem}  (hf : f_X9_patterns p1 p2 p3 p4 M = some (r, Mr)) : Met l yX9_patterns (wsq yX9_patterns cX9_patterns 8 (some .int)) (rmq 3 64) (va_Pc [.ref (G.2.2.1 139), .int p1, .int p2, .int p3, .int p4] (World G M)) (Qi G r Mr) 0 0 (adA G) := by
  refine x_start (plainFor_of_name (by decide)) (Nat.le_of_ble_eq_true rfl) ?_
  intro p e s m args below meth c hB hr hlk hW hS ls hl
  have hx := hB.x
  have hb := hB.b
  have hl : lv_has ls 8 [(0, .ref (G.2.2.1 139)), (1, .int p1), (2, .int p2), (3, .int p3), (4, .int p4)] := hl
  unfold f_X9_patterns at hf
  refine lv_iload_n hx hb dX9_patterns_0 rfl (lv_at hl 2 rfl) ?_
  obtain ⟨y34, evy34⟩ : ∃ z : Int32, (if 0 ≤ p2 then ((2 : Int32)) else ((1 : Int32))) = z := ⟨_, rfl⟩
  have hf := nm_o hf evy34.symm
  have main2 : ∀ (x1 : Int32) (H : Heap) (locs : List Loc) (ls : Array Slot), Wd G M H → va_S (adA G) s.heap H locs → lv_has ls 8 [(0, .ref (G.2.2.1 139)), (1, .int p1), (2, .int p2), (3, .int p3), (4, .int p4)] → x1 = y34 → W p l e (rmq 3 64) s m args below meth c H locs 0 0 (MQ below (Qi G r Mr) args s 0 0 (adA G)) (F0 m 9 ls [.int x1]) := by
    intro x1 H locs ls hW hS hl hE
    have hE := hE.symm
    subst hE
    refine lv_istore (lv' := [(5, .int y34), (0, .ref (G.2.2.1 139)), (1, .int p1), (2, .int p2), (3, .int p3), (4, .int p4)]) hx hb dX9_patterns_9 hl (by decide) rfl (fun ls hl => ?_)
    refine lv_iload_n hx hb dX9_patterns_11 rfl (lv_at hl 2 rfl) ?_
    obtain ⟨x3, hg4, hf⟩ := b_o1 hf
    refine x_ci hB (x_rs hB hW hS (As := [.int p1]) (rest := []) (ct_X9_isLetter l G hg4) (cl_RX9_311 hB.2.2.2.2.1 ⟨Nat.le_of_ble_eq_true rfl, Nat.le_of_ble_eq_true rfl⟩) rfl hl.1 rfl (Nat.le_of_ble_eq_true rfl) dX9_patterns_12 ⟨Nat.le_refl _, Nat.le_refl _⟩) hS (fun H locs hW hS => ?_)
    obtain ⟨y24, hR, hf⟩ := b_o1 hf
    have main6 : ∀ (x5 : Int32) (H : Heap) (locs : List Loc) (ls : Array Slot), Wd G M H → va_S (adA G) s.heap H locs → lv_has ls 8 [(0, .ref (G.2.2.1 139)), (1, .int p1), (2, .int p2), (3, .int p3), (4, .int p4), (5, .int y34)] → some (x5) = some (y24) → W p l e (rmq 3 64) s m args below meth c H locs 0 0 (MQ below (Qi G r Mr) args s 0 0 (adA G)) (F0 m 47 ls [.int x5]) := by
      intro x5 H locs ls hW hS hl hE
      cases hE
      refine lv_istore (lv' := [(6, .int y24), (0, .ref (G.2.2.1 139)), (1, .int p1), (2, .int p2), (3, .int p3), (4, .int p4), (5, .int y34)]) hx hb dX9_patterns_47 hl (by decide) rfl (fun ls hl => ?_)
      refine lv_aload_n hx hb dX9_patterns_49 rfl (lv_at hl 1 rfl) ?_
      refine fg9_40 hB hW tl139 wd5_119 dX9_patterns_50 ?_
      refine lv_iconst (v := (0 : Int32)) hx hb dX9_patterns_53 (by decide) ?_
      refine lv_iload_n hx hb dX9_patterns_54 rfl (lv_at hl 2 rfl) ?_
      refine x_i hB hW hS tl162 al162 (by decide) dX9_patterns_55 (fun H locs M7 eM7 hW hS => ?_)
      have hf := nm_o hf eM7
      refine lv_aload_n hx hb dX9_patterns_56 rfl (lv_at hl 1 rfl) ?_
      refine fg9_40 hB hW tl139 wd5_119 dX9_patterns_57 ?_
      refine lv_iconst (v := (1 : Int32)) hx hb dX9_patterns_60 (by decide) ?_
      refine lv_iload_n hx hb dX9_patterns_61 rfl (lv_at hl 3 rfl) ?_
      refine x_i hB hW hS tl162 al162 (by decide) dX9_patterns_62 (fun H locs M8 eM8 hW hS => ?_)
      have hf := nm_o hf eM8
      refine lv_aload_n hx hb dX9_patterns_63 rfl (lv_at hl 1 rfl) ?_
      refine lv_iload hx hb dX9_patterns_64 (lv_at hl 6 rfl) ?_
      refine lv_iload_n hx hb dX9_patterns_66 rfl (lv_at hl 4 rfl) ?_
      obtain ⟨x9, hg10, hf⟩ := b_o1 hf
      refine x_ci hB (x_rv hB hW hS (As := [.int y34, .int p3]) (rest := []) (ct_X9_placeOfPattern l G hg10) (cl_RX9_252 hB.2.2.2.2.1 ⟨Nat.le_of_ble_eq_true rfl, Nat.le_of_ble_eq_true rfl⟩) tl139 (by decide) rfl rfl hl.1 rfl (Nat.le_of_ble_eq_true rfl) dX9_patterns_67 ⟨Nat.le_refl _, Nat.le_refl _⟩) hS (fun H locs hW hS => ?_)
      refine lv_istore (lv' := [(7, .int x9), (6, .int y24), (0, .ref (G.2.2.1 139)), (1, .int p1), (2, .int p2), (3, .int p3), (4, .int p4), (5, .int y34)]) hx hb dX9_patterns_70 hl (by decide) rfl (fun ls hl => ?_)
      refine lv_iload hx hb dX9_patterns_72 (lv_at hl 1 rfl) ?_
      obtain ⟨y21, hR, hf⟩ := b_o1 hf
      have main12 : ∀ (x11 : Int32) (H : Heap) (locs : List Loc) (ls : Array Slot), Wd G M8 H → va_S (adA G) s.heap H locs → lv_has ls 8 [(0, .ref (G.2.2.1 139)), (3, .int p3), (4, .int p4), (5, .int y34), (6, .int x11), (7, .int x9)] → some (x11) = some (y21) → W p l e (rmq 3 64) s m args below meth c H locs 0 0 (MQ below (Qi G r Mr) args s 0 0 (adA G)) (F0 m 88 ls []) := by
        intro x11 H locs ls hW hS hl hE
        cases hE
        refine lv_iload hx hb dX9_patterns_88 (lv_at hl 4 rfl) ?_
        refine lv_if_eq (tgt := 100) hx hb dX9_patterns_90 (by decide) (fun c13 => ?_) (fun c13 => ?_)
        · have hf := i_t hf c13
          refine lv_aload_n hx hb dX9_patterns_100 rfl (lv_at hl 0 rfl) ?_
          obtain ⟨M14, hg15, hf⟩ := b_o1 hf
          refine x_cv hB (x_rv hB hW hS (As := []) (rest := []) (ct_X9_remembers l G hg15) (cl_RX9_314 hB.2.2.2.2.1 ⟨Nat.le_of_ble_eq_true rfl, Nat.le_of_ble_eq_true rfl⟩) tl139 (by decide) rfl rfl hl.1 rfl (Nat.le_of_ble_eq_true rfl) dX9_patterns_101 ⟨Nat.le_refl _, Nat.le_refl _⟩) hS (fun H locs hW hS => ?_)
          refine lv_aload_n hx hb dX9_patterns_104 rfl (lv_at hl 0 rfl) ?_
          refine lv_iload hx hb dX9_patterns_105 (lv_at hl 5 rfl) ?_
          refine lv_iload hx hb dX9_patterns_107 (lv_at hl 3 rfl) ?_
          refine lv_iload_n hx hb dX9_patterns_109 rfl (lv_at hl 1 rfl) ?_
          refine lv_iload hx hb dX9_patterns_110 (lv_at hl 2 rfl) ?_
          obtain ⟨M16, hg17, hf⟩ := b_o1 hf
          refine x_cv hB (x_rv hB hW hS (As := [.int x9, .int y34, .int p3, .int p4]) (rest := []) (ct_X9_comesPattern l G hg17) (cl_RX9_255 hB.2.2.2.2.1 ⟨Nat.le_of_ble_eq_true rfl, Nat.le_of_ble_eq_true rfl⟩) tl139 (by decide) rfl rfl hl.1 rfl (Nat.le_of_ble_eq_true rfl) dX9_patterns_112 ⟨Nat.le_refl _, Nat.le_refl _⟩) hS (fun H locs hW hS => ?_)
          refine lv_aload_n hx hb dX9_patterns_115 rfl (lv_at hl 0 rfl) ?_
          refine fg9_10 hB hW tl139 wd5_89 dX9_patterns_116 ?_
          exact e_i hB hW hS hr hlk (s_1 hf) (s_2 hf) dX9_patterns_119
        · have hf := i_f hf c13
          refine lv_aload_n hx hb dX9_patterns_93 rfl (lv_at hl 0 rfl) ?_
          refine lv_iload hx hb dX9_patterns_94 (lv_at hl 4 rfl) ?_
          obtain ⟨x18, M19, hg20, hf⟩ := b_o2 hf
          refine x_ci hB (x_rv hB hW hS (As := [.int y21]) (rest := []) (ct_X9_no l G hg20) (cl_RX9_224 hB.2.2.2.2.1 ⟨Nat.le_of_ble_eq_true rfl, Nat.le_of_ble_eq_true rfl⟩) tl139 (by decide) rfl rfl hl.1 rfl (Nat.le_of_ble_eq_true rfl) dX9_patterns_96 ⟨Nat.le_refl _, Nat.le_refl _⟩) hS (fun H locs hW hS => ?_)
          exact e_i hB hW hS hr hlk (s_1 hf) (s_2 hf) dX9_patterns_99
      have hf := hR
      refine lv_if_ne (tgt := 88) hx hb dX9_patterns_74 (by decide) (fun c22 => ?_) (fun c22 => ?_)
      · have hf := i_f hf c22
        exact main12 y24 _ _ ls hW hS (lv_sub hl [2, 5, 6, 7, 1, 0] rfl) hf
      · have hf := i_t hf c22
        refine lv_iload hx hb dX9_patterns_77 (lv_at hl 0 rfl) ?_
        refine lv_bipush (v := (8 : Int32)) hx hb dX9_patterns_79 (by decide) ?_
        refine lv_icmp_ne (tgt := 88) hx hb dX9_patterns_81 (by decide) (fun c23 => ?_) (fun c23 => ?_)
        · have hf := i_f hf c23
          exact main12 y24 _ _ ls hW hS (lv_sub hl [2, 5, 6, 7, 1, 0] rfl) hf
        · have hf := i_t hf c23
          refine lv_bipush (v := (-6 : Int32)) hx hb dX9_patterns_84 (by decide) ?_
          refine lv_istore (lv' := [(6, .int (-6 : Int32)), (7, .int x9), (0, .ref (G.2.2.1 139)), (1, .int p1), (2, .int p2), (3, .int p3), (4, .int p4), (5, .int y34)]) hx hb dX9_patterns_86 hl (by decide) rfl (fun ls hl => ?_)
          exact main12 (-6 : Int32) _ _ ls hW hS (lv_sub hl [2, 5, 6, 7, 0, 1] rfl) hf
    have hf := hR
    refine lv_if_eq (tgt := 35) hx hb dX9_patterns_15 (by decide) (fun c25 => ?_) (fun c25 => ?_)
    · have hf := i_t hf c25
      refine lv_iconst (v := (-1 : Int32)) hx hb dX9_patterns_35 (by decide) ?_
      refine lv_goto (tgt := 47) hx hb dX9_patterns_36 (by decide) ?_
      exact main6 (-1 : Int32) _ _ ls hW hS (lv_sub hl [1, 2, 3, 4, 5, 0] rfl) hf
    · have hf := i_f hf c25
      refine lv_iload_n hx hb dX9_patterns_18 rfl (lv_at hl 3 rfl) ?_
      obtain ⟨x26, hg27, hf⟩ := b_o1 hf
      refine x_ci hB (x_rs hB hW hS (As := [.int p2]) (rest := []) (ct_X9_isLetterOrNone l G hg27) (cl_RX9_317 hB.2.2.2.2.1 ⟨Nat.le_of_ble_eq_true rfl, Nat.le_of_ble_eq_true rfl⟩) rfl hl.1 rfl (Nat.le_of_ble_eq_true rfl) dX9_patterns_19 ⟨Nat.le_refl _, Nat.le_refl _⟩) hS (fun H locs hW hS => ?_)
      refine lv_if_eq (tgt := 35) hx hb dX9_patterns_22 (by decide) (fun c28 => ?_) (fun c28 => ?_)
      · have hf := i_t hf c28
        refine lv_iconst (v := (-1 : Int32)) hx hb dX9_patterns_35 (by decide) ?_
        refine lv_goto (tgt := 47) hx hb dX9_patterns_36 (by decide) ?_
        exact main6 (-1 : Int32) _ _ ls hW hS (lv_sub hl [1, 2, 3, 4, 5, 0] rfl) hf
      · have hf := i_f hf c28
        refine lv_iload_n hx hb dX9_patterns_25 rfl (lv_at hl 4 rfl) ?_
        refine lv_iconst (v := (0 : Int32)) hx hb dX9_patterns_26 (by decide) ?_
        refine lv_iload hx hb dX9_patterns_27 (lv_at hl 0 rfl) ?_
        obtain ⟨x29, hg30, hf⟩ := b_o1 hf
        refine x_ci hB (x_rs hB hW hS (As := [.int p3, .int (0 : Int32), .int y34]) (rest := []) (ct_X9_isIn l G hg30) (cl_RX9_125 hB.2.2.2.2.1 ⟨Nat.le_of_ble_eq_true rfl, Nat.le_of_ble_eq_true rfl⟩) rfl hl.1 rfl (Nat.le_of_ble_eq_true rfl) dX9_patterns_29 ⟨Nat.le_refl _, Nat.le_refl _⟩) hS (fun H locs hW hS => ?_)
        refine lv_if_ne (tgt := 39) hx hb dX9_patterns_32 (by decide) (fun c31 => ?_) (fun c31 => ?_)
        · have hf := i_f hf c31
          refine lv_iload hx hb dX9_patterns_39 (lv_at hl 5 rfl) ?_
          refine lv_iconst (v := (1 : Int32)) hx hb dX9_patterns_41 (by decide) ?_
          refine lv_bipush (v := (9 : Int32)) hx hb dX9_patterns_42 (by decide) ?_
          obtain ⟨x32, hg33, hf⟩ := b_o1 hf
          refine x_ci hB (x_rs hB hW hS (As := [.int p4, .int (1 : Int32), .int (9 : Int32)]) (rest := []) (ct_X9_bound l G hg33) (cl_RX9_217 hB.2.2.2.2.1 ⟨Nat.le_of_ble_eq_true rfl, Nat.le_of_ble_eq_true rfl⟩) rfl hl.1 rfl (Nat.le_of_ble_eq_true rfl) dX9_patterns_44 ⟨Nat.le_refl _, Nat.le_refl _⟩) hS (fun H locs hW hS => ?_)
          exact main6 x32 _ _ ls hW hS (lv_sub hl [1, 2, 3, 4, 5, 0] rfl) hf
        · have hf := i_t hf c31
          refine lv_iconst (v := (-1 : Int32)) hx hb dX9_patterns_35 (by decide) ?_
          refine lv_goto (tgt := 47) hx hb dX9_patterns_36 (by decide) ?_
          exact main6 (-1 : Int32) _ _ ls hW hS (lv_sub hl [1, 2, 3, 4, 5, 0] rfl) hf
  have hf := evy34
  refine lv_if_ge (tgt := 8) hx hb dX9_patterns_1 (by decide) (fun c35 => ?_) (fun c35 => ?_)
  · have hf := i_t hf c35
    refine lv_iconst (v := (2 : Int32)) hx hb dX9_patterns_8 (by decide) ?_
    exact main2 (2 : Int32) _ _ ls hW hS (lv_sub hl [0, 1, 2, 3, 4] rfl) hf
  · have hf := i_f hf c35
    refine lv_iconst (v := (1 : Int32)) hx hb dX9_patterns_4 (by decide) ?_
    refine lv_goto (tgt := 9) hx hb dX9_patterns_5 (by decide) ?_
    exact main2 (1 : Int32) _ _ ls hW hS (lv_sub hl [0, 1, 2, 3, 4] rfl) hf
def f_X9_line (p1 : Int32) (M : Mem) : Option (Int32 × Mem) := (bq1 (f_X9_bound p1 (10 : Int32) (60 : Int32)) (fun (x1 : Int32) => (if x1 = 0 then (bq1 (f_X9_remembers M) (fun (M4 : Mem) => nmq ((gi M4 139 11)) (fun (x6 : Int32) => nmq (si M4 139 11 p1) (fun (M7 : Mem) => some (x6, M7))))) else (bq2 (f_X9_no x1 M) (fun (x8 : Int32) (M9 : Mem) => some (x8, M9))))))
set_option maxHeartbeats 4000000 in
set_option maxRecDepth 100000 in
theorem ct_X9_line (l : Launch) (G : GG) {p1 : Int32} {M : Mem} {r : Int32} {Mr : Mem}  (hf : f_X9_line p1 M = some (r, Mr)) : Met l yX9_line (wsq yX9_line cX9_line 4 (some .int)) (rmq 3 64) (va_Pc [.ref (G.2.2.1 139), .int p1] (World G M)) (Qi G r Mr) 0 0 (adA G) := by
  refine x_start (plainFor_of_name (by decide)) (Nat.le_of_ble_eq_true rfl) ?_
  intro p e s m args below meth c hB hr hlk hW hS ls hl
  have hx := hB.x
  have hb := hB.b
  have hl : lv_has ls 4 [(0, .ref (G.2.2.1 139)), (1, .int p1)] := hl
  unfold f_X9_line at hf
  refine lv_iload_n hx hb dX9_line_0 rfl (lv_at hl 1 rfl) ?_
  refine lv_bipush (v := (10 : Int32)) hx hb dX9_line_1 (by decide) ?_
  refine lv_bipush (v := (60 : Int32)) hx hb dX9_line_3 (by decide) ?_
  obtain ⟨x1, hg2, hf⟩ := b_o1 hf
  refine x_ci hB (x_rs hB hW hS (As := [.int p1, .int (10 : Int32), .int (60 : Int32)]) (rest := []) (ct_X9_bound l G hg2) (cl_RX9_217 hB.2.2.2.2.1 ⟨Nat.le_of_ble_eq_true rfl, Nat.le_of_ble_eq_true rfl⟩) rfl hl.1 rfl (Nat.le_of_ble_eq_true rfl) dX9_line_5 ⟨Nat.le_refl _, Nat.le_refl _⟩) hS (fun H locs hW hS => ?_)
  refine lv_istore_n (lv' := [(2, .int x1), (0, .ref (G.2.2.1 139)), (1, .int p1)]) hx hb dX9_line_8 rfl hl (by decide) rfl (fun ls hl => ?_)
  refine lv_iload_n hx hb dX9_line_9 rfl (lv_at hl 0 rfl) ?_
  refine lv_if_eq (tgt := 19) hx hb dX9_line_10 (by decide) (fun c3 => ?_) (fun c3 => ?_)
  · have hf := i_t hf c3
    refine lv_aload_n hx hb dX9_line_19 rfl (lv_at hl 1 rfl) ?_
    obtain ⟨M4, hg5, hf⟩ := b_o1 hf
    refine x_cv hB (x_rv hB hW hS (As := []) (rest := []) (ct_X9_remembers l G hg5) (cl_RX9_314 hB.2.2.2.2.1 ⟨Nat.le_of_ble_eq_true rfl, Nat.le_of_ble_eq_true rfl⟩) tl139 (by decide) rfl rfl hl.1 rfl (Nat.le_of_ble_eq_true rfl) dX9_line_20 ⟨Nat.le_refl _, Nat.le_refl _⟩) hS (fun H locs hW hS => ?_)
    refine lv_aload_n hx hb dX9_line_23 rfl (lv_at hl 1 rfl) ?_
    refine fg9_11 hB hW tl139 wd5_90 dX9_line_24 ?_
    refine lv_topi (fun x6 ex6 => ?_)
    have hf := nm_o hf ex6
    refine lv_istore_n (lv' := [(3, .int x6), (2, .int x1), (0, .ref (G.2.2.1 139)), (1, .int p1)]) hx hb dX9_line_27 rfl hl (by decide) rfl (fun ls hl => ?_)
    refine lv_aload_n hx hb dX9_line_28 rfl (lv_at hl 2 rfl) ?_
    refine lv_iload_n hx hb dX9_line_29 rfl (lv_at hl 3 rfl) ?_
    refine fp9_11 hB hW hS tl139 wd5_90 dX9_line_30 (fun H locs M7 eM7 hW hS => ?_)
    have hf := nm_o hf eM7
    refine lv_iload_n hx hb dX9_line_33 rfl (lv_at hl 0 rfl) ?_
    exact e_i hB hW hS hr hlk (s_1 hf) (s_2 hf) dX9_line_34
  · have hf := i_f hf c3
    refine lv_aload_n hx hb dX9_line_13 rfl (lv_at hl 1 rfl) ?_
    refine lv_iload_n hx hb dX9_line_14 rfl (lv_at hl 0 rfl) ?_
    obtain ⟨x8, M9, hg10, hf⟩ := b_o2 hf
    refine x_ci hB (x_rv hB hW hS (As := [.int x1]) (rest := []) (ct_X9_no l G hg10) (cl_RX9_224 hB.2.2.2.2.1 ⟨Nat.le_of_ble_eq_true rfl, Nat.le_of_ble_eq_true rfl⟩) tl139 (by decide) rfl rfl hl.1 rfl (Nat.le_of_ble_eq_true rfl) dX9_line_15 ⟨Nat.le_refl _, Nat.le_refl _⟩) hS (fun H locs hW hS => ?_)
    exact e_i hB hW hS hr hlk (s_1 hf) (s_2 hf) dX9_line_18
def f_X9_glue (p1 : Int32) (p2 : Int32) (p3 : Int32) (M : Mem) : Option (Int32 × Mem) := (nmq ((if p1 < (2 : Int32) then ((-4 : Int32)) else (if p2 < 0 then ((-4 : Int32)) else (if 0 ≤ p3 then (if (9 : Int32) < p1 then ((-6 : Int32)) else (if (9 : Int32) < p2 then ((-6 : Int32)) else (if p3 ≤ p1 then ((0 : Int32)) else ((-6 : Int32))))) else ((-4 : Int32)))))) (fun (x1 : Int32) => (if x1 = 0 then (bq1 (f_X9_remembers M) (fun (M4 : Mem) => nmq (((((100 : Int32) * (gi M4 139 12)) + ((10 : Int32) * (gi M4 139 13))) + (gi M4 139 14))) (fun (x6 : Int32) => nmq (si M4 139 12 p1) (fun (M7 : Mem) => nmq (si M7 139 13 p2) (fun (M8 : Mem) => nmq (si M8 139 14 p3) (fun (M9 : Mem) => some (x6, M9))))))) else (bq2 (f_X9_no x1 M) (fun (x10 : Int32) (M11 : Mem) => some (x10, M11))))))
set_option maxHeartbeats 4000000 in
set_option maxRecDepth 100000 in
theorem ct_X9_glue (l : Launch) (G : GG) {p1 : Int32} {p2 : Int32} {p3 : Int32} {M : Mem} {r : Int32} {Mr : Mem}  (hf : f_X9_glue p1 p2 p3 M = some (r, Mr)) : Met l yX9_glue (wsq yX9_glue cX9_glue 6 (some .int)) (rmq 3 64) (va_Pc [.ref (G.2.2.1 139), .int p1, .int p2, .int p3] (World G M)) (Qi G r Mr) 0 0 (adA G) := by
  refine x_start (plainFor_of_name (by decide)) (Nat.le_of_ble_eq_true rfl) ?_
  intro p e s m args below meth c hB hr hlk hW hS ls hl
  have hx := hB.x
  have hb := hB.b
  have hl : lv_has ls 6 [(0, .ref (G.2.2.1 139)), (1, .int p1), (2, .int p2), (3, .int p3)] := hl
  unfold f_X9_glue at hf
  refine lv_iload_n hx hb dX9_glue_0 rfl (lv_at hl 1 rfl) ?_
  refine lv_iconst (v := (2 : Int32)) hx hb dX9_glue_1 (by decide) ?_
  obtain ⟨y13, evy13⟩ : ∃ z : Int32, (if p1 < (2 : Int32) then ((-4 : Int32)) else (if p2 < 0 then ((-4 : Int32)) else (if 0 ≤ p3 then (if (9 : Int32) < p1 then ((-6 : Int32)) else (if (9 : Int32) < p2 then ((-6 : Int32)) else (if p3 ≤ p1 then ((0 : Int32)) else ((-6 : Int32))))) else ((-4 : Int32))))) = z := ⟨_, rfl⟩
  have hf := nm_o hf evy13.symm
  have main2 : ∀ (x1 : Int32) (H : Heap) (locs : List Loc) (ls : Array Slot), Wd G M H → va_S (adA G) s.heap H locs → lv_has ls 6 [(0, .ref (G.2.2.1 139)), (1, .int p1), (2, .int p2), (3, .int p3)] → x1 = y13 → W p l e (rmq 3 64) s m args below meth c H locs 0 0 (MQ below (Qi G r Mr) args s 0 0 (adA G)) (F0 m 41 ls [.int x1]) := by
    intro x1 H locs ls hW hS hl hE
    have hE := hE.symm
    subst hE
    refine lv_istore (lv' := [(4, .int y13), (0, .ref (G.2.2.1 139)), (1, .int p1), (2, .int p2), (3, .int p3)]) hx hb dX9_glue_41 hl (by decide) rfl (fun ls hl => ?_)
    refine lv_iload hx hb dX9_glue_43 (lv_at hl 0 rfl) ?_
    refine lv_if_eq (tgt := 55) hx hb dX9_glue_45 (by decide) (fun c3 => ?_) (fun c3 => ?_)
    · have hf := i_t hf c3
      refine lv_aload_n hx hb dX9_glue_55 rfl (lv_at hl 1 rfl) ?_
      obtain ⟨M4, hg5, hf⟩ := b_o1 hf
      refine x_cv hB (x_rv hB hW hS (As := []) (rest := []) (ct_X9_remembers l G hg5) (cl_RX9_314 hB.2.2.2.2.1 ⟨Nat.le_of_ble_eq_true rfl, Nat.le_of_ble_eq_true rfl⟩) tl139 (by decide) rfl rfl hl.1 rfl (Nat.le_of_ble_eq_true rfl) dX9_glue_56 ⟨Nat.le_refl _, Nat.le_refl _⟩) hS (fun H locs hW hS => ?_)
      refine lv_bipush (v := (100 : Int32)) hx hb dX9_glue_59 (by decide) ?_
      refine lv_aload_n hx hb dX9_glue_61 rfl (lv_at hl 1 rfl) ?_
      refine fg9_12 hB hW tl139 wd5_91 dX9_glue_62 ?_
      refine lv_imul hx hb dX9_glue_65 ?_
      refine lv_bipush (v := (10 : Int32)) hx hb dX9_glue_66 (by decide) ?_
      refine lv_aload_n hx hb dX9_glue_68 rfl (lv_at hl 1 rfl) ?_
      refine fg9_13 hB hW tl139 wd5_92 dX9_glue_69 ?_
      refine lv_imul hx hb dX9_glue_72 ?_
      refine lv_iadd hx hb dX9_glue_73 ?_
      refine lv_aload_n hx hb dX9_glue_74 rfl (lv_at hl 1 rfl) ?_
      refine fg9_14 hB hW tl139 wd5_93 dX9_glue_75 ?_
      refine lv_iadd hx hb dX9_glue_78 ?_
      refine lv_topi (fun x6 ex6 => ?_)
      have hf := nm_o hf ex6
      refine lv_istore (lv' := [(5, .int x6), (4, .int y13), (0, .ref (G.2.2.1 139)), (1, .int p1), (2, .int p2), (3, .int p3)]) hx hb dX9_glue_79 hl (by decide) rfl (fun ls hl => ?_)
      refine lv_aload_n hx hb dX9_glue_81 rfl (lv_at hl 2 rfl) ?_
      refine lv_iload_n hx hb dX9_glue_82 rfl (lv_at hl 3 rfl) ?_
      refine fp9_12 hB hW hS tl139 wd5_91 dX9_glue_83 (fun H locs M7 eM7 hW hS => ?_)
      have hf := nm_o hf eM7
      refine lv_aload_n hx hb dX9_glue_86 rfl (lv_at hl 2 rfl) ?_
      refine lv_iload_n hx hb dX9_glue_87 rfl (lv_at hl 4 rfl) ?_
      refine fp9_13 hB hW hS tl139 wd5_92 dX9_glue_88 (fun H locs M8 eM8 hW hS => ?_)
      have hf := nm_o hf eM8
      refine lv_aload_n hx hb dX9_glue_91 rfl (lv_at hl 2 rfl) ?_
      refine lv_iload_n hx hb dX9_glue_92 rfl (lv_at hl 5 rfl) ?_
      refine fp9_14 hB hW hS tl139 wd5_93 dX9_glue_93 (fun H locs M9 eM9 hW hS => ?_)
      have hf := nm_o hf eM9
      refine lv_iload hx hb dX9_glue_96 (lv_at hl 0 rfl) ?_
      exact e_i hB hW hS hr hlk (s_1 hf) (s_2 hf) dX9_glue_98
    · have hf := i_f hf c3
      refine lv_aload_n hx hb dX9_glue_48 rfl (lv_at hl 1 rfl) ?_
      refine lv_iload hx hb dX9_glue_49 (lv_at hl 0 rfl) ?_
      obtain ⟨x10, M11, hg12, hf⟩ := b_o2 hf
      refine x_ci hB (x_rv hB hW hS (As := [.int y13]) (rest := []) (ct_X9_no l G hg12) (cl_RX9_224 hB.2.2.2.2.1 ⟨Nat.le_of_ble_eq_true rfl, Nat.le_of_ble_eq_true rfl⟩) tl139 (by decide) rfl rfl hl.1 rfl (Nat.le_of_ble_eq_true rfl) dX9_glue_51 ⟨Nat.le_refl _, Nat.le_refl _⟩) hS (fun H locs hW hS => ?_)
      exact e_i hB hW hS hr hlk (s_1 hf) (s_2 hf) dX9_glue_54
  have hf := evy13
  refine lv_icmp_lt (tgt := 13) hx hb dX9_glue_2 (by decide) (fun c14 => ?_) (fun c14 => ?_)
  · have hf := i_t hf c14
    refine lv_bipush (v := (-4 : Int32)) hx hb dX9_glue_13 (by decide) ?_
    refine lv_goto (tgt := 41) hx hb dX9_glue_15 (by decide) ?_
    exact main2 (-4 : Int32) _ _ ls hW hS (lv_sub hl [0, 1, 2, 3] rfl) hf
  · have hf := i_f hf c14
    refine lv_iload_n hx hb dX9_glue_5 rfl (lv_at hl 2 rfl) ?_
    refine lv_if_lt (tgt := 13) hx hb dX9_glue_6 (by decide) (fun c15 => ?_) (fun c15 => ?_)
    · have hf := i_t hf c15
      refine lv_bipush (v := (-4 : Int32)) hx hb dX9_glue_13 (by decide) ?_
      refine lv_goto (tgt := 41) hx hb dX9_glue_15 (by decide) ?_
      exact main2 (-4 : Int32) _ _ ls hW hS (lv_sub hl [0, 1, 2, 3] rfl) hf
    · have hf := i_f hf c15
      refine lv_iload_n hx hb dX9_glue_9 rfl (lv_at hl 3 rfl) ?_
      refine lv_if_ge (tgt := 18) hx hb dX9_glue_10 (by decide) (fun c16 => ?_) (fun c16 => ?_)
      · have hf := i_t hf c16
        refine lv_iload_n hx hb dX9_glue_18 rfl (lv_at hl 1 rfl) ?_
        refine lv_bipush (v := (9 : Int32)) hx hb dX9_glue_19 (by decide) ?_
        refine lv_icmp_gt (tgt := 35) hx hb dX9_glue_21 (by decide) (fun c17 => ?_) (fun c17 => ?_)
        · have hf := i_t hf c17
          refine lv_bipush (v := (-6 : Int32)) hx hb dX9_glue_35 (by decide) ?_
          refine lv_goto (tgt := 41) hx hb dX9_glue_37 (by decide) ?_
          exact main2 (-6 : Int32) _ _ ls hW hS (lv_sub hl [0, 1, 2, 3] rfl) hf
        · have hf := i_f hf c17
          refine lv_iload_n hx hb dX9_glue_24 rfl (lv_at hl 2 rfl) ?_
          refine lv_bipush (v := (9 : Int32)) hx hb dX9_glue_25 (by decide) ?_
          refine lv_icmp_gt (tgt := 35) hx hb dX9_glue_27 (by decide) (fun c18 => ?_) (fun c18 => ?_)
          · have hf := i_t hf c18
            refine lv_bipush (v := (-6 : Int32)) hx hb dX9_glue_35 (by decide) ?_
            refine lv_goto (tgt := 41) hx hb dX9_glue_37 (by decide) ?_
            exact main2 (-6 : Int32) _ _ ls hW hS (lv_sub hl [0, 1, 2, 3] rfl) hf
          · have hf := i_f hf c18
            refine lv_iload_n hx hb dX9_glue_30 rfl (lv_at hl 3 rfl) ?_
            refine lv_iload_n hx hb dX9_glue_31 rfl (lv_at hl 1 rfl) ?_
            refine lv_icmp_le (tgt := 40) hx hb dX9_glue_32 (by decide) (fun c19 => ?_) (fun c19 => ?_)
            · have hf := i_t hf c19
              refine lv_iconst (v := (0 : Int32)) hx hb dX9_glue_40 (by decide) ?_
              exact main2 (0 : Int32) _ _ ls hW hS (lv_sub hl [0, 1, 2, 3] rfl) hf
            · have hf := i_f hf c19
              refine lv_bipush (v := (-6 : Int32)) hx hb dX9_glue_35 (by decide) ?_
              refine lv_goto (tgt := 41) hx hb dX9_glue_37 (by decide) ?_
              exact main2 (-6 : Int32) _ _ ls hW hS (lv_sub hl [0, 1, 2, 3] rfl) hf
      · have hf := i_f hf c16
        refine lv_bipush (v := (-4 : Int32)) hx hb dX9_glue_13 (by decide) ?_
        refine lv_goto (tgt := 41) hx hb dX9_glue_15 (by decide) ?_
        exact main2 (-4 : Int32) _ _ ls hW hS (lv_sub hl [0, 1, 2, 3] rfl) hf
def f_X9_tolerance (p1 : Int32) (M : Mem) : Option (Int32 × Mem) := (bq1 (f_X9_bound p1 (0 : Int32) (40 : Int32)) (fun (x1 : Int32) => (if x1 = 0 then (bq1 (f_X9_remembers M) (fun (M4 : Mem) => nmq ((gi M4 139 15)) (fun (x6 : Int32) => nmq (si M4 139 15 p1) (fun (M7 : Mem) => some (x6, M7))))) else (bq2 (f_X9_no x1 M) (fun (x8 : Int32) (M9 : Mem) => some (x8, M9))))))
set_option maxHeartbeats 4000000 in
set_option maxRecDepth 100000 in
theorem ct_X9_tolerance (l : Launch) (G : GG) {p1 : Int32} {M : Mem} {r : Int32} {Mr : Mem}  (hf : f_X9_tolerance p1 M = some (r, Mr)) : Met l yX9_tolerance (wsq yX9_tolerance cX9_tolerance 4 (some .int)) (rmq 3 64) (va_Pc [.ref (G.2.2.1 139), .int p1] (World G M)) (Qi G r Mr) 0 0 (adA G) := by
  refine x_start (plainFor_of_name (by decide)) (Nat.le_of_ble_eq_true rfl) ?_
  intro p e s m args below meth c hB hr hlk hW hS ls hl
  have hx := hB.x
  have hb := hB.b
  have hl : lv_has ls 4 [(0, .ref (G.2.2.1 139)), (1, .int p1)] := hl
  unfold f_X9_tolerance at hf
  refine lv_iload_n hx hb dX9_tolerance_0 rfl (lv_at hl 1 rfl) ?_
  refine lv_iconst (v := (0 : Int32)) hx hb dX9_tolerance_1 (by decide) ?_
  refine lv_bipush (v := (40 : Int32)) hx hb dX9_tolerance_2 (by decide) ?_
  obtain ⟨x1, hg2, hf⟩ := b_o1 hf
  refine x_ci hB (x_rs hB hW hS (As := [.int p1, .int (0 : Int32), .int (40 : Int32)]) (rest := []) (ct_X9_bound l G hg2) (cl_RX9_217 hB.2.2.2.2.1 ⟨Nat.le_of_ble_eq_true rfl, Nat.le_of_ble_eq_true rfl⟩) rfl hl.1 rfl (Nat.le_of_ble_eq_true rfl) dX9_tolerance_4 ⟨Nat.le_refl _, Nat.le_refl _⟩) hS (fun H locs hW hS => ?_)
  refine lv_istore_n (lv' := [(2, .int x1), (0, .ref (G.2.2.1 139)), (1, .int p1)]) hx hb dX9_tolerance_7 rfl hl (by decide) rfl (fun ls hl => ?_)
  refine lv_iload_n hx hb dX9_tolerance_8 rfl (lv_at hl 0 rfl) ?_
  refine lv_if_eq (tgt := 18) hx hb dX9_tolerance_9 (by decide) (fun c3 => ?_) (fun c3 => ?_)
  · have hf := i_t hf c3
    refine lv_aload_n hx hb dX9_tolerance_18 rfl (lv_at hl 1 rfl) ?_
    obtain ⟨M4, hg5, hf⟩ := b_o1 hf
    refine x_cv hB (x_rv hB hW hS (As := []) (rest := []) (ct_X9_remembers l G hg5) (cl_RX9_314 hB.2.2.2.2.1 ⟨Nat.le_of_ble_eq_true rfl, Nat.le_of_ble_eq_true rfl⟩) tl139 (by decide) rfl rfl hl.1 rfl (Nat.le_of_ble_eq_true rfl) dX9_tolerance_19 ⟨Nat.le_refl _, Nat.le_refl _⟩) hS (fun H locs hW hS => ?_)
    refine lv_aload_n hx hb dX9_tolerance_22 rfl (lv_at hl 1 rfl) ?_
    refine fg9_15 hB hW tl139 wd5_94 dX9_tolerance_23 ?_
    refine lv_topi (fun x6 ex6 => ?_)
    have hf := nm_o hf ex6
    refine lv_istore_n (lv' := [(3, .int x6), (2, .int x1), (0, .ref (G.2.2.1 139)), (1, .int p1)]) hx hb dX9_tolerance_26 rfl hl (by decide) rfl (fun ls hl => ?_)
    refine lv_aload_n hx hb dX9_tolerance_27 rfl (lv_at hl 2 rfl) ?_
    refine lv_iload_n hx hb dX9_tolerance_28 rfl (lv_at hl 3 rfl) ?_
    refine fp9_15 hB hW hS tl139 wd5_94 dX9_tolerance_29 (fun H locs M7 eM7 hW hS => ?_)
    have hf := nm_o hf eM7
    refine lv_iload_n hx hb dX9_tolerance_32 rfl (lv_at hl 0 rfl) ?_
    exact e_i hB hW hS hr hlk (s_1 hf) (s_2 hf) dX9_tolerance_33
  · have hf := i_f hf c3
    refine lv_aload_n hx hb dX9_tolerance_12 rfl (lv_at hl 1 rfl) ?_
    refine lv_iload_n hx hb dX9_tolerance_13 rfl (lv_at hl 0 rfl) ?_
    obtain ⟨x8, M9, hg10, hf⟩ := b_o2 hf
    refine x_ci hB (x_rv hB hW hS (As := [.int x1]) (rest := []) (ct_X9_no l G hg10) (cl_RX9_224 hB.2.2.2.2.1 ⟨Nat.le_of_ble_eq_true rfl, Nat.le_of_ble_eq_true rfl⟩) tl139 (by decide) rfl rfl hl.1 rfl (Nat.le_of_ble_eq_true rfl) dX9_tolerance_14 ⟨Nat.le_refl _, Nat.le_refl _⟩) hS (fun H locs hW hS => ?_)
    exact e_i hB hW hS hr hlk (s_1 hf) (s_2 hf) dX9_tolerance_17
def f_X9_hyphen (p1 : Int32) (M : Mem) : Option (Int32 × Mem) := (bq1 (f_X9_bound p1 (0 : Int32) (99 : Int32)) (fun (x1 : Int32) => (if x1 = 0 then (bq1 (f_X9_remembers M) (fun (M4 : Mem) => nmq ((gi M4 139 16)) (fun (x6 : Int32) => nmq (si M4 139 16 p1) (fun (M7 : Mem) => some (x6, M7))))) else (bq2 (f_X9_no x1 M) (fun (x8 : Int32) (M9 : Mem) => some (x8, M9))))))
set_option maxHeartbeats 4000000 in
set_option maxRecDepth 100000 in
theorem ct_X9_hyphen (l : Launch) (G : GG) {p1 : Int32} {M : Mem} {r : Int32} {Mr : Mem}  (hf : f_X9_hyphen p1 M = some (r, Mr)) : Met l yX9_hyphen (wsq yX9_hyphen cX9_hyphen 4 (some .int)) (rmq 3 64) (va_Pc [.ref (G.2.2.1 139), .int p1] (World G M)) (Qi G r Mr) 0 0 (adA G) := by
  refine x_start (plainFor_of_name (by decide)) (Nat.le_of_ble_eq_true rfl) ?_
  intro p e s m args below meth c hB hr hlk hW hS ls hl
  have hx := hB.x
  have hb := hB.b
  have hl : lv_has ls 4 [(0, .ref (G.2.2.1 139)), (1, .int p1)] := hl
  unfold f_X9_hyphen at hf
  refine lv_iload_n hx hb dX9_hyphen_0 rfl (lv_at hl 1 rfl) ?_
  refine lv_iconst (v := (0 : Int32)) hx hb dX9_hyphen_1 (by decide) ?_
  refine lv_bipush (v := (99 : Int32)) hx hb dX9_hyphen_2 (by decide) ?_
  obtain ⟨x1, hg2, hf⟩ := b_o1 hf
  refine x_ci hB (x_rs hB hW hS (As := [.int p1, .int (0 : Int32), .int (99 : Int32)]) (rest := []) (ct_X9_bound l G hg2) (cl_RX9_217 hB.2.2.2.2.1 ⟨Nat.le_of_ble_eq_true rfl, Nat.le_of_ble_eq_true rfl⟩) rfl hl.1 rfl (Nat.le_of_ble_eq_true rfl) dX9_hyphen_4 ⟨Nat.le_refl _, Nat.le_refl _⟩) hS (fun H locs hW hS => ?_)
  refine lv_istore_n (lv' := [(2, .int x1), (0, .ref (G.2.2.1 139)), (1, .int p1)]) hx hb dX9_hyphen_7 rfl hl (by decide) rfl (fun ls hl => ?_)
  refine lv_iload_n hx hb dX9_hyphen_8 rfl (lv_at hl 0 rfl) ?_
  refine lv_if_eq (tgt := 18) hx hb dX9_hyphen_9 (by decide) (fun c3 => ?_) (fun c3 => ?_)
  · have hf := i_t hf c3
    refine lv_aload_n hx hb dX9_hyphen_18 rfl (lv_at hl 1 rfl) ?_
    obtain ⟨M4, hg5, hf⟩ := b_o1 hf
    refine x_cv hB (x_rv hB hW hS (As := []) (rest := []) (ct_X9_remembers l G hg5) (cl_RX9_314 hB.2.2.2.2.1 ⟨Nat.le_of_ble_eq_true rfl, Nat.le_of_ble_eq_true rfl⟩) tl139 (by decide) rfl rfl hl.1 rfl (Nat.le_of_ble_eq_true rfl) dX9_hyphen_19 ⟨Nat.le_refl _, Nat.le_refl _⟩) hS (fun H locs hW hS => ?_)
    refine lv_aload_n hx hb dX9_hyphen_22 rfl (lv_at hl 1 rfl) ?_
    refine fg9_16 hB hW tl139 wd5_95 dX9_hyphen_23 ?_
    refine lv_topi (fun x6 ex6 => ?_)
    have hf := nm_o hf ex6
    refine lv_istore_n (lv' := [(3, .int x6), (2, .int x1), (0, .ref (G.2.2.1 139)), (1, .int p1)]) hx hb dX9_hyphen_26 rfl hl (by decide) rfl (fun ls hl => ?_)
    refine lv_aload_n hx hb dX9_hyphen_27 rfl (lv_at hl 2 rfl) ?_
    refine lv_iload_n hx hb dX9_hyphen_28 rfl (lv_at hl 3 rfl) ?_
    refine fp9_16 hB hW hS tl139 wd5_95 dX9_hyphen_29 (fun H locs M7 eM7 hW hS => ?_)
    have hf := nm_o hf eM7
    refine lv_iload_n hx hb dX9_hyphen_32 rfl (lv_at hl 0 rfl) ?_
    exact e_i hB hW hS hr hlk (s_1 hf) (s_2 hf) dX9_hyphen_33
  · have hf := i_f hf c3
    refine lv_aload_n hx hb dX9_hyphen_12 rfl (lv_at hl 1 rfl) ?_
    refine lv_iload_n hx hb dX9_hyphen_13 rfl (lv_at hl 0 rfl) ?_
    obtain ⟨x8, M9, hg10, hf⟩ := b_o2 hf
    refine x_ci hB (x_rv hB hW hS (As := [.int x1]) (rest := []) (ct_X9_no l G hg10) (cl_RX9_224 hB.2.2.2.2.1 ⟨Nat.le_of_ble_eq_true rfl, Nat.le_of_ble_eq_true rfl⟩) tl139 (by decide) rfl rfl hl.1 rfl (Nat.le_of_ble_eq_true rfl) dX9_hyphen_14 ⟨Nat.le_refl _, Nat.le_refl _⟩) hS (fun H locs hW hS => ?_)
    exact e_i hB hW hS hr hlk (s_1 hf) (s_2 hf) dX9_hyphen_17
def f_X9_widow (p1 : Int32) (M : Mem) : Option (Int32 × Mem) := (bq1 (f_X9_bound p1 (0 : Int32) (9 : Int32)) (fun (x1 : Int32) => (if x1 = 0 then (bq1 (f_X9_remembers M) (fun (M4 : Mem) => nmq ((gi M4 139 17)) (fun (x6 : Int32) => nmq (si M4 139 17 p1) (fun (M7 : Mem) => some (x6, M7))))) else (bq2 (f_X9_no x1 M) (fun (x8 : Int32) (M9 : Mem) => some (x8, M9))))))
set_option maxHeartbeats 4000000 in
set_option maxRecDepth 100000 in
theorem ct_X9_widow (l : Launch) (G : GG) {p1 : Int32} {M : Mem} {r : Int32} {Mr : Mem}  (hf : f_X9_widow p1 M = some (r, Mr)) : Met l yX9_widow (wsq yX9_widow cX9_widow 4 (some .int)) (rmq 3 64) (va_Pc [.ref (G.2.2.1 139), .int p1] (World G M)) (Qi G r Mr) 0 0 (adA G) := by
  refine x_start (plainFor_of_name (by decide)) (Nat.le_of_ble_eq_true rfl) ?_
  intro p e s m args below meth c hB hr hlk hW hS ls hl
  have hx := hB.x
  have hb := hB.b
  have hl : lv_has ls 4 [(0, .ref (G.2.2.1 139)), (1, .int p1)] := hl
  unfold f_X9_widow at hf
  refine lv_iload_n hx hb dX9_widow_0 rfl (lv_at hl 1 rfl) ?_
  refine lv_iconst (v := (0 : Int32)) hx hb dX9_widow_1 (by decide) ?_
  refine lv_bipush (v := (9 : Int32)) hx hb dX9_widow_2 (by decide) ?_
  obtain ⟨x1, hg2, hf⟩ := b_o1 hf
  refine x_ci hB (x_rs hB hW hS (As := [.int p1, .int (0 : Int32), .int (9 : Int32)]) (rest := []) (ct_X9_bound l G hg2) (cl_RX9_217 hB.2.2.2.2.1 ⟨Nat.le_of_ble_eq_true rfl, Nat.le_of_ble_eq_true rfl⟩) rfl hl.1 rfl (Nat.le_of_ble_eq_true rfl) dX9_widow_4 ⟨Nat.le_refl _, Nat.le_refl _⟩) hS (fun H locs hW hS => ?_)
  refine lv_istore_n (lv' := [(2, .int x1), (0, .ref (G.2.2.1 139)), (1, .int p1)]) hx hb dX9_widow_7 rfl hl (by decide) rfl (fun ls hl => ?_)
  refine lv_iload_n hx hb dX9_widow_8 rfl (lv_at hl 0 rfl) ?_
  refine lv_if_eq (tgt := 18) hx hb dX9_widow_9 (by decide) (fun c3 => ?_) (fun c3 => ?_)
  · have hf := i_t hf c3
    refine lv_aload_n hx hb dX9_widow_18 rfl (lv_at hl 1 rfl) ?_
    obtain ⟨M4, hg5, hf⟩ := b_o1 hf
    refine x_cv hB (x_rv hB hW hS (As := []) (rest := []) (ct_X9_remembers l G hg5) (cl_RX9_314 hB.2.2.2.2.1 ⟨Nat.le_of_ble_eq_true rfl, Nat.le_of_ble_eq_true rfl⟩) tl139 (by decide) rfl rfl hl.1 rfl (Nat.le_of_ble_eq_true rfl) dX9_widow_19 ⟨Nat.le_refl _, Nat.le_refl _⟩) hS (fun H locs hW hS => ?_)
    refine lv_aload_n hx hb dX9_widow_22 rfl (lv_at hl 1 rfl) ?_
    refine fg9_17 hB hW tl139 wd5_96 dX9_widow_23 ?_
    refine lv_topi (fun x6 ex6 => ?_)
    have hf := nm_o hf ex6
    refine lv_istore_n (lv' := [(3, .int x6), (2, .int x1), (0, .ref (G.2.2.1 139)), (1, .int p1)]) hx hb dX9_widow_26 rfl hl (by decide) rfl (fun ls hl => ?_)
    refine lv_aload_n hx hb dX9_widow_27 rfl (lv_at hl 2 rfl) ?_
    refine lv_iload_n hx hb dX9_widow_28 rfl (lv_at hl 3 rfl) ?_
    refine fp9_17 hB hW hS tl139 wd5_96 dX9_widow_29 (fun H locs M7 eM7 hW hS => ?_)
    have hf := nm_o hf eM7
    refine lv_iload_n hx hb dX9_widow_32 rfl (lv_at hl 0 rfl) ?_
    exact e_i hB hW hS hr hlk (s_1 hf) (s_2 hf) dX9_widow_33
  · have hf := i_f hf c3
    refine lv_aload_n hx hb dX9_widow_12 rfl (lv_at hl 1 rfl) ?_
    refine lv_iload_n hx hb dX9_widow_13 rfl (lv_at hl 0 rfl) ?_
    obtain ⟨x8, M9, hg10, hf⟩ := b_o2 hf
    refine x_ci hB (x_rv hB hW hS (As := [.int x1]) (rest := []) (ct_X9_no l G hg10) (cl_RX9_224 hB.2.2.2.2.1 ⟨Nat.le_of_ble_eq_true rfl, Nat.le_of_ble_eq_true rfl⟩) tl139 (by decide) rfl rfl hl.1 rfl (Nat.le_of_ble_eq_true rfl) dX9_widow_14 ⟨Nat.le_refl _, Nat.le_refl _⟩) hS (fun H locs hW hS => ?_)
    exact e_i hB hW hS hr hlk (s_1 hf) (s_2 hf) dX9_widow_17
def f_X9_manner (p1 : Int32) (M : Mem) : Option (Int32 × Mem) := (bq1 (f_X9_isIn p1 (0 : Int32) (2 : Int32)) (fun (x1 : Int32) => (if x1 = 0 then (bq2 (f_X9_no (-2 : Int32) M) (fun (x8 : Int32) (M9 : Mem) => some (x8, M9))) else (bq1 (f_X9_remembers M) (fun (M4 : Mem) => nmq ((gi M4 139 18)) (fun (x6 : Int32) => nmq (si M4 139 18 p1) (fun (M7 : Mem) => some (x6, M7))))))))
set_option maxHeartbeats 4000000 in
set_option maxRecDepth 100000 in
theorem ct_X9_manner (l : Launch) (G : GG) {p1 : Int32} {M : Mem} {r : Int32} {Mr : Mem}  (hf : f_X9_manner p1 M = some (r, Mr)) : Met l yX9_manner (wsq yX9_manner cX9_manner 3 (some .int)) (rmq 3 64) (va_Pc [.ref (G.2.2.1 139), .int p1] (World G M)) (Qi G r Mr) 0 0 (adA G) := by
  refine x_start (plainFor_of_name (by decide)) (Nat.le_of_ble_eq_true rfl) ?_
  intro p e s m args below meth c hB hr hlk hW hS ls hl
  have hx := hB.x
  have hb := hB.b
  have hl : lv_has ls 3 [(0, .ref (G.2.2.1 139)), (1, .int p1)] := hl
  unfold f_X9_manner at hf
  refine lv_iload_n hx hb dX9_manner_0 rfl (lv_at hl 1 rfl) ?_
  refine lv_iconst (v := (0 : Int32)) hx hb dX9_manner_1 (by decide) ?_
  refine lv_iconst (v := (2 : Int32)) hx hb dX9_manner_2 (by decide) ?_
  obtain ⟨x1, hg2, hf⟩ := b_o1 hf
  refine x_ci hB (x_rs hB hW hS (As := [.int p1, .int (0 : Int32), .int (2 : Int32)]) (rest := []) (ct_X9_isIn l G hg2) (cl_RX9_125 hB.2.2.2.2.1 ⟨Nat.le_of_ble_eq_true rfl, Nat.le_of_ble_eq_true rfl⟩) rfl hl.1 rfl (Nat.le_of_ble_eq_true rfl) dX9_manner_3 ⟨Nat.le_refl _, Nat.le_refl _⟩) hS (fun H locs hW hS => ?_)
  refine lv_if_ne (tgt := 16) hx hb dX9_manner_6 (by decide) (fun c3 => ?_) (fun c3 => ?_)
  · have hf := i_f hf c3
    refine lv_aload_n hx hb dX9_manner_16 rfl (lv_at hl 0 rfl) ?_
    obtain ⟨M4, hg5, hf⟩ := b_o1 hf
    refine x_cv hB (x_rv hB hW hS (As := []) (rest := []) (ct_X9_remembers l G hg5) (cl_RX9_314 hB.2.2.2.2.1 ⟨Nat.le_of_ble_eq_true rfl, Nat.le_of_ble_eq_true rfl⟩) tl139 (by decide) rfl rfl hl.1 rfl (Nat.le_of_ble_eq_true rfl) dX9_manner_17 ⟨Nat.le_refl _, Nat.le_refl _⟩) hS (fun H locs hW hS => ?_)
    refine lv_aload_n hx hb dX9_manner_20 rfl (lv_at hl 0 rfl) ?_
    refine fg9_18 hB hW tl139 wd5_97 dX9_manner_21 ?_
    refine lv_topi (fun x6 ex6 => ?_)
    have hf := nm_o hf ex6
    refine lv_istore_n (lv' := [(2, .int x6), (0, .ref (G.2.2.1 139)), (1, .int p1)]) hx hb dX9_manner_24 rfl hl (by decide) rfl (fun ls hl => ?_)
    refine lv_aload_n hx hb dX9_manner_25 rfl (lv_at hl 1 rfl) ?_
    refine lv_iload_n hx hb dX9_manner_26 rfl (lv_at hl 2 rfl) ?_
    refine fp9_18 hB hW hS tl139 wd5_97 dX9_manner_27 (fun H locs M7 eM7 hW hS => ?_)
    have hf := nm_o hf eM7
    refine lv_iload_n hx hb dX9_manner_30 rfl (lv_at hl 0 rfl) ?_
    exact e_i hB hW hS hr hlk (s_1 hf) (s_2 hf) dX9_manner_31
  · have hf := i_t hf c3
    refine lv_aload_n hx hb dX9_manner_9 rfl (lv_at hl 0 rfl) ?_
    refine lv_bipush (v := (-2 : Int32)) hx hb dX9_manner_10 (by decide) ?_
    obtain ⟨x8, M9, hg10, hf⟩ := b_o2 hf
    refine x_ci hB (x_rv hB hW hS (As := [.int (-2 : Int32)]) (rest := []) (ct_X9_no l G hg10) (cl_RX9_224 hB.2.2.2.2.1 ⟨Nat.le_of_ble_eq_true rfl, Nat.le_of_ble_eq_true rfl⟩) tl139 (by decide) rfl rfl hl.1 rfl (Nat.le_of_ble_eq_true rfl) dX9_manner_12 ⟨Nat.le_refl _, Nat.le_refl _⟩) hS (fun H locs hW hS => ?_)
    exact e_i hB hW hS hr hlk (s_1 hf) (s_2 hf) dX9_manner_15
def f_X9_kind (p1 : Int32) (p2 : Int32) (M : Mem) : Option (Int32 × Mem) := (bq1 (f_X9_isIn p1 (0 : Int32) (5 : Int32)) (fun (x1 : Int32) => (bq1 ((if x1 = 0 then (some ((-2 : Int32))) else (bq1 (f_X9_bound p2 (0 : Int32) (9 : Int32)) (fun (x16 : Int32) => (some (x16))))) : Option (Int32)) (fun (x3 : Int32) => (if x3 = 0 then (bq1 (f_X9_remembers M) (fun (M6 : Mem) => nmq ((((10 : Int32) * (gi M6 139 19)) + (gi M6 139 20))) (fun (x8 : Int32) => nmq (si M6 139 19 p1) (fun (M9 : Mem) => nmq (si M9 139 20 p2) (fun (M10 : Mem) => some (x8, M10)))))) else (bq2 (f_X9_no x3 M) (fun (x11 : Int32) (M12 : Mem) => some (x11, M12))))))))
set_option maxHeartbeats 4000000 in
set_option maxRecDepth 100000 in
theorem ct_X9_kind (l : Launch) (G : GG) {p1 : Int32} {p2 : Int32} {M : Mem} {r : Int32} {Mr : Mem}  (hf : f_X9_kind p1 p2 M = some (r, Mr)) : Met l yX9_kind (wsq yX9_kind cX9_kind 5 (some .int)) (rmq 3 64) (va_Pc [.ref (G.2.2.1 139), .int p1, .int p2] (World G M)) (Qi G r Mr) 0 0 (adA G) := by
  refine x_start (plainFor_of_name (by decide)) (Nat.le_of_ble_eq_true rfl) ?_
  intro p e s m args below meth c hB hr hlk hW hS ls hl
  have hx := hB.x
  have hb := hB.b
  have hl : lv_has ls 5 [(0, .ref (G.2.2.1 139)), (1, .int p1), (2, .int p2)] := hl
  unfold f_X9_kind at hf
  refine lv_iload_n hx hb dX9_kind_0 rfl (lv_at hl 1 rfl) ?_
  refine lv_iconst (v := (0 : Int32)) hx hb dX9_kind_1 (by decide) ?_
  refine lv_iconst (v := (5 : Int32)) hx hb dX9_kind_2 (by decide) ?_
  obtain ⟨x1, hg2, hf⟩ := b_o1 hf
  refine x_ci hB (x_rs hB hW hS (As := [.int p1, .int (0 : Int32), .int (5 : Int32)]) (rest := []) (ct_X9_isIn l G hg2) (cl_RX9_125 hB.2.2.2.2.1 ⟨Nat.le_of_ble_eq_true rfl, Nat.le_of_ble_eq_true rfl⟩) rfl hl.1 rfl (Nat.le_of_ble_eq_true rfl) dX9_kind_3 ⟨Nat.le_refl _, Nat.le_refl _⟩) hS (fun H locs hW hS => ?_)
  obtain ⟨y14, hR, hf⟩ := b_o1 hf
  have main4 : ∀ (x3 : Int32) (H : Heap) (locs : List Loc) (ls : Array Slot), Wd G M H → va_S (adA G) s.heap H locs → lv_has ls 5 [(0, .ref (G.2.2.1 139)), (1, .int p1), (2, .int p2)] → some (x3) = some (y14) → W p l e (rmq 3 64) s m args below meth c H locs 0 0 (MQ below (Qi G r Mr) args s 0 0 (adA G)) (F0 m 21 ls [.int x3]) := by
    intro x3 H locs ls hW hS hl hE
    cases hE
    refine lv_istore_n (lv' := [(3, .int y14), (0, .ref (G.2.2.1 139)), (1, .int p1), (2, .int p2)]) hx hb dX9_kind_21 rfl hl (by decide) rfl (fun ls hl => ?_)
    refine lv_iload_n hx hb dX9_kind_22 rfl (lv_at hl 0 rfl) ?_
    refine lv_if_eq (tgt := 32) hx hb dX9_kind_23 (by decide) (fun c5 => ?_) (fun c5 => ?_)
    · have hf := i_t hf c5
      refine lv_aload_n hx hb dX9_kind_32 rfl (lv_at hl 1 rfl) ?_
      obtain ⟨M6, hg7, hf⟩ := b_o1 hf
      refine x_cv hB (x_rv hB hW hS (As := []) (rest := []) (ct_X9_remembers l G hg7) (cl_RX9_314 hB.2.2.2.2.1 ⟨Nat.le_of_ble_eq_true rfl, Nat.le_of_ble_eq_true rfl⟩) tl139 (by decide) rfl rfl hl.1 rfl (Nat.le_of_ble_eq_true rfl) dX9_kind_33 ⟨Nat.le_refl _, Nat.le_refl _⟩) hS (fun H locs hW hS => ?_)
      refine lv_bipush (v := (10 : Int32)) hx hb dX9_kind_36 (by decide) ?_
      refine lv_aload_n hx hb dX9_kind_38 rfl (lv_at hl 1 rfl) ?_
      refine fg9_19 hB hW tl139 wd5_98 dX9_kind_39 ?_
      refine lv_imul hx hb dX9_kind_42 ?_
      refine lv_aload_n hx hb dX9_kind_43 rfl (lv_at hl 1 rfl) ?_
      refine fg9_20 hB hW tl139 wd5_99 dX9_kind_44 ?_
      refine lv_iadd hx hb dX9_kind_47 ?_
      refine lv_topi (fun x8 ex8 => ?_)
      have hf := nm_o hf ex8
      refine lv_istore (lv' := [(4, .int x8), (3, .int y14), (0, .ref (G.2.2.1 139)), (1, .int p1), (2, .int p2)]) hx hb dX9_kind_48 hl (by decide) rfl (fun ls hl => ?_)
      refine lv_aload_n hx hb dX9_kind_50 rfl (lv_at hl 2 rfl) ?_
      refine lv_iload_n hx hb dX9_kind_51 rfl (lv_at hl 3 rfl) ?_
      refine fp9_19 hB hW hS tl139 wd5_98 dX9_kind_52 (fun H locs M9 eM9 hW hS => ?_)
      have hf := nm_o hf eM9
      refine lv_aload_n hx hb dX9_kind_55 rfl (lv_at hl 2 rfl) ?_
      refine lv_iload_n hx hb dX9_kind_56 rfl (lv_at hl 4 rfl) ?_
      refine fp9_20 hB hW hS tl139 wd5_99 dX9_kind_57 (fun H locs M10 eM10 hW hS => ?_)
      have hf := nm_o hf eM10
      refine lv_iload hx hb dX9_kind_60 (lv_at hl 0 rfl) ?_
      exact e_i hB hW hS hr hlk (s_1 hf) (s_2 hf) dX9_kind_62
    · have hf := i_f hf c5
      refine lv_aload_n hx hb dX9_kind_26 rfl (lv_at hl 1 rfl) ?_
      refine lv_iload_n hx hb dX9_kind_27 rfl (lv_at hl 0 rfl) ?_
      obtain ⟨x11, M12, hg13, hf⟩ := b_o2 hf
      refine x_ci hB (x_rv hB hW hS (As := [.int y14]) (rest := []) (ct_X9_no l G hg13) (cl_RX9_224 hB.2.2.2.2.1 ⟨Nat.le_of_ble_eq_true rfl, Nat.le_of_ble_eq_true rfl⟩) tl139 (by decide) rfl rfl hl.1 rfl (Nat.le_of_ble_eq_true rfl) dX9_kind_28 ⟨Nat.le_refl _, Nat.le_refl _⟩) hS (fun H locs hW hS => ?_)
      exact e_i hB hW hS hr hlk (s_1 hf) (s_2 hf) dX9_kind_31
  have hf := hR
  refine lv_if_ne (tgt := 14) hx hb dX9_kind_6 (by decide) (fun c15 => ?_) (fun c15 => ?_)
  · have hf := i_f hf c15
    refine lv_iload_n hx hb dX9_kind_14 rfl (lv_at hl 2 rfl) ?_
    refine lv_iconst (v := (0 : Int32)) hx hb dX9_kind_15 (by decide) ?_
    refine lv_bipush (v := (9 : Int32)) hx hb dX9_kind_16 (by decide) ?_
    obtain ⟨x16, hg17, hf⟩ := b_o1 hf
    refine x_ci hB (x_rs hB hW hS (As := [.int p2, .int (0 : Int32), .int (9 : Int32)]) (rest := []) (ct_X9_bound l G hg17) (cl_RX9_217 hB.2.2.2.2.1 ⟨Nat.le_of_ble_eq_true rfl, Nat.le_of_ble_eq_true rfl⟩) rfl hl.1 rfl (Nat.le_of_ble_eq_true rfl) dX9_kind_18 ⟨Nat.le_refl _, Nat.le_refl _⟩) hS (fun H locs hW hS => ?_)
    exact main4 x16 _ _ ls hW hS (lv_sub hl [0, 1, 2] rfl) hf
  · have hf := i_t hf c15
    refine lv_bipush (v := (-2 : Int32)) hx hb dX9_kind_9 (by decide) ?_
    refine lv_goto (tgt := 21) hx hb dX9_kind_11 (by decide) ?_
    exact main4 (-2 : Int32) _ _ ls hW hS (lv_sub hl [0, 1, 2] rfl) hf
def f_X9_widthOf_L4 (p1 : Int32) (M : Mem) (K3 : Int32 → Int32 → Option (Int32)) (x1 : Int32) (x2 : Int32) : Option (Int32) := (gq (inB p1 16) ((if (gi M 142 ((p1 : Int32).toNatClampNeg)) ≤ x2 then (some (x1)) else (gq (inB (((12 : Int32) * p1) + x2) 192) (gq (inB (gi M 143 (((((12 : Int32) * p1) + x2) : Int32).toNatClampNeg)) 8) (nmq ((x1 + (gi M 141 (((gi M 143 (((((12 : Int32) * p1) + x2) : Int32).toNatClampNeg)) : Int32).toNatClampNeg)))) (fun (x12 : Int32) => nmq (x2 + (1 : Int32)) (fun (x13 : Int32) => (K3 x12 x13)))))))))
def f_X9_widthOf (p1 : Int32) (M : Mem) : Option Int32 := (bq1 (lq2 (f_X9_widthOf_L4 p1 M) FU (0 : Int32) (0 : Int32)) (fun (x5 : Int32) => some x5))
set_option maxHeartbeats 4000000 in
set_option maxRecDepth 100000 in
theorem ct_X9_widthOf (l : Launch) (G : GG) {p1 : Int32} {M : Mem} {r : Int32}  (hf : f_X9_widthOf p1 M = some r) : Met l yX9_widthOf (wsq yX9_widthOf cX9_widthOf 4 (some .int)) (rmq 0 0) (va_Pc [.ref (G.2.2.1 139), .int p1] (World G M)) (Qi G r M) 0 0 (adA G) := by
  refine x_start (plainFor_of_name (by decide)) (Nat.le_of_ble_eq_true rfl) ?_
  intro p e s m args below meth c hB hr hlk hW hS ls hl
  have hx := hB.x
  have hb := hB.b
  have hl : lv_has ls 4 [(0, .ref (G.2.2.1 139)), (1, .int p1)] := hl
  unfold f_X9_widthOf at hf
  refine lv_iconst (v := (0 : Int32)) hx hb dX9_widthOf_0 (by decide) ?_
  refine lv_istore_n (lv' := [(2, .int (0 : Int32)), (0, .ref (G.2.2.1 139)), (1, .int p1)]) hx hb dX9_widthOf_1 rfl hl (by decide) rfl (fun ls hl => ?_)
  refine lv_iconst (v := (0 : Int32)) hx hb dX9_widthOf_2 (by decide) ?_
  refine lv_istore_n (lv' := [(3, .int (0 : Int32)), (2, .int (0 : Int32)), (0, .ref (G.2.2.1 139)), (1, .int p1)]) hx hb dX9_widthOf_3 rfl hl (by decide) rfl (fun ls hl => ?_)
  obtain ⟨y6, hL, hf⟩ := b_o1 hf
  have main7 : ∀ (x5 : Int32) (H : Heap) (locs : List Loc) (ls : Array Slot), Wd G M H → va_S (adA G) s.heap H locs → lv_has ls 4 [(2, .int x5)] → some (x5) = some (y6) → W p l e (rmq 0 0) s m args below meth c H locs 0 0 (MQ below (Qi G r M) args s 0 0 (adA G)) (F0 m 39 ls []) := by
    intro x5 H locs ls hW hS hl hE
    cases hE
    refine lv_iload_n hx hb dX9_widthOf_39 rfl (lv_at hl 0 rfl) ?_
    exact e_i hB hW hS hr hlk (Option.some.inj hf) rfl dX9_widthOf_40
  have loop4 : ∀ (n : Nat) (x1 : Int32) (x2 : Int32) (H : Heap) (locs : List Loc) (ls : Array Slot), Wd G M H → va_S (adA G) s.heap H locs → lv_has ls 4 [(0, .ref (G.2.2.1 139)), (1, .int p1), (2, .int x1), (3, .int x2)] → lq2 (f_X9_widthOf_L4 p1 M) n x1 x2 = some (y6) → W p l e (rmq 0 0) s m args below meth c H locs 0 0 (MQ below (Qi G r M) args s 0 0 (adA G)) (F0 m 4 ls []) := by
    intro n
    induction n with
    | zero => intro x1 x2 H locs ls hW hS hl hf; exact (l_z2 hf).elim
    | succ n ih =>
      intro x1 x2 H locs ls hW hS hl hf
      have hf := l_s2 hf
      generalize lq2 (f_X9_widthOf_L4 p1 M) n = K3 at ih hf
      unfold f_X9_widthOf_L4 at hf
      refine lv_iload_n hx hb dX9_widthOf_4 rfl (lv_at hl 3 rfl) ?_
      refine lv_aload_n hx hb dX9_widthOf_5 rfl (lv_at hl 0 rfl) ?_
      refine fg9_2 hB hW tl139 wd5_81 dX9_widthOf_6 ?_
      refine lv_iload_n hx hb dX9_widthOf_9 rfl (lv_at hl 1 rfl) ?_
      obtain ⟨h8, hf⟩ := g_o hf
      refine x_iald hB hW tl142 al142 h8 dX9_widthOf_10 ?_
      refine lv_icmp_ge (tgt := 39) hx hb dX9_widthOf_11 (by decide) (fun c9 => ?_) (fun c9 => ?_)
      · have hf := i_t hf c9
        exact main7 x1 _ _ ls hW hS (lv_sub hl [2] rfl) hf
      · have hf := i_f hf c9
        refine lv_iload_n hx hb dX9_widthOf_14 rfl (lv_at hl 2 rfl) ?_
        refine lv_aload_n hx hb dX9_widthOf_15 rfl (lv_at hl 0 rfl) ?_
        refine fg9_1 hB hW tl139 wd5_80 dX9_widthOf_16 ?_
        refine lv_aload_n hx hb dX9_widthOf_19 rfl (lv_at hl 0 rfl) ?_
        refine fg9_3 hB hW tl139 wd5_82 dX9_widthOf_20 ?_
        refine lv_bipush (v := (12 : Int32)) hx hb dX9_widthOf_23 (by decide) ?_
        refine lv_iload_n hx hb dX9_widthOf_25 rfl (lv_at hl 1 rfl) ?_
        refine lv_imul hx hb dX9_widthOf_26 ?_
        refine lv_iload_n hx hb dX9_widthOf_27 rfl (lv_at hl 3 rfl) ?_
        refine lv_iadd hx hb dX9_widthOf_28 ?_
        obtain ⟨h10, hf⟩ := g_o hf
        refine x_iald hB hW tl143 al143 h10 dX9_widthOf_29 ?_
        obtain ⟨h11, hf⟩ := g_o hf
        refine x_iald hB hW tl141 al141 h11 dX9_widthOf_30 ?_
        refine lv_iadd hx hb dX9_widthOf_31 ?_
        refine lv_topi (fun x12 ex12 => ?_)
        have hf := nm_o hf ex12
        refine lv_istore_n (lv' := [(2, .int x12), (0, .ref (G.2.2.1 139)), (1, .int p1), (3, .int x2)]) hx hb dX9_widthOf_32 rfl hl (by decide) rfl (fun ls hl => ?_)
        obtain ⟨x13, ex13⟩ : ∃ y : Int32, y = x2 + (1 : Int32) := ⟨_, rfl⟩
        have hf := nm_o hf ex13
        refine lv_iinc (v := x13) (lv' := [(3, .int x13), (2, .int x12), (0, .ref (G.2.2.1 139)), (1, .int p1)]) hx hb dX9_widthOf_33 hl (k := 3) rfl (by rw [ex13]; rfl) (by decide) rfl (fun ls hl => ?_)
        refine lv_goto (tgt := 4) hx hb dX9_widthOf_36 (by decide) ?_
        exact ih x12 x13 _ _ ls hW hS (lv_sub hl [2, 3, 1, 0] rfl) hf
  exact loop4 FU (0 : Int32) (0 : Int32) _ _ ls hW hS (lv_sub hl [2, 3, 1, 0] rfl) hL
def f_X9_placesOf_L4 (p1 : Int32) (M : Mem) (K3 : Int32 → Int32 → Option (Int32)) (x1 : Int32) (x2 : Int32) : Option (Int32) := (gq (inB p1 16) ((if (gi M 142 ((p1 : Int32).toNatClampNeg)) ≤ x2 then (some (x1)) else (bq1 (f_X9_mayBreak p1 x2 M) (fun (x10 : Int32) => (nmq ((if x10 = 0 then ((0 : Int32)) else ((ishl_ (1 : Int32) x2)))) (fun (x12 : Int32) => (nmq ((x1 ||| x12)) (fun (x14 : Int32) => nmq (x2 + (1 : Int32)) (fun (x15 : Int32) => (K3 x14 x15)))))))))))
def f_X9_placesOf (p1 : Int32) (M : Mem) : Option Int32 := (bq1 (lq2 (f_X9_placesOf_L4 p1 M) FU (0 : Int32) (0 : Int32)) (fun (x5 : Int32) => some x5))
set_option maxHeartbeats 4000000 in
set_option maxRecDepth 100000 in
theorem ct_X9_placesOf (l : Launch) (G : GG) {p1 : Int32} {M : Mem} {r : Int32}  (hf : f_X9_placesOf p1 M = some r) : Met l yX9_placesOf (wsq yX9_placesOf cX9_placesOf 4 (some .int)) (rmq 3 72) (va_Pc [.ref (G.2.2.1 139), .int p1] (World G M)) (Qi G r M) 0 0 (adA G) := by
  refine x_start (plainFor_of_name (by decide)) (Nat.le_of_ble_eq_true rfl) ?_
  intro p e s m args below meth c hB hr hlk hW hS ls hl
  have hx := hB.x
  have hb := hB.b
  have hl : lv_has ls 4 [(0, .ref (G.2.2.1 139)), (1, .int p1)] := hl
  unfold f_X9_placesOf at hf
  refine lv_iconst (v := (0 : Int32)) hx hb dX9_placesOf_0 (by decide) ?_
  refine lv_istore_n (lv' := [(2, .int (0 : Int32)), (0, .ref (G.2.2.1 139)), (1, .int p1)]) hx hb dX9_placesOf_1 rfl hl (by decide) rfl (fun ls hl => ?_)
  refine lv_iconst (v := (0 : Int32)) hx hb dX9_placesOf_2 (by decide) ?_
  refine lv_istore_n (lv' := [(3, .int (0 : Int32)), (2, .int (0 : Int32)), (0, .ref (G.2.2.1 139)), (1, .int p1)]) hx hb dX9_placesOf_3 rfl hl (by decide) rfl (fun ls hl => ?_)
  obtain ⟨y6, hL, hf⟩ := b_o1 hf
  have main7 : ∀ (x5 : Int32) (H : Heap) (locs : List Loc) (ls : Array Slot), Wd G M H → va_S (adA G) s.heap H locs → lv_has ls 4 [(2, .int x5)] → some (x5) = some (y6) → W p l e (rmq 3 72) s m args below meth c H locs 0 0 (MQ below (Qi G r M) args s 0 0 (adA G)) (F0 m 39 ls []) := by
    intro x5 H locs ls hW hS hl hE
    cases hE
    refine lv_iload_n hx hb dX9_placesOf_39 rfl (lv_at hl 0 rfl) ?_
    exact e_i hB hW hS hr hlk (Option.some.inj hf) rfl dX9_placesOf_40
  have loop4 : ∀ (n : Nat) (x1 : Int32) (x2 : Int32) (H : Heap) (locs : List Loc) (ls : Array Slot), Wd G M H → va_S (adA G) s.heap H locs → lv_has ls 4 [(0, .ref (G.2.2.1 139)), (1, .int p1), (2, .int x1), (3, .int x2)] → lq2 (f_X9_placesOf_L4 p1 M) n x1 x2 = some (y6) → W p l e (rmq 3 72) s m args below meth c H locs 0 0 (MQ below (Qi G r M) args s 0 0 (adA G)) (F0 m 4 ls []) := by
    intro n
    induction n with
    | zero => intro x1 x2 H locs ls hW hS hl hf; exact (l_z2 hf).elim
    | succ n ih =>
      intro x1 x2 H locs ls hW hS hl hf
      have hf := l_s2 hf
      generalize lq2 (f_X9_placesOf_L4 p1 M) n = K3 at ih hf
      unfold f_X9_placesOf_L4 at hf
      refine lv_iload_n hx hb dX9_placesOf_4 rfl (lv_at hl 3 rfl) ?_
      refine lv_aload_n hx hb dX9_placesOf_5 rfl (lv_at hl 0 rfl) ?_
      refine fg9_2 hB hW tl139 wd5_81 dX9_placesOf_6 ?_
      refine lv_iload_n hx hb dX9_placesOf_9 rfl (lv_at hl 1 rfl) ?_
      obtain ⟨h8, hf⟩ := g_o hf
      refine x_iald hB hW tl142 al142 h8 dX9_placesOf_10 ?_
      refine lv_icmp_ge (tgt := 39) hx hb dX9_placesOf_11 (by decide) (fun c9 => ?_) (fun c9 => ?_)
      · have hf := i_t hf c9
        exact main7 x1 _ _ ls hW hS (lv_sub hl [2] rfl) hf
      · have hf := i_f hf c9
        refine lv_iload_n hx hb dX9_placesOf_14 rfl (lv_at hl 2 rfl) ?_
        refine lv_aload_n hx hb dX9_placesOf_15 rfl (lv_at hl 0 rfl) ?_
        refine lv_iload_n hx hb dX9_placesOf_16 rfl (lv_at hl 1 rfl) ?_
        refine lv_iload_n hx hb dX9_placesOf_17 rfl (lv_at hl 3 rfl) ?_
        obtain ⟨x10, hg11, hf⟩ := b_o1 hf
        refine x_ci hB (x_rv hB hW hS (As := [.int p1, .int x2]) (rest := [.int x1]) (ct_X9_mayBreak l G hg11) (cl_RX9_148 hB.2.2.2.2.1 ⟨Nat.le_of_ble_eq_true rfl, Nat.le_of_ble_eq_true rfl⟩) tl139 (by decide) rfl rfl hl.1 rfl (Nat.le_of_ble_eq_true rfl) dX9_placesOf_18 ⟨Nat.le_refl _, Nat.le_refl _⟩) hS (fun H locs hW hS => ?_)
        obtain ⟨y16, evy16⟩ : ∃ z : Int32, (if x10 = 0 then ((0 : Int32)) else ((ishl_ (1 : Int32) x2))) = z := ⟨_, rfl⟩
        have hf := nm_o hf evy16.symm
        have main13 : ∀ (x12 : Int32) (H : Heap) (locs : List Loc) (ls : Array Slot), Wd G M H → va_S (adA G) s.heap H locs → lv_has ls 4 [(0, .ref (G.2.2.1 139)), (1, .int p1), (3, .int x2)] → x12 = y16 → W p l e (rmq 3 72) s m args below meth c H locs 0 0 (MQ below (Qi G r M) args s 0 0 (adA G)) (F0 m 31 ls [.int x12, .int x1]) := by
          intro x12 H locs ls hW hS hl hE
          have hE := hE.symm
          subst hE
          refine lv_ior hx hb dX9_placesOf_31 ?_
          refine lv_topi (fun x14 ex14 => ?_)
          have hf := nm_o hf ex14
          refine lv_istore_n (lv' := [(2, .int x14), (0, .ref (G.2.2.1 139)), (1, .int p1), (3, .int x2)]) hx hb dX9_placesOf_32 rfl hl (by decide) rfl (fun ls hl => ?_)
          obtain ⟨x15, ex15⟩ : ∃ y : Int32, y = x2 + (1 : Int32) := ⟨_, rfl⟩
          have hf := nm_o hf ex15
          refine lv_iinc (v := x15) (lv' := [(3, .int x15), (2, .int x14), (0, .ref (G.2.2.1 139)), (1, .int p1)]) hx hb dX9_placesOf_33 hl (k := 3) rfl (by rw [ex15]; rfl) (by decide) rfl (fun ls hl => ?_)
          refine lv_goto (tgt := 4) hx hb dX9_placesOf_36 (by decide) ?_
          exact ih x14 x15 _ _ ls hW hS (lv_sub hl [2, 3, 1, 0] rfl) hf
        have hf := evy16
        refine lv_if_eq (tgt := 30) hx hb dX9_placesOf_21 (by decide) (fun c17 => ?_) (fun c17 => ?_)
        · have hf := i_t hf c17
          refine lv_iconst (v := (0 : Int32)) hx hb dX9_placesOf_30 (by decide) ?_
          exact main13 (0 : Int32) _ _ ls hW hS (lv_sub hl [0, 1, 3] rfl) hf
        · have hf := i_f hf c17
          refine lv_iconst (v := (1 : Int32)) hx hb dX9_placesOf_24 (by decide) ?_
          refine lv_iload_n hx hb dX9_placesOf_25 rfl (lv_at hl 3 rfl) ?_
          refine lv_ishl hx hb dX9_placesOf_26 ?_
          refine lv_goto (tgt := 31) hx hb dX9_placesOf_27 (by decide) ?_
          exact main13 (ishl_ (1 : Int32) x2) _ _ ls hW hS (lv_sub hl [0, 1, 3] rfl) hf
  exact loop4 FU (0 : Int32) (0 : Int32) _ _ ls hW hS (lv_sub hl [2, 3, 1, 0] rfl) hL
def f_X9_bits_L4 (p1 : Int32) (K3 : Int32 → Int32 → Option (Int32)) (x1 : Int32) (x2 : Int32) : Option (Int32) := (if (16 : Int32) ≤ x2 then (some (x1)) else (nmq ((x1 + ((ishr_ p1 x2) &&& (1 : Int32)))) (fun (x9 : Int32) => nmq (x2 + (1 : Int32)) (fun (x10 : Int32) => (K3 x9 x10)))))
def f_X9_bits (p1 : Int32) : Option Int32 := (bq1 (lq2 (f_X9_bits_L4 p1) FU (0 : Int32) (0 : Int32)) (fun (x5 : Int32) => some x5))
set_option maxHeartbeats 4000000 in
set_option maxRecDepth 100000 in
theorem ct_X9_bits (l : Launch) (G : GG) {p1 : Int32} {M : Mem} {r : Int32}  (hf : f_X9_bits p1 = some r) : Met l yX9_bits (wsq yX9_bits cX9_bits 3 (some .int)) (rmq 0 0) (va_Pc [.int p1] (World G M)) (Qi G r M) 0 0 (adA G) := by
  refine x_start (plainFor_of_name (by decide)) (Nat.le_of_ble_eq_true rfl) ?_
  intro p e s m args below meth c hB hr hlk hW hS ls hl
  have hx := hB.x
  have hb := hB.b
  have hl : lv_has ls 3 [(0, .int p1)] := hl
  unfold f_X9_bits at hf
  refine lv_iconst (v := (0 : Int32)) hx hb dX9_bits_0 (by decide) ?_
  refine lv_istore_n (lv' := [(1, .int (0 : Int32)), (0, .int p1)]) hx hb dX9_bits_1 rfl hl (by decide) rfl (fun ls hl => ?_)
  refine lv_iconst (v := (0 : Int32)) hx hb dX9_bits_2 (by decide) ?_
  refine lv_istore_n (lv' := [(2, .int (0 : Int32)), (1, .int (0 : Int32)), (0, .int p1)]) hx hb dX9_bits_3 rfl hl (by decide) rfl (fun ls hl => ?_)
  obtain ⟨y6, hL, hf⟩ := b_o1 hf
  have main7 : ∀ (x5 : Int32) (H : Heap) (locs : List Loc) (ls : Array Slot), Wd G M H → va_S (adA G) s.heap H locs → lv_has ls 3 [(1, .int x5)] → some (x5) = some (y6) → W p l e (rmq 0 0) s m args below meth c H locs 0 0 (MQ below (Qi G r M) args s 0 0 (adA G)) (F0 m 24 ls []) := by
    intro x5 H locs ls hW hS hl hE
    cases hE
    refine lv_iload_n hx hb dX9_bits_24 rfl (lv_at hl 0 rfl) ?_
    exact e_i hB hW hS hr hlk (Option.some.inj hf) rfl dX9_bits_25
  have loop4 : ∀ (n : Nat) (x1 : Int32) (x2 : Int32) (H : Heap) (locs : List Loc) (ls : Array Slot), Wd G M H → va_S (adA G) s.heap H locs → lv_has ls 3 [(0, .int p1), (1, .int x1), (2, .int x2)] → lq2 (f_X9_bits_L4 p1) n x1 x2 = some (y6) → W p l e (rmq 0 0) s m args below meth c H locs 0 0 (MQ below (Qi G r M) args s 0 0 (adA G)) (F0 m 4 ls []) := by
    intro n
    induction n with
    | zero => intro x1 x2 H locs ls hW hS hl hf; exact (l_z2 hf).elim
    | succ n ih =>
      intro x1 x2 H locs ls hW hS hl hf
      have hf := l_s2 hf
      generalize lq2 (f_X9_bits_L4 p1) n = K3 at ih hf
      unfold f_X9_bits_L4 at hf
      refine lv_iload_n hx hb dX9_bits_4 rfl (lv_at hl 2 rfl) ?_
      refine lv_bipush (v := (16 : Int32)) hx hb dX9_bits_5 (by decide) ?_
      refine lv_icmp_ge (tgt := 24) hx hb dX9_bits_7 (by decide) (fun c8 => ?_) (fun c8 => ?_)
      · have hf := i_t hf c8
        exact main7 x1 _ _ ls hW hS (lv_sub hl [1] rfl) hf
      · have hf := i_f hf c8
        refine lv_iload_n hx hb dX9_bits_10 rfl (lv_at hl 1 rfl) ?_
        refine lv_iload_n hx hb dX9_bits_11 rfl (lv_at hl 0 rfl) ?_
        refine lv_iload_n hx hb dX9_bits_12 rfl (lv_at hl 2 rfl) ?_
        refine lv_ishr hx hb dX9_bits_13 ?_
        refine lv_iconst (v := (1 : Int32)) hx hb dX9_bits_14 (by decide) ?_
        refine lv_iand hx hb dX9_bits_15 ?_
        refine lv_iadd hx hb dX9_bits_16 ?_
        refine lv_topi (fun x9 ex9 => ?_)
        have hf := nm_o hf ex9
        refine lv_istore_n (lv' := [(1, .int x9), (0, .int p1), (2, .int x2)]) hx hb dX9_bits_17 rfl hl (by decide) rfl (fun ls hl => ?_)
        obtain ⟨x10, ex10⟩ : ∃ y : Int32, y = x2 + (1 : Int32) := ⟨_, rfl⟩
        have hf := nm_o hf ex10
        refine lv_iinc (v := x10) (lv' := [(2, .int x10), (1, .int x9), (0, .int p1)]) hx hb dX9_bits_18 hl (k := 2) rfl (by rw [ex10]; rfl) (by decide) rfl (fun ls hl => ?_)
        refine lv_goto (tgt := 4) hx hb dX9_bits_21 (by decide) ?_
        exact ih x9 x10 _ _ ls hW hS (lv_sub hl [2, 1, 0] rfl) hf
  exact loop4 FU (0 : Int32) (0 : Int32) _ _ ls hW hS (lv_sub hl [2, 1, 0] rfl) hL
theorem cl_RX9_326 {R : Room} {s : State} {args : Array Value} (ht : ∀ w ∈ lw_all, w.before args s = true) (hR : 0 + 1 ≤ R.frames ∧ 8 + (4 + 11) + 0 ≤ R.locals) : CallW R s args RX9 RX9 326 yX9_widthOf cX9_widthOf 4 (some .int) (wsq yX9_widthOf cX9_widthOf 4 (some .int)) (rmq 0 0) 0 0 1 := cwV 1 ht (goodV wd6_174 wd6_176 wsel_58 wd1_10 wd6_177) rfl rfl rfl (by decide +kernel) hR
theorem cl_RX9_329 {R : Room} {s : State} {args : Array Value} (ht : ∀ w ∈ lw_all, w.before args s = true) (hR : 3 + 1 ≤ R.frames ∧ 8 + (4 + 11) + 72 ≤ R.locals) : CallW R s args RX9 RX9 329 yX9_placesOf cX9_placesOf 4 (some .int) (wsq yX9_placesOf cX9_placesOf 4 (some .int)) (rmq 3 72) 0 0 1 := cwV 1 ht (goodV wd6_178 wd6_180 wsel_59 wd1_10 wd6_181) rfl rfl rfl (by decide +kernel) hR
theorem cl_RX9_332 {R : Room} {s : State} {args : Array Value} (ht : ∀ w ∈ lw_all, w.before args s = true) (hR : 0 + 1 ≤ R.frames ∧ 8 + (3 + 11) + 0 ≤ R.locals) : CallB R s args RX9 332 yX9_bits cX9_bits 3 (some .int) (wsq yX9_bits cX9_bits 3 (some .int)) (rmq 0 0) 0 0 1 ∧ (Cond.static yX9_bits).before args s = true := va_cwS 1 ht (goodS wd6_194 wd6_195 wd1_10 wd6_196) rfl rfl rfl (by decide +kernel) hR
def f_X9_word (p1 : Int32) (p2 : Int32) (M : Mem) : Option (Int32 × Mem) := (bq1 (f_X9_isWord p1 M) (fun (x1 : Int32) => (if x1 = 0 then (bq2 (f_X9_no (-1 : Int32) M) (fun (x22 : Int32) (M23 : Mem) => some (x22, M23))) else (if p2 = (0 : Int32) then (gq (inB p1 16) (some ((gi M 142 ((p1 : Int32).toNatClampNeg)), M))) else if p2 = (1 : Int32) then (bq1 (f_X9_widthOf p1 M) (fun (x7 : Int32) => some (x7, M))) else if p2 = (2 : Int32) then (gq (inB p1 16) (some ((gi M 144 ((p1 : Int32).toNatClampNeg)), M))) else if p2 = (3 : Int32) then (bq1 (f_X9_placesOf p1 M) (fun (x12 : Int32) => bq1 (f_X9_bits x12) (fun (x14 : Int32) => some ((x14 + (1 : Int32)), M)))) else if p2 = (4 : Int32) then (bq1 (f_X9_placesOf p1 M) (fun (x17 : Int32) => some (x17, M))) else (bq2 (f_X9_no (-2 : Int32) M) (fun (x19 : Int32) (M20 : Mem) => some (x19, M20)))))))
set_option maxHeartbeats 4000000 in
set_option maxRecDepth 100000 in
theorem ct_X9_word (l : Launch) (G : GG) {p1 : Int32} {p2 : Int32} {M : Mem} {r : Int32} {Mr : Mem}  (hf : f_X9_word p1 p2 M = some (r, Mr)) : Met l yX9_word (wsq yX9_word cX9_word 3 (some .int)) (rmq 4 95) (va_Pc [.ref (G.2.2.1 139), .int p1, .int p2] (World G M)) (Qi G r Mr) 0 0 (adA G) := by
  refine x_start (plainFor_of_name (by decide)) (Nat.le_of_ble_eq_true rfl) ?_
  intro p e s m args below meth c hB hr hlk hW hS ls hl
  have hx := hB.x
  have hb := hB.b
  have hl : lv_has ls 3 [(0, .ref (G.2.2.1 139)), (1, .int p1), (2, .int p2)] := hl
  unfold f_X9_word at hf
  refine lv_aload_n hx hb dX9_word_0 rfl (lv_at hl 0 rfl) ?_
  refine lv_iload_n hx hb dX9_word_1 rfl (lv_at hl 1 rfl) ?_
  obtain ⟨x1, hg2, hf⟩ := b_o1 hf
  refine x_ci hB (x_rv hB hW hS (As := [.int p1]) (rest := []) (ct_X9_isWord l G hg2) (cl_RX9_320 hB.2.2.2.2.1 ⟨Nat.le_of_ble_eq_true rfl, Nat.le_of_ble_eq_true rfl⟩) tl139 (by decide) rfl rfl hl.1 rfl (Nat.le_of_ble_eq_true rfl) dX9_word_2 ⟨Nat.le_refl _, Nat.le_refl _⟩) hS (fun H locs hW hS => ?_)
  refine lv_if_ne (tgt := 14) hx hb dX9_word_5 (by decide) (fun c3 => ?_) (fun c3 => ?_)
  · have hf := i_f hf c3
    refine lv_iload_n hx hb dX9_word_14 rfl (lv_at hl 2 rfl) ?_
    by_cases c4 : p2 = (0 : Int32)
    · have hf := i_t hf c4
      refine lv_tableIn (tgt := 48) hx hb dX9_word_15 (by rw [c4]; decide) (by rw [c4]; decide) (by rw [c4] <;> rfl) (by decide) ?_
      refine lv_aload_n hx hb dX9_word_48 rfl (lv_at hl 0 rfl) ?_
      refine fg9_2 hB hW tl139 wd5_81 dX9_word_49 ?_
      refine lv_iload_n hx hb dX9_word_52 rfl (lv_at hl 1 rfl) ?_
      obtain ⟨h5, hf⟩ := g_o hf
      refine x_iald hB hW tl142 al142 h5 dX9_word_53 ?_
      exact e_i hB hW hS hr hlk (s_1 hf) (s_2 hf) dX9_word_54
    · have hf := i_f hf c4
      by_cases c6 : p2 = (1 : Int32)
      · have hf := i_t hf c6
        refine lv_tableIn (tgt := 55) hx hb dX9_word_15 (by rw [c6]; decide) (by rw [c6]; decide) (by rw [c6] <;> rfl) (by decide) ?_
        refine lv_aload_n hx hb dX9_word_55 rfl (lv_at hl 0 rfl) ?_
        refine lv_iload_n hx hb dX9_word_56 rfl (lv_at hl 1 rfl) ?_
        obtain ⟨x7, hg8, hf⟩ := b_o1 hf
        refine x_ci hB (x_rv hB hW hS (As := [.int p1]) (rest := []) (ct_X9_widthOf l G hg8) (cl_RX9_326 hB.2.2.2.2.1 ⟨Nat.le_of_ble_eq_true rfl, Nat.le_of_ble_eq_true rfl⟩) tl139 (by decide) rfl rfl hl.1 rfl (Nat.le_of_ble_eq_true rfl) dX9_word_57 ⟨Nat.le_refl _, Nat.le_refl _⟩) hS (fun H locs hW hS => ?_)
        exact e_i hB hW hS hr hlk (s_1 hf) (s_2 hf) dX9_word_60
      · have hf := i_f hf c6
        by_cases c9 : p2 = (2 : Int32)
        · have hf := i_t hf c9
          refine lv_tableIn (tgt := 61) hx hb dX9_word_15 (by rw [c9]; decide) (by rw [c9]; decide) (by rw [c9] <;> rfl) (by decide) ?_
          refine lv_aload_n hx hb dX9_word_61 rfl (lv_at hl 0 rfl) ?_
          refine fg9_4 hB hW tl139 wd5_83 dX9_word_62 ?_
          refine lv_iload_n hx hb dX9_word_65 rfl (lv_at hl 1 rfl) ?_
          obtain ⟨h10, hf⟩ := g_o hf
          refine x_iald hB hW tl144 al144 h10 dX9_word_66 ?_
          exact e_i hB hW hS hr hlk (s_1 hf) (s_2 hf) dX9_word_67
        · have hf := i_f hf c9
          by_cases c11 : p2 = (3 : Int32)
          · have hf := i_t hf c11
            refine lv_tableIn (tgt := 68) hx hb dX9_word_15 (by rw [c11]; decide) (by rw [c11]; decide) (by rw [c11] <;> rfl) (by decide) ?_
            refine lv_aload_n hx hb dX9_word_68 rfl (lv_at hl 0 rfl) ?_
            refine lv_iload_n hx hb dX9_word_69 rfl (lv_at hl 1 rfl) ?_
            obtain ⟨x12, hg13, hf⟩ := b_o1 hf
            refine x_ci hB (x_rv hB hW hS (As := [.int p1]) (rest := []) (ct_X9_placesOf l G hg13) (cl_RX9_329 hB.2.2.2.2.1 ⟨Nat.le_of_ble_eq_true rfl, Nat.le_of_ble_eq_true rfl⟩) tl139 (by decide) rfl rfl hl.1 rfl (Nat.le_of_ble_eq_true rfl) dX9_word_70 ⟨Nat.le_refl _, Nat.le_refl _⟩) hS (fun H locs hW hS => ?_)
            obtain ⟨x14, hg15, hf⟩ := b_o1 hf
            refine x_ci hB (x_rs hB hW hS (As := [.int x12]) (rest := []) (ct_X9_bits l G hg15) (cl_RX9_332 hB.2.2.2.2.1 ⟨Nat.le_of_ble_eq_true rfl, Nat.le_of_ble_eq_true rfl⟩) rfl hl.1 rfl (Nat.le_of_ble_eq_true rfl) dX9_word_73 ⟨Nat.le_refl _, Nat.le_refl _⟩) hS (fun H locs hW hS => ?_)
            refine lv_iconst (v := (1 : Int32)) hx hb dX9_word_76 (by decide) ?_
            refine lv_iadd hx hb dX9_word_77 ?_
            exact e_i hB hW hS hr hlk (s_1 hf) (s_2 hf) dX9_word_78
          · have hf := i_f hf c11
            by_cases c16 : p2 = (4 : Int32)
            · have hf := i_t hf c16
              refine lv_tableIn (tgt := 79) hx hb dX9_word_15 (by rw [c16]; decide) (by rw [c16]; decide) (by rw [c16] <;> rfl) (by decide) ?_
              refine lv_aload_n hx hb dX9_word_79 rfl (lv_at hl 0 rfl) ?_
              refine lv_iload_n hx hb dX9_word_80 rfl (lv_at hl 1 rfl) ?_
              obtain ⟨x17, hg18, hf⟩ := b_o1 hf
              refine x_ci hB (x_rv hB hW hS (As := [.int p1]) (rest := []) (ct_X9_placesOf l G hg18) (cl_RX9_329 hB.2.2.2.2.1 ⟨Nat.le_of_ble_eq_true rfl, Nat.le_of_ble_eq_true rfl⟩) tl139 (by decide) rfl rfl hl.1 rfl (Nat.le_of_ble_eq_true rfl) dX9_word_81 ⟨Nat.le_refl _, Nat.le_refl _⟩) hS (fun H locs hW hS => ?_)
              exact e_i hB hW hS hr hlk (s_1 hf) (s_2 hf) dX9_word_84
            · have hf := i_f hf c16
              refine lv_tableOut (tgt := 85) hx hb dX9_word_15 (sw_out (lo := 0) (hi := 4) (fun v h1 h2 hv => ?_)) (by decide) ?_
              · rcases (show v = 0 ∨ v = 1 ∨ v = 2 ∨ v = 3 ∨ v = 4 by omega) with rfl | rfl | rfl | rfl | rfl
                · exact c4 hv
                · exact c6 hv
                · exact c9 hv
                · exact c11 hv
                · exact c16 hv
              · skip
                refine lv_aload_n hx hb dX9_word_85 rfl (lv_at hl 0 rfl) ?_
                refine lv_bipush (v := (-2 : Int32)) hx hb dX9_word_86 (by decide) ?_
                obtain ⟨x19, M20, hg21, hf⟩ := b_o2 hf
                refine x_ci hB (x_rv hB hW hS (As := [.int (-2 : Int32)]) (rest := []) (ct_X9_no l G hg21) (cl_RX9_224 hB.2.2.2.2.1 ⟨Nat.le_of_ble_eq_true rfl, Nat.le_of_ble_eq_true rfl⟩) tl139 (by decide) rfl rfl hl.1 rfl (Nat.le_of_ble_eq_true rfl) dX9_word_88 ⟨Nat.le_refl _, Nat.le_refl _⟩) hS (fun H locs hW hS => ?_)
                exact e_i hB hW hS hr hlk (s_1 hf) (s_2 hf) dX9_word_91
  · have hf := i_t hf c3
    refine lv_aload_n hx hb dX9_word_8 rfl (lv_at hl 0 rfl) ?_
    refine lv_iconst (v := (-1 : Int32)) hx hb dX9_word_9 (by decide) ?_
    obtain ⟨x22, M23, hg24, hf⟩ := b_o2 hf
    refine x_ci hB (x_rv hB hW hS (As := [.int (-1 : Int32)]) (rest := []) (ct_X9_no l G hg24) (cl_RX9_224 hB.2.2.2.2.1 ⟨Nat.le_of_ble_eq_true rfl, Nat.le_of_ble_eq_true rfl⟩) tl139 (by decide) rfl rfl hl.1 rfl (Nat.le_of_ble_eq_true rfl) dX9_word_10 ⟨Nat.le_refl _, Nat.le_refl _⟩) hS (fun H locs hW hS => ?_)
    exact e_i hB hW hS hr hlk (s_1 hf) (s_2 hf) dX9_word_13
def f_X9_spelt (p1 : Int32) (p2 : Int32) (M : Mem) : Option (Int32 × Mem) := (bq1 (f_X9_isWord p1 M) (fun (x1 : Int32) => (jq (fun (_ : Unit) => (bq2 (f_X9_no (-1 : Int32) M) (fun (x5 : Int32) (M6 : Mem) => some (x5, M6)))) (fun (K4 : Unit → Option (Int32 × Mem)) => (if x1 = 0 then (K4 ()) else (gq (inB p1 16) (bq1 (f_X9_isIn p2 (0 : Int32) ((gi M 142 ((p1 : Int32).toNatClampNeg)) - (1 : Int32))) (fun (x10 : Int32) => (if x10 = 0 then (K4 ()) else (gq (inB (((12 : Int32) * p1) + p2) 192) (some ((gi M 143 (((((12 : Int32) * p1) + p2) : Int32).toNatClampNeg)), M))))))))))))
set_option maxHeartbeats 4000000 in
set_option maxRecDepth 100000 in
theorem ct_X9_spelt (l : Launch) (G : GG) {p1 : Int32} {p2 : Int32} {M : Mem} {r : Int32} {Mr : Mem}  (hf : f_X9_spelt p1 p2 M = some (r, Mr)) : Met l yX9_spelt (wsq yX9_spelt cX9_spelt 3 (some .int)) (rmq 2 43) (va_Pc [.ref (G.2.2.1 139), .int p1, .int p2] (World G M)) (Qi G r Mr) 0 0 (adA G) := by
  refine x_start (plainFor_of_name (by decide)) (Nat.le_of_ble_eq_true rfl) ?_
  intro p e s m args below meth c hB hr hlk hW hS ls hl
  have hx := hB.x
  have hb := hB.b
  have hl : lv_has ls 3 [(0, .ref (G.2.2.1 139)), (1, .int p1), (2, .int p2)] := hl
  unfold f_X9_spelt at hf
  refine lv_aload_n hx hb dX9_spelt_0 rfl (lv_at hl 0 rfl) ?_
  refine lv_iload_n hx hb dX9_spelt_1 rfl (lv_at hl 1 rfl) ?_
  obtain ⟨x1, hg2, hf⟩ := b_o1 hf
  refine x_ci hB (x_rv hB hW hS (As := [.int p1]) (rest := []) (ct_X9_isWord l G hg2) (cl_RX9_320 hB.2.2.2.2.1 ⟨Nat.le_of_ble_eq_true rfl, Nat.le_of_ble_eq_true rfl⟩) tl139 (by decide) rfl rfl hl.1 rfl (Nat.le_of_ble_eq_true rfl) dX9_spelt_2 ⟨Nat.le_refl _, Nat.le_refl _⟩) hS (fun H locs hW hS => ?_)
  obtain ⟨K4, eK4, hf⟩ := j_o hf
  have main3 : ∀ (_ : Unit) (H : Heap) (locs : List Loc) (ls : Array Slot), Wd G M H → va_S (adA G) s.heap H locs → lv_has ls 3 [(0, .ref (G.2.2.1 139))] → K4 () = some (r, Mr) → W p l e (rmq 2 43) s m args below meth c H locs 0 0 (MQ below (Qi G r Mr) args s 0 0 (adA G)) (F0 m 38 ls []) := by
    intro _ H locs ls hW hS hl hf
    subst eK4
    refine lv_aload_n hx hb dX9_spelt_38 rfl (lv_at hl 0 rfl) ?_
    refine lv_iconst (v := (-1 : Int32)) hx hb dX9_spelt_39 (by decide) ?_
    obtain ⟨x5, M6, hg7, hf⟩ := b_o2 hf
    refine x_ci hB (x_rv hB hW hS (As := [.int (-1 : Int32)]) (rest := []) (ct_X9_no l G hg7) (cl_RX9_224 hB.2.2.2.2.1 ⟨Nat.le_of_ble_eq_true rfl, Nat.le_of_ble_eq_true rfl⟩) tl139 (by decide) rfl rfl hl.1 rfl (Nat.le_of_ble_eq_true rfl) dX9_spelt_40 ⟨Nat.le_refl _, Nat.le_refl _⟩) hS (fun H locs hW hS => ?_)
    exact e_i hB hW hS hr hlk (s_1 hf) (s_2 hf) dX9_spelt_43
  refine lv_if_eq (tgt := 38) hx hb dX9_spelt_5 (by decide) (fun c8 => ?_) (fun c8 => ?_)
  · have hf := i_t hf c8
    exact main3 () _ _ ls hW hS (lv_sub hl [0] rfl) hf
  · have hf := i_f hf c8
    refine lv_iload_n hx hb dX9_spelt_8 rfl (lv_at hl 2 rfl) ?_
    refine lv_iconst (v := (0 : Int32)) hx hb dX9_spelt_9 (by decide) ?_
    refine lv_aload_n hx hb dX9_spelt_10 rfl (lv_at hl 0 rfl) ?_
    refine fg9_2 hB hW tl139 wd5_81 dX9_spelt_11 ?_
    refine lv_iload_n hx hb dX9_spelt_14 rfl (lv_at hl 1 rfl) ?_
    obtain ⟨h9, hf⟩ := g_o hf
    refine x_iald hB hW tl142 al142 h9 dX9_spelt_15 ?_
    refine lv_iconst (v := (1 : Int32)) hx hb dX9_spelt_16 (by decide) ?_
    refine lv_isub hx hb dX9_spelt_17 ?_
    obtain ⟨x10, hg11, hf⟩ := b_o1 hf
    refine x_ci hB (x_rs hB hW hS (As := [.int p2, .int (0 : Int32), .int ((gi M 142 ((p1 : Int32).toNatClampNeg)) - (1 : Int32))]) (rest := []) (ct_X9_isIn l G hg11) (cl_RX9_125 hB.2.2.2.2.1 ⟨Nat.le_of_ble_eq_true rfl, Nat.le_of_ble_eq_true rfl⟩) rfl hl.1 rfl (Nat.le_of_ble_eq_true rfl) dX9_spelt_18 ⟨Nat.le_refl _, Nat.le_refl _⟩) hS (fun H locs hW hS => ?_)
    refine lv_if_eq (tgt := 38) hx hb dX9_spelt_21 (by decide) (fun c12 => ?_) (fun c12 => ?_)
    · have hf := i_t hf c12
      exact main3 () _ _ ls hW hS (lv_sub hl [0] rfl) hf
    · have hf := i_f hf c12
      refine lv_aload_n hx hb dX9_spelt_24 rfl (lv_at hl 0 rfl) ?_
      refine fg9_3 hB hW tl139 wd5_82 dX9_spelt_25 ?_
      refine lv_bipush (v := (12 : Int32)) hx hb dX9_spelt_28 (by decide) ?_
      refine lv_iload_n hx hb dX9_spelt_30 rfl (lv_at hl 1 rfl) ?_
      refine lv_imul hx hb dX9_spelt_31 ?_
      refine lv_iload_n hx hb dX9_spelt_32 rfl (lv_at hl 2 rfl) ?_
      refine lv_iadd hx hb dX9_spelt_33 ?_
      obtain ⟨h13, hf⟩ := g_o hf
      refine x_iald hB hW tl143 al143 h13 dX9_spelt_34 ?_
      refine lv_goto (tgt := 43) hx hb dX9_spelt_35 (by decide) ?_
      exact e_i hB hW hS hr hlk (s_1 hf) (s_2 hf) dX9_spelt_43
def f_X9_values (p1 : Int32) (p2 : Int32) (M : Mem) : Option (Int32 × Mem) := (bq1 (f_X9_isWord p1 M) (fun (x1 : Int32) => (jq (fun (_ : Unit) => (bq2 (f_X9_no (-1 : Int32) M) (fun (x5 : Int32) (M6 : Mem) => some (x5, M6)))) (fun (K4 : Unit → Option (Int32 × Mem)) => (if x1 = 0 then (K4 ()) else (gq (inB p1 16) (bq1 (f_X9_isIn p2 (0 : Int32) (gi M 142 ((p1 : Int32).toNatClampNeg))) (fun (x10 : Int32) => (if x10 = 0 then (K4 ()) else (bq1 (f_X9_valueOf p1 p2 M) (fun (x13 : Int32) => some (x13, M))))))))))))
set_option maxHeartbeats 4000000 in
set_option maxRecDepth 100000 in
theorem ct_X9_values (l : Launch) (G : GG) {p1 : Int32} {p2 : Int32} {M : Mem} {r : Int32} {Mr : Mem}  (hf : f_X9_values p1 p2 M = some (r, Mr)) : Met l yX9_values (wsq yX9_values cX9_values 3 (some .int)) (rmq 2 50) (va_Pc [.ref (G.2.2.1 139), .int p1, .int p2] (World G M)) (Qi G r Mr) 0 0 (adA G) := by
  refine x_start (plainFor_of_name (by decide)) (Nat.le_of_ble_eq_true rfl) ?_
  intro p e s m args below meth c hB hr hlk hW hS ls hl
  have hx := hB.x
  have hb := hB.b
  have hl : lv_has ls 3 [(0, .ref (G.2.2.1 139)), (1, .int p1), (2, .int p2)] := hl
  unfold f_X9_values at hf
  refine lv_aload_n hx hb dX9_values_0 rfl (lv_at hl 0 rfl) ?_
  refine lv_iload_n hx hb dX9_values_1 rfl (lv_at hl 1 rfl) ?_
  obtain ⟨x1, hg2, hf⟩ := b_o1 hf
  refine x_ci hB (x_rv hB hW hS (As := [.int p1]) (rest := []) (ct_X9_isWord l G hg2) (cl_RX9_320 hB.2.2.2.2.1 ⟨Nat.le_of_ble_eq_true rfl, Nat.le_of_ble_eq_true rfl⟩) tl139 (by decide) rfl rfl hl.1 rfl (Nat.le_of_ble_eq_true rfl) dX9_values_2 ⟨Nat.le_refl _, Nat.le_refl _⟩) hS (fun H locs hW hS => ?_)
  obtain ⟨K4, eK4, hf⟩ := j_o hf
  have main3 : ∀ (_ : Unit) (H : Heap) (locs : List Loc) (ls : Array Slot), Wd G M H → va_S (adA G) s.heap H locs → lv_has ls 3 [(0, .ref (G.2.2.1 139))] → K4 () = some (r, Mr) → W p l e (rmq 2 50) s m args below meth c H locs 0 0 (MQ below (Qi G r Mr) args s 0 0 (adA G)) (F0 m 31 ls []) := by
    intro _ H locs ls hW hS hl hf
    subst eK4
    refine lv_aload_n hx hb dX9_values_31 rfl (lv_at hl 0 rfl) ?_
    refine lv_iconst (v := (-1 : Int32)) hx hb dX9_values_32 (by decide) ?_
    obtain ⟨x5, M6, hg7, hf⟩ := b_o2 hf
    refine x_ci hB (x_rv hB hW hS (As := [.int (-1 : Int32)]) (rest := []) (ct_X9_no l G hg7) (cl_RX9_224 hB.2.2.2.2.1 ⟨Nat.le_of_ble_eq_true rfl, Nat.le_of_ble_eq_true rfl⟩) tl139 (by decide) rfl rfl hl.1 rfl (Nat.le_of_ble_eq_true rfl) dX9_values_33 ⟨Nat.le_refl _, Nat.le_refl _⟩) hS (fun H locs hW hS => ?_)
    exact e_i hB hW hS hr hlk (s_1 hf) (s_2 hf) dX9_values_36
  refine lv_if_eq (tgt := 31) hx hb dX9_values_5 (by decide) (fun c8 => ?_) (fun c8 => ?_)
  · have hf := i_t hf c8
    exact main3 () _ _ ls hW hS (lv_sub hl [0] rfl) hf
  · have hf := i_f hf c8
    refine lv_iload_n hx hb dX9_values_8 rfl (lv_at hl 2 rfl) ?_
    refine lv_iconst (v := (0 : Int32)) hx hb dX9_values_9 (by decide) ?_
    refine lv_aload_n hx hb dX9_values_10 rfl (lv_at hl 0 rfl) ?_
    refine fg9_2 hB hW tl139 wd5_81 dX9_values_11 ?_
    refine lv_iload_n hx hb dX9_values_14 rfl (lv_at hl 1 rfl) ?_
    obtain ⟨h9, hf⟩ := g_o hf
    refine x_iald hB hW tl142 al142 h9 dX9_values_15 ?_
    obtain ⟨x10, hg11, hf⟩ := b_o1 hf
    refine x_ci hB (x_rs hB hW hS (As := [.int p2, .int (0 : Int32), .int (gi M 142 ((p1 : Int32).toNatClampNeg))]) (rest := []) (ct_X9_isIn l G hg11) (cl_RX9_125 hB.2.2.2.2.1 ⟨Nat.le_of_ble_eq_true rfl, Nat.le_of_ble_eq_true rfl⟩) rfl hl.1 rfl (Nat.le_of_ble_eq_true rfl) dX9_values_16 ⟨Nat.le_refl _, Nat.le_refl _⟩) hS (fun H locs hW hS => ?_)
    refine lv_if_eq (tgt := 31) hx hb dX9_values_19 (by decide) (fun c12 => ?_) (fun c12 => ?_)
    · have hf := i_t hf c12
      exact main3 () _ _ ls hW hS (lv_sub hl [0] rfl) hf
    · have hf := i_f hf c12
      refine lv_aload_n hx hb dX9_values_22 rfl (lv_at hl 0 rfl) ?_
      refine lv_iload_n hx hb dX9_values_23 rfl (lv_at hl 1 rfl) ?_
      refine lv_iload_n hx hb dX9_values_24 rfl (lv_at hl 2 rfl) ?_
      obtain ⟨x13, hg14, hf⟩ := b_o1 hf
      refine x_ci hB (x_rv hB hW hS (As := [.int p1, .int p2]) (rest := []) (ct_X9_valueOf l G hg14) (cl_RX9_141 hB.2.2.2.2.1 ⟨Nat.le_of_ble_eq_true rfl, Nat.le_of_ble_eq_true rfl⟩) tl139 (by decide) rfl rfl hl.1 rfl (Nat.le_of_ble_eq_true rfl) dX9_values_25 ⟨Nat.le_refl _, Nat.le_refl _⟩) hS (fun H locs hW hS => ?_)
      refine lv_goto (tgt := 36) hx hb dX9_values_28 (by decide) ?_
      exact e_i hB hW hS hr hlk (s_1 hf) (s_2 hf) dX9_values_36
def f_X9_pattern (p1 : Int32) (p2 : Int32) (M : Mem) : Option (Int32 × Mem) := (bq1 (f_X9_isIn p1 (0 : Int32) ((gi M 139 10) - (1 : Int32))) (fun (x1 : Int32) => (if x1 = 0 then (bq2 (f_X9_no (-1 : Int32) M) (fun (x15 : Int32) (M16 : Mem) => some (x15, M16))) else (if p2 = (0 : Int32) then (gq (inB p1 8) (some ((gi M 145 ((p1 : Int32).toNatClampNeg)), M))) else if p2 = (1 : Int32) then (gq (inB p1 8) (some ((gi M 147 ((p1 : Int32).toNatClampNeg)), M))) else if p2 = (2 : Int32) then (gq (inB p1 8) (some ((gi M 148 ((p1 : Int32).toNatClampNeg)), M))) else if p2 = (3 : Int32) then (gq (inB ((3 : Int32) * p1) 24) (some ((gi M 146 ((((3 : Int32) * p1) : Int32).toNatClampNeg)), M))) else (bq2 (f_X9_no (-2 : Int32) M) (fun (x12 : Int32) (M13 : Mem) => some (x12, M13)))))))
set_option maxHeartbeats 4000000 in
set_option maxRecDepth 100000 in
theorem ct_X9_pattern (l : Launch) (G : GG) {p1 : Int32} {p2 : Int32} {M : Mem} {r : Int32} {Mr : Mem}  (hf : f_X9_pattern p1 p2 M = some (r, Mr)) : Met l yX9_pattern (wsq yX9_pattern cX9_pattern 3 (some .int)) (rmq 1 22) (va_Pc [.ref (G.2.2.1 139), .int p1, .int p2] (World G M)) (Qi G r Mr) 0 0 (adA G) := by
  refine x_start (plainFor_of_name (by decide)) (Nat.le_of_ble_eq_true rfl) ?_
  intro p e s m args below meth c hB hr hlk hW hS ls hl
  have hx := hB.x
  have hb := hB.b
  have hl : lv_has ls 3 [(0, .ref (G.2.2.1 139)), (1, .int p1), (2, .int p2)] := hl
  unfold f_X9_pattern at hf
  refine lv_iload_n hx hb dX9_pattern_0 rfl (lv_at hl 1 rfl) ?_
  refine lv_iconst (v := (0 : Int32)) hx hb dX9_pattern_1 (by decide) ?_
  refine lv_aload_n hx hb dX9_pattern_2 rfl (lv_at hl 0 rfl) ?_
  refine fg9_10 hB hW tl139 wd5_89 dX9_pattern_3 ?_
  refine lv_iconst (v := (1 : Int32)) hx hb dX9_pattern_6 (by decide) ?_
  refine lv_isub hx hb dX9_pattern_7 ?_
  obtain ⟨x1, hg2, hf⟩ := b_o1 hf
  refine x_ci hB (x_rs hB hW hS (As := [.int p1, .int (0 : Int32), .int ((gi M 139 10) - (1 : Int32))]) (rest := []) (ct_X9_isIn l G hg2) (cl_RX9_125 hB.2.2.2.2.1 ⟨Nat.le_of_ble_eq_true rfl, Nat.le_of_ble_eq_true rfl⟩) rfl hl.1 rfl (Nat.le_of_ble_eq_true rfl) dX9_pattern_8 ⟨Nat.le_refl _, Nat.le_refl _⟩) hS (fun H locs hW hS => ?_)
  refine lv_if_ne (tgt := 20) hx hb dX9_pattern_11 (by decide) (fun c3 => ?_) (fun c3 => ?_)
  · have hf := i_f hf c3
    refine lv_iload_n hx hb dX9_pattern_20 rfl (lv_at hl 2 rfl) ?_
    by_cases c4 : p2 = (0 : Int32)
    · have hf := i_t hf c4
      refine lv_tableIn (tgt := 52) hx hb dX9_pattern_21 (by rw [c4]; decide) (by rw [c4]; decide) (by rw [c4] <;> rfl) (by decide) ?_
      refine lv_aload_n hx hb dX9_pattern_52 rfl (lv_at hl 0 rfl) ?_
      refine fg9_5 hB hW tl139 wd5_84 dX9_pattern_53 ?_
      refine lv_iload_n hx hb dX9_pattern_56 rfl (lv_at hl 1 rfl) ?_
      obtain ⟨h5, hf⟩ := g_o hf
      refine x_iald hB hW tl145 al145 h5 dX9_pattern_57 ?_
      exact e_i hB hW hS hr hlk (s_1 hf) (s_2 hf) dX9_pattern_58
    · have hf := i_f hf c4
      by_cases c6 : p2 = (1 : Int32)
      · have hf := i_t hf c6
        refine lv_tableIn (tgt := 59) hx hb dX9_pattern_21 (by rw [c6]; decide) (by rw [c6]; decide) (by rw [c6] <;> rfl) (by decide) ?_
        refine lv_aload_n hx hb dX9_pattern_59 rfl (lv_at hl 0 rfl) ?_
        refine fg9_7 hB hW tl139 wd5_86 dX9_pattern_60 ?_
        refine lv_iload_n hx hb dX9_pattern_63 rfl (lv_at hl 1 rfl) ?_
        obtain ⟨h7, hf⟩ := g_o hf
        refine x_iald hB hW tl147 al147 h7 dX9_pattern_64 ?_
        exact e_i hB hW hS hr hlk (s_1 hf) (s_2 hf) dX9_pattern_65
      · have hf := i_f hf c6
        by_cases c8 : p2 = (2 : Int32)
        · have hf := i_t hf c8
          refine lv_tableIn (tgt := 66) hx hb dX9_pattern_21 (by rw [c8]; decide) (by rw [c8]; decide) (by rw [c8] <;> rfl) (by decide) ?_
          refine lv_aload_n hx hb dX9_pattern_66 rfl (lv_at hl 0 rfl) ?_
          refine fg9_8 hB hW tl139 wd5_87 dX9_pattern_67 ?_
          refine lv_iload_n hx hb dX9_pattern_70 rfl (lv_at hl 1 rfl) ?_
          obtain ⟨h9, hf⟩ := g_o hf
          refine x_iald hB hW tl148 al148 h9 dX9_pattern_71 ?_
          exact e_i hB hW hS hr hlk (s_1 hf) (s_2 hf) dX9_pattern_72
        · have hf := i_f hf c8
          by_cases c10 : p2 = (3 : Int32)
          · have hf := i_t hf c10
            refine lv_tableIn (tgt := 73) hx hb dX9_pattern_21 (by rw [c10]; decide) (by rw [c10]; decide) (by rw [c10] <;> rfl) (by decide) ?_
            refine lv_aload_n hx hb dX9_pattern_73 rfl (lv_at hl 0 rfl) ?_
            refine fg9_6 hB hW tl139 wd5_85 dX9_pattern_74 ?_
            refine lv_iconst (v := (3 : Int32)) hx hb dX9_pattern_77 (by decide) ?_
            refine lv_iload_n hx hb dX9_pattern_78 rfl (lv_at hl 1 rfl) ?_
            refine lv_imul hx hb dX9_pattern_79 ?_
            obtain ⟨h11, hf⟩ := g_o hf
            refine x_iald hB hW tl146 al146 h11 dX9_pattern_80 ?_
            exact e_i hB hW hS hr hlk (s_1 hf) (s_2 hf) dX9_pattern_81
          · have hf := i_f hf c10
            refine lv_tableOut (tgt := 82) hx hb dX9_pattern_21 (sw_out (lo := 0) (hi := 3) (fun v h1 h2 hv => ?_)) (by decide) ?_
            · rcases (show v = 0 ∨ v = 1 ∨ v = 2 ∨ v = 3 by omega) with rfl | rfl | rfl | rfl
              · exact c4 hv
              · exact c6 hv
              · exact c8 hv
              · exact c10 hv
            · skip
              refine lv_aload_n hx hb dX9_pattern_82 rfl (lv_at hl 0 rfl) ?_
              refine lv_bipush (v := (-2 : Int32)) hx hb dX9_pattern_83 (by decide) ?_
              obtain ⟨x12, M13, hg14, hf⟩ := b_o2 hf
              refine x_ci hB (x_rv hB hW hS (As := [.int (-2 : Int32)]) (rest := []) (ct_X9_no l G hg14) (cl_RX9_224 hB.2.2.2.2.1 ⟨Nat.le_of_ble_eq_true rfl, Nat.le_of_ble_eq_true rfl⟩) tl139 (by decide) rfl rfl hl.1 rfl (Nat.le_of_ble_eq_true rfl) dX9_pattern_85 ⟨Nat.le_refl _, Nat.le_refl _⟩) hS (fun H locs hW hS => ?_)
              exact e_i hB hW hS hr hlk (s_1 hf) (s_2 hf) dX9_pattern_88
  · have hf := i_t hf c3
    refine lv_aload_n hx hb dX9_pattern_14 rfl (lv_at hl 0 rfl) ?_
    refine lv_iconst (v := (-1 : Int32)) hx hb dX9_pattern_15 (by decide) ?_
    obtain ⟨x15, M16, hg17, hf⟩ := b_o2 hf
    refine x_ci hB (x_rv hB hW hS (As := [.int (-1 : Int32)]) (rest := []) (ct_X9_no l G hg17) (cl_RX9_224 hB.2.2.2.2.1 ⟨Nat.le_of_ble_eq_true rfl, Nat.le_of_ble_eq_true rfl⟩) tl139 (by decide) rfl rfl hl.1 rfl (Nat.le_of_ble_eq_true rfl) dX9_pattern_16 ⟨Nat.le_refl _, Nat.le_refl _⟩) hS (fun H locs hW hS => ?_)
    exact e_i hB hW hS hr hlk (s_1 hf) (s_2 hf) dX9_pattern_19
def f_X9_hyphened_L4 (M : Mem) (K3 : Int32 → Int32 → Option (Int32)) (x1 : Int32) (x2 : Int32) : Option (Int32) := (if (gi M 139 29) < x2 then (some (x1)) else (gq (inB x2 162) (gq (inB ((gi M 155 ((x2 : Int32).toNatClampNeg)) - (1 : Int32)) 161) ((nmq ((if (gi M 151 ((((gi M 155 ((x2 : Int32).toNatClampNeg)) - (1 : Int32)) : Int32).toNatClampNeg)) = (1 : Int32) then ((1 : Int32)) else ((0 : Int32)))) (fun (x11 : Int32) => (nmq ((x1 + x11)) (fun (x13 : Int32) => nmq (x2 + (1 : Int32)) (fun (x14 : Int32) => (K3 x13 x14))))))))))
def f_X9_hyphened (M : Mem) : Option Int32 := (bq1 (lq2 (f_X9_hyphened_L4 M) FU (0 : Int32) (1 : Int32)) (fun (x5 : Int32) => some x5))
set_option maxHeartbeats 4000000 in
set_option maxRecDepth 100000 in
theorem ct_X9_hyphened (l : Launch) (G : GG)  {M : Mem} {r : Int32}  (hf : f_X9_hyphened M = some r) : Met l yX9_hyphened (wsq yX9_hyphened cX9_hyphened 3 (some .int)) (rmq 0 0) (va_Pc [.ref (G.2.2.1 139)] (World G M)) (Qi G r M) 0 0 (adA G) := by
  refine x_start (plainFor_of_name (by decide)) (Nat.le_of_ble_eq_true rfl) ?_
  intro p e s m args below meth c hB hr hlk hW hS ls hl
  have hx := hB.x
  have hb := hB.b
  have hl : lv_has ls 3 [(0, .ref (G.2.2.1 139))] := hl
  unfold f_X9_hyphened at hf
  refine lv_iconst (v := (0 : Int32)) hx hb dX9_hyphened_0 (by decide) ?_
  refine lv_istore_n (lv' := [(1, .int (0 : Int32)), (0, .ref (G.2.2.1 139))]) hx hb dX9_hyphened_1 rfl hl (by decide) rfl (fun ls hl => ?_)
  refine lv_iconst (v := (1 : Int32)) hx hb dX9_hyphened_2 (by decide) ?_
  refine lv_istore_n (lv' := [(2, .int (1 : Int32)), (1, .int (0 : Int32)), (0, .ref (G.2.2.1 139))]) hx hb dX9_hyphened_3 rfl hl (by decide) rfl (fun ls hl => ?_)
  obtain ⟨y6, hL, hf⟩ := b_o1 hf
  have main7 : ∀ (x5 : Int32) (H : Heap) (locs : List Loc) (ls : Array Slot), Wd G M H → va_S (adA G) s.heap H locs → lv_has ls 3 [(1, .int x5)] → some (x5) = some (y6) → W p l e (rmq 0 0) s m args below meth c H locs 0 0 (MQ below (Qi G r M) args s 0 0 (adA G)) (F0 m 43 ls []) := by
    intro x5 H locs ls hW hS hl hE
    cases hE
    refine lv_iload_n hx hb dX9_hyphened_43 rfl (lv_at hl 0 rfl) ?_
    exact e_i hB hW hS hr hlk (Option.some.inj hf) rfl dX9_hyphened_44
  have loop4 : ∀ (n : Nat) (x1 : Int32) (x2 : Int32) (H : Heap) (locs : List Loc) (ls : Array Slot), Wd G M H → va_S (adA G) s.heap H locs → lv_has ls 3 [(0, .ref (G.2.2.1 139)), (1, .int x1), (2, .int x2)] → lq2 (f_X9_hyphened_L4 M) n x1 x2 = some (y6) → W p l e (rmq 0 0) s m args below meth c H locs 0 0 (MQ below (Qi G r M) args s 0 0 (adA G)) (F0 m 4 ls []) := by
    intro n
    induction n with
    | zero => intro x1 x2 H locs ls hW hS hl hf; exact (l_z2 hf).elim
    | succ n ih =>
      intro x1 x2 H locs ls hW hS hl hf
      have hf := l_s2 hf
      generalize lq2 (f_X9_hyphened_L4 M) n = K3 at ih hf
      unfold f_X9_hyphened_L4 at hf
      refine lv_iload_n hx hb dX9_hyphened_4 rfl (lv_at hl 2 rfl) ?_
      refine lv_aload_n hx hb dX9_hyphened_5 rfl (lv_at hl 0 rfl) ?_
      refine fg9_29 hB hW tl139 wd5_108 dX9_hyphened_6 ?_
      refine lv_icmp_gt (tgt := 43) hx hb dX9_hyphened_9 (by decide) (fun c8 => ?_) (fun c8 => ?_)
      · have hf := i_t hf c8
        exact main7 x1 _ _ ls hW hS (lv_sub hl [1] rfl) hf
      · have hf := i_f hf c8
        refine lv_iload_n hx hb dX9_hyphened_12 rfl (lv_at hl 1 rfl) ?_
        refine lv_aload_n hx hb dX9_hyphened_13 rfl (lv_at hl 0 rfl) ?_
        refine fg9_23 hB hW tl139 wd5_102 dX9_hyphened_14 ?_
        refine lv_aload_n hx hb dX9_hyphened_17 rfl (lv_at hl 0 rfl) ?_
        refine fg9_28 hB hW tl139 wd5_107 dX9_hyphened_18 ?_
        refine lv_iload_n hx hb dX9_hyphened_21 rfl (lv_at hl 2 rfl) ?_
        obtain ⟨h9, hf⟩ := g_o hf
        refine x_iald hB hW tl155 al155 h9 dX9_hyphened_22 ?_
        refine lv_iconst (v := (1 : Int32)) hx hb dX9_hyphened_23 (by decide) ?_
        refine lv_isub hx hb dX9_hyphened_24 ?_
        obtain ⟨h10, hf⟩ := g_o hf
        refine x_iald hB hW tl151 al151 h10 dX9_hyphened_25 ?_
        refine lv_iconst (v := (1 : Int32)) hx hb dX9_hyphened_26 (by decide) ?_
        obtain ⟨y15, evy15⟩ : ∃ z : Int32, (if (gi M 151 ((((gi M 155 ((x2 : Int32).toNatClampNeg)) - (1 : Int32)) : Int32).toNatClampNeg)) = (1 : Int32) then ((1 : Int32)) else ((0 : Int32))) = z := ⟨_, rfl⟩
        have hf := nm_o hf evy15.symm
        have main12 : ∀ (x11 : Int32) (H : Heap) (locs : List Loc) (ls : Array Slot), Wd G M H → va_S (adA G) s.heap H locs → lv_has ls 3 [(0, .ref (G.2.2.1 139)), (2, .int x2)] → x11 = y15 → W p l e (rmq 0 0) s m args below meth c H locs 0 0 (MQ below (Qi G r M) args s 0 0 (adA G)) (F0 m 35 ls [.int x11, .int x1]) := by
          intro x11 H locs ls hW hS hl hE
          have hE := hE.symm
          subst hE
          refine lv_iadd hx hb dX9_hyphened_35 ?_
          refine lv_topi (fun x13 ex13 => ?_)
          have hf := nm_o hf ex13
          refine lv_istore_n (lv' := [(1, .int x13), (0, .ref (G.2.2.1 139)), (2, .int x2)]) hx hb dX9_hyphened_36 rfl hl (by decide) rfl (fun ls hl => ?_)
          obtain ⟨x14, ex14⟩ : ∃ y : Int32, y = x2 + (1 : Int32) := ⟨_, rfl⟩
          have hf := nm_o hf ex14
          refine lv_iinc (v := x14) (lv' := [(2, .int x14), (1, .int x13), (0, .ref (G.2.2.1 139))]) hx hb dX9_hyphened_37 hl (k := 2) rfl (by rw [ex14]; rfl) (by decide) rfl (fun ls hl => ?_)
          refine lv_goto (tgt := 4) hx hb dX9_hyphened_40 (by decide) ?_
          exact ih x13 x14 _ _ ls hW hS (lv_sub hl [2, 1, 0] rfl) hf
        have hf := evy15
        refine lv_icmp_ne (tgt := 34) hx hb dX9_hyphened_27 (by decide) (fun c16 => ?_) (fun c16 => ?_)
        · have hf := i_f hf c16
          refine lv_iconst (v := (0 : Int32)) hx hb dX9_hyphened_34 (by decide) ?_
          exact main12 (0 : Int32) _ _ ls hW hS (lv_sub hl [0, 2] rfl) hf
        · have hf := i_t hf c16
          refine lv_iconst (v := (1 : Int32)) hx hb dX9_hyphened_30 (by decide) ?_
          refine lv_goto (tgt := 35) hx hb dX9_hyphened_31 (by decide) ?_
          exact main12 (1 : Int32) _ _ ls hW hS (lv_sub hl [0, 2] rfl) hf
  exact loop4 FU (0 : Int32) (1 : Int32) _ _ ls hW hS (lv_sub hl [2, 1, 0] rfl) hL
def f_X9_widows_L4 (M : Mem) (K3 : Int32 → Int32 → Option (Int32)) (x1 : Int32) (x2 : Int32) : Option (Int32) := (if (gi M 139 29) ≤ x2 then (some (x1)) else (gq (inB x2 162) (gq (inB (x2 + (1 : Int32)) 162) (bq1 (f_X9_isWidow (gi M 155 ((x2 : Int32).toNatClampNeg)) (gi M 155 (((x2 + (1 : Int32)) : Int32).toNatClampNeg)) M) (fun (x11 : Int32) => (nmq ((if x11 = 0 then ((0 : Int32)) else ((1 : Int32)))) (fun (x13 : Int32) => (nmq ((x1 + x13)) (fun (x15 : Int32) => nmq (x2 + (1 : Int32)) (fun (x16 : Int32) => (K3 x15 x16)))))))))))
def f_X9_widows (M : Mem) : Option Int32 := (bq1 (lq2 (f_X9_widows_L4 M) FU (0 : Int32) (0 : Int32)) (fun (x5 : Int32) => some x5))
set_option maxHeartbeats 4000000 in
set_option maxRecDepth 100000 in
theorem ct_X9_widows (l : Launch) (G : GG)  {M : Mem} {r : Int32}  (hf : f_X9_widows M = some r) : Met l yX9_widows (wsq yX9_widows cX9_widows 3 (some .int)) (rmq 2 43) (va_Pc [.ref (G.2.2.1 139)] (World G M)) (Qi G r M) 0 0 (adA G) := by
  refine x_start (plainFor_of_name (by decide)) (Nat.le_of_ble_eq_true rfl) ?_
  intro p e s m args below meth c hB hr hlk hW hS ls hl
  have hx := hB.x
  have hb := hB.b
  have hl : lv_has ls 3 [(0, .ref (G.2.2.1 139))] := hl
  unfold f_X9_widows at hf
  refine lv_iconst (v := (0 : Int32)) hx hb dX9_widows_0 (by decide) ?_
  refine lv_istore_n (lv' := [(1, .int (0 : Int32)), (0, .ref (G.2.2.1 139))]) hx hb dX9_widows_1 rfl hl (by decide) rfl (fun ls hl => ?_)
  refine lv_iconst (v := (0 : Int32)) hx hb dX9_widows_2 (by decide) ?_
  refine lv_istore_n (lv' := [(2, .int (0 : Int32)), (1, .int (0 : Int32)), (0, .ref (G.2.2.1 139))]) hx hb dX9_widows_3 rfl hl (by decide) rfl (fun ls hl => ?_)
  obtain ⟨y6, hL, hf⟩ := b_o1 hf
  have main7 : ∀ (x5 : Int32) (H : Heap) (locs : List Loc) (ls : Array Slot), Wd G M H → va_S (adA G) s.heap H locs → lv_has ls 3 [(1, .int x5)] → some (x5) = some (y6) → W p l e (rmq 2 43) s m args below meth c H locs 0 0 (MQ below (Qi G r M) args s 0 0 (adA G)) (F0 m 47 ls []) := by
    intro x5 H locs ls hW hS hl hE
    cases hE
    refine lv_iload_n hx hb dX9_widows_47 rfl (lv_at hl 0 rfl) ?_
    exact e_i hB hW hS hr hlk (Option.some.inj hf) rfl dX9_widows_48
  have loop4 : ∀ (n : Nat) (x1 : Int32) (x2 : Int32) (H : Heap) (locs : List Loc) (ls : Array Slot), Wd G M H → va_S (adA G) s.heap H locs → lv_has ls 3 [(0, .ref (G.2.2.1 139)), (1, .int x1), (2, .int x2)] → lq2 (f_X9_widows_L4 M) n x1 x2 = some (y6) → W p l e (rmq 2 43) s m args below meth c H locs 0 0 (MQ below (Qi G r M) args s 0 0 (adA G)) (F0 m 4 ls []) := by
    intro n
    induction n with
    | zero => intro x1 x2 H locs ls hW hS hl hf; exact (l_z2 hf).elim
    | succ n ih =>
      intro x1 x2 H locs ls hW hS hl hf
      have hf := l_s2 hf
      generalize lq2 (f_X9_widows_L4 M) n = K3 at ih hf
      unfold f_X9_widows_L4 at hf
      refine lv_iload_n hx hb dX9_widows_4 rfl (lv_at hl 2 rfl) ?_
      refine lv_aload_n hx hb dX9_widows_5 rfl (lv_at hl 0 rfl) ?_
      refine fg9_29 hB hW tl139 wd5_108 dX9_widows_6 ?_
      refine lv_icmp_ge (tgt := 47) hx hb dX9_widows_9 (by decide) (fun c8 => ?_) (fun c8 => ?_)
      · have hf := i_t hf c8
        exact main7 x1 _ _ ls hW hS (lv_sub hl [1] rfl) hf
      · have hf := i_f hf c8
        refine lv_iload_n hx hb dX9_widows_12 rfl (lv_at hl 1 rfl) ?_
        refine lv_aload_n hx hb dX9_widows_13 rfl (lv_at hl 0 rfl) ?_
        refine lv_aload_n hx hb dX9_widows_14 rfl (lv_at hl 0 rfl) ?_
        refine fg9_28 hB hW tl139 wd5_107 dX9_widows_15 ?_
        refine lv_iload_n hx hb dX9_widows_18 rfl (lv_at hl 2 rfl) ?_
        obtain ⟨h9, hf⟩ := g_o hf
        refine x_iald hB hW tl155 al155 h9 dX9_widows_19 ?_
        refine lv_aload_n hx hb dX9_widows_20 rfl (lv_at hl 0 rfl) ?_
        refine fg9_28 hB hW tl139 wd5_107 dX9_widows_21 ?_
        refine lv_iload_n hx hb dX9_widows_24 rfl (lv_at hl 2 rfl) ?_
        refine lv_iconst (v := (1 : Int32)) hx hb dX9_widows_25 (by decide) ?_
        refine lv_iadd hx hb dX9_widows_26 ?_
        obtain ⟨h10, hf⟩ := g_o hf
        refine x_iald hB hW tl155 al155 h10 dX9_widows_27 ?_
        obtain ⟨x11, hg12, hf⟩ := b_o1 hf
        refine x_ci hB (x_rv hB hW hS (As := [.int (gi M 155 ((x2 : Int32).toNatClampNeg)), .int (gi M 155 (((x2 + (1 : Int32)) : Int32).toNatClampNeg))]) (rest := [.int x1]) (ct_X9_isWidow l G hg12) (cl_RX9_193 hB.2.2.2.2.1 ⟨Nat.le_of_ble_eq_true rfl, Nat.le_of_ble_eq_true rfl⟩) tl139 (by decide) rfl rfl hl.1 rfl (Nat.le_of_ble_eq_true rfl) dX9_widows_28 ⟨Nat.le_refl _, Nat.le_refl _⟩) hS (fun H locs hW hS => ?_)
        obtain ⟨y17, evy17⟩ : ∃ z : Int32, (if x11 = 0 then ((0 : Int32)) else ((1 : Int32))) = z := ⟨_, rfl⟩
        have hf := nm_o hf evy17.symm
        have main14 : ∀ (x13 : Int32) (H : Heap) (locs : List Loc) (ls : Array Slot), Wd G M H → va_S (adA G) s.heap H locs → lv_has ls 3 [(0, .ref (G.2.2.1 139)), (2, .int x2)] → x13 = y17 → W p l e (rmq 2 43) s m args below meth c H locs 0 0 (MQ below (Qi G r M) args s 0 0 (adA G)) (F0 m 39 ls [.int x13, .int x1]) := by
          intro x13 H locs ls hW hS hl hE
          have hE := hE.symm
          subst hE
          refine lv_iadd hx hb dX9_widows_39 ?_
          refine lv_topi (fun x15 ex15 => ?_)
          have hf := nm_o hf ex15
          refine lv_istore_n (lv' := [(1, .int x15), (0, .ref (G.2.2.1 139)), (2, .int x2)]) hx hb dX9_widows_40 rfl hl (by decide) rfl (fun ls hl => ?_)
          obtain ⟨x16, ex16⟩ : ∃ y : Int32, y = x2 + (1 : Int32) := ⟨_, rfl⟩
          have hf := nm_o hf ex16
          refine lv_iinc (v := x16) (lv' := [(2, .int x16), (1, .int x15), (0, .ref (G.2.2.1 139))]) hx hb dX9_widows_41 hl (k := 2) rfl (by rw [ex16]; rfl) (by decide) rfl (fun ls hl => ?_)
          refine lv_goto (tgt := 4) hx hb dX9_widows_44 (by decide) ?_
          exact ih x15 x16 _ _ ls hW hS (lv_sub hl [2, 1, 0] rfl) hf
        have hf := evy17
        refine lv_if_eq (tgt := 38) hx hb dX9_widows_31 (by decide) (fun c18 => ?_) (fun c18 => ?_)
        · have hf := i_t hf c18
          refine lv_iconst (v := (0 : Int32)) hx hb dX9_widows_38 (by decide) ?_
          exact main14 (0 : Int32) _ _ ls hW hS (lv_sub hl [0, 2] rfl) hf
        · have hf := i_f hf c18
          refine lv_iconst (v := (1 : Int32)) hx hb dX9_widows_34 (by decide) ?_
          refine lv_goto (tgt := 39) hx hb dX9_widows_35 (by decide) ?_
          exact main14 (1 : Int32) _ _ ls hW hS (lv_sub hl [0, 2] rfl) hf
  exact loop4 FU (0 : Int32) (0 : Int32) _ _ ls hW hS (lv_sub hl [2, 1, 0] rfl) hL
def f_X9_ratioOfLine (p1 : Int32) (M : Mem) : Option UInt32 := (gq (inB p1 162) (gq (inB (p1 + (1 : Int32)) 162) (bq1 (f_X9_ratioOf (gi M 155 ((p1 : Int32).toNatClampNeg)) (gi M 155 (((p1 + (1 : Int32)) : Int32).toNatClampNeg)) M) (fun (x3 : UInt32) => some x3))))
set_option maxHeartbeats 4000000 in
set_option maxRecDepth 100000 in
theorem ct_X9_ratioOfLine (l : Launch) (G : GG) {p1 : Int32} {M : Mem} {r : UInt32}  (hf : f_X9_ratioOfLine p1 M = some r) : Met l yX9_ratioOfLine (wsq yX9_ratioOfLine cX9_ratioOfLine 2 (some .float)) (rmq 2 47) (va_Pc [.ref (G.2.2.1 139), .int p1] (World G M)) (Qf G r M) 0 0 (adA G) := by
  refine x_start (plainFor_of_name (by decide)) (Nat.le_of_ble_eq_true rfl) ?_
  intro p e s m args below meth c hB hr hlk hW hS ls hl
  have hx := hB.x
  have hb := hB.b
  have hl : lv_has ls 2 [(0, .ref (G.2.2.1 139)), (1, .int p1)] := hl
  unfold f_X9_ratioOfLine at hf
  refine lv_aload_n hx hb dX9_ratioOfLine_0 rfl (lv_at hl 0 rfl) ?_
  refine lv_aload_n hx hb dX9_ratioOfLine_1 rfl (lv_at hl 0 rfl) ?_
  refine fg9_28 hB hW tl139 wd5_107 dX9_ratioOfLine_2 ?_
  refine lv_iload_n hx hb dX9_ratioOfLine_5 rfl (lv_at hl 1 rfl) ?_
  obtain ⟨h1, hf⟩ := g_o hf
  refine x_iald hB hW tl155 al155 h1 dX9_ratioOfLine_6 ?_
  refine lv_aload_n hx hb dX9_ratioOfLine_7 rfl (lv_at hl 0 rfl) ?_
  refine fg9_28 hB hW tl139 wd5_107 dX9_ratioOfLine_8 ?_
  refine lv_iload_n hx hb dX9_ratioOfLine_11 rfl (lv_at hl 1 rfl) ?_
  refine lv_iconst (v := (1 : Int32)) hx hb dX9_ratioOfLine_12 (by decide) ?_
  refine lv_iadd hx hb dX9_ratioOfLine_13 ?_
  obtain ⟨h2, hf⟩ := g_o hf
  refine x_iald hB hW tl155 al155 h2 dX9_ratioOfLine_14 ?_
  obtain ⟨x3, hg4, hf⟩ := b_o1 hf
  refine x_cf hB (x_rv hB hW hS (As := [.int (gi M 155 ((p1 : Int32).toNatClampNeg)), .int (gi M 155 (((p1 + (1 : Int32)) : Int32).toNatClampNeg))]) (rest := []) (ct_X9_ratioOf l G hg4) (cl_RX9_176 hB.2.2.2.2.1 ⟨Nat.le_of_ble_eq_true rfl, Nat.le_of_ble_eq_true rfl⟩) tl139 (by decide) rfl rfl hl.1 rfl (Nat.le_of_ble_eq_true rfl) dX9_ratioOfLine_15 ⟨Nat.le_refl _, Nat.le_refl _⟩) hS (fun H locs hW hS => ?_)
  exact e_f hB hW hS hr hlk (Option.some.inj hf) rfl dX9_ratioOfLine_18
theorem cl_RX9_335 {R : Room} {s : State} {args : Array Value} (ht : ∀ w ∈ lw_all, w.before args s = true) (hR : 2 + 1 ≤ R.frames ∧ 8 + (2 + 11) + 47 ≤ R.locals) : CallW R s args RX9 RX9 335 yX9_ratioOfLine cX9_ratioOfLine 2 (some .float) (wsq yX9_ratioOfLine cX9_ratioOfLine 2 (some .float)) (rmq 2 47) 0 0 1 := cwV 1 ht (goodV wd7_55 wd7_57 wsel_82 wd1_10 wd7_58) rfl rfl rfl (by decide +kernel) hR
def f_X9_loosest_L5 (M : Mem) (K3 : Int32 → Int32 → Option (Int32)) (x1 : Int32) (x2 : Int32) : Option (Int32) := (if (gi M 139 29) ≤ x2 then (some (x1)) else (if x1 < 0 then (nmq (x2 + (1 : Int32)) (fun (x10 : Int32) => (K3 x2 x10))) else (bq1 (f_X9_ratioOfLine x2 M) (fun (x11 : UInt32) => bq1 (f_X9_ratioOfLine x1 M) (fun (x13 : UInt32) => (if (fcl x11 x13) ≤ 0 then (nmq (x2 + (1 : Int32)) (fun (x16 : Int32) => (K3 x1 x16))) else (nmq (x2 + (1 : Int32)) (fun (x17 : Int32) => (K3 x2 x17)))))))))
def f_X9_loosest (M : Mem) : Option Int32 := (bq1 (lq2 (f_X9_loosest_L5 M) FU (-9 : Int32) (0 : Int32)) (fun (x5 : Int32) => some x5))
set_option maxHeartbeats 4000000 in
set_option maxRecDepth 100000 in
theorem ct_X9_loosest (l : Launch) (G : GG)  {M : Mem} {r : Int32}  (hf : f_X9_loosest M = some r) : Met l yX9_loosest (wsq yX9_loosest cX9_loosest 3 (some .int)) (rmq 3 68) (va_Pc [.ref (G.2.2.1 139)] (World G M)) (Qi G r M) 0 0 (adA G) := by
  refine x_start (plainFor_of_name (by decide)) (Nat.le_of_ble_eq_true rfl) ?_
  intro p e s m args below meth c hB hr hlk hW hS ls hl
  have hx := hB.x
  have hb := hB.b
  have hl : lv_has ls 3 [(0, .ref (G.2.2.1 139))] := hl
  unfold f_X9_loosest at hf
  refine lv_bipush (v := (-9 : Int32)) hx hb dX9_loosest_0 (by decide) ?_
  refine lv_istore_n (lv' := [(1, .int (-9 : Int32)), (0, .ref (G.2.2.1 139))]) hx hb dX9_loosest_2 rfl hl (by decide) rfl (fun ls hl => ?_)
  refine lv_iconst (v := (0 : Int32)) hx hb dX9_loosest_3 (by decide) ?_
  refine lv_istore_n (lv' := [(2, .int (0 : Int32)), (1, .int (-9 : Int32)), (0, .ref (G.2.2.1 139))]) hx hb dX9_loosest_4 rfl hl (by decide) rfl (fun ls hl => ?_)
  obtain ⟨y6, hL, hf⟩ := b_o1 hf
  have main7 : ∀ (x5 : Int32) (H : Heap) (locs : List Loc) (ls : Array Slot), Wd G M H → va_S (adA G) s.heap H locs → lv_has ls 3 [(1, .int x5)] → some (x5) = some (y6) → W p l e (rmq 3 68) s m args below meth c H locs 0 0 (MQ below (Qi G r M) args s 0 0 (adA G)) (F0 m 43 ls []) := by
    intro x5 H locs ls hW hS hl hE
    cases hE
    refine lv_iload_n hx hb dX9_loosest_43 rfl (lv_at hl 0 rfl) ?_
    exact e_i hB hW hS hr hlk (Option.some.inj hf) rfl dX9_loosest_44
  have loop4 : ∀ (n : Nat) (x1 : Int32) (x2 : Int32) (H : Heap) (locs : List Loc) (ls : Array Slot), Wd G M H → va_S (adA G) s.heap H locs → lv_has ls 3 [(0, .ref (G.2.2.1 139)), (1, .int x1), (2, .int x2)] → lq2 (f_X9_loosest_L5 M) n x1 x2 = some (y6) → W p l e (rmq 3 68) s m args below meth c H locs 0 0 (MQ below (Qi G r M) args s 0 0 (adA G)) (F0 m 5 ls []) := by
    intro n
    induction n with
    | zero => intro x1 x2 H locs ls hW hS hl hf; exact (l_z2 hf).elim
    | succ n ih =>
      intro x1 x2 H locs ls hW hS hl hf
      have hf := l_s2 hf
      generalize lq2 (f_X9_loosest_L5 M) n = K3 at ih hf
      unfold f_X9_loosest_L5 at hf
      refine lv_iload_n hx hb dX9_loosest_5 rfl (lv_at hl 2 rfl) ?_
      refine lv_aload_n hx hb dX9_loosest_6 rfl (lv_at hl 0 rfl) ?_
      refine fg9_29 hB hW tl139 wd5_108 dX9_loosest_7 ?_
      refine lv_icmp_ge (tgt := 43) hx hb dX9_loosest_10 (by decide) (fun c8 => ?_) (fun c8 => ?_)
      · have hf := i_t hf c8
        exact main7 x1 _ _ ls hW hS (lv_sub hl [1] rfl) hf
      · have hf := i_f hf c8
        refine lv_iload_n hx hb dX9_loosest_13 rfl (lv_at hl 1 rfl) ?_
        refine lv_if_lt (tgt := 31) hx hb dX9_loosest_14 (by decide) (fun c9 => ?_) (fun c9 => ?_)
        · have hf := i_t hf c9
          refine lv_iload_n hx hb dX9_loosest_31 rfl (lv_at hl 2 rfl) ?_
          refine lv_goto (tgt := 36) hx hb dX9_loosest_32 (by decide) ?_
          refine lv_istore_n (lv' := [(1, .int x2), (0, .ref (G.2.2.1 139)), (2, .int x2)]) hx hb dX9_loosest_36 rfl hl (by decide) rfl (fun ls hl => ?_)
          obtain ⟨x10, ex10⟩ : ∃ y : Int32, y = x2 + (1 : Int32) := ⟨_, rfl⟩
          have hf := nm_o hf ex10
          refine lv_iinc (v := x10) (lv' := [(2, .int x10), (1, .int x2), (0, .ref (G.2.2.1 139))]) hx hb dX9_loosest_37 hl (k := 2) rfl (by rw [ex10]; rfl) (by decide) rfl (fun ls hl => ?_)
          refine lv_goto (tgt := 5) hx hb dX9_loosest_40 (by decide) ?_
          exact ih x2 x10 _ _ ls hW hS (lv_sub hl [2, 1, 0] rfl) hf
        · have hf := i_f hf c9
          refine lv_aload_n hx hb dX9_loosest_17 rfl (lv_at hl 0 rfl) ?_
          refine lv_iload_n hx hb dX9_loosest_18 rfl (lv_at hl 2 rfl) ?_
          obtain ⟨x11, hg12, hf⟩ := b_o1 hf
          refine x_cf hB (x_rv hB hW hS (As := [.int x2]) (rest := []) (ct_X9_ratioOfLine l G hg12) (cl_RX9_335 hB.2.2.2.2.1 ⟨Nat.le_of_ble_eq_true rfl, Nat.le_of_ble_eq_true rfl⟩) tl139 (by decide) rfl rfl hl.1 rfl (Nat.le_of_ble_eq_true rfl) dX9_loosest_19 ⟨Nat.le_refl _, Nat.le_refl _⟩) hS (fun H locs hW hS => ?_)
          refine lv_aload_n hx hb dX9_loosest_22 rfl (lv_at hl 0 rfl) ?_
          refine lv_iload_n hx hb dX9_loosest_23 rfl (lv_at hl 1 rfl) ?_
          obtain ⟨x13, hg14, hf⟩ := b_o1 hf
          refine x_cf hB (x_rv hB hW hS (As := [.int x1]) (rest := [.float x11]) (ct_X9_ratioOfLine l G hg14) (cl_RX9_335 hB.2.2.2.2.1 ⟨Nat.le_of_ble_eq_true rfl, Nat.le_of_ble_eq_true rfl⟩) tl139 (by decide) rfl rfl hl.1 rfl (Nat.le_of_ble_eq_true rfl) dX9_loosest_24 ⟨Nat.le_refl _, Nat.le_refl _⟩) hS (fun H locs hW hS => ?_)
          refine lv_fcmp hx hb dX9_loosest_27 ?_
          refine lv_if_le (tgt := 35) hx hb dX9_loosest_28 (by decide) (fun c15 => ?_) (fun c15 => ?_)
          · have hf := i_t hf c15
            refine lv_iload_n hx hb dX9_loosest_35 rfl (lv_at hl 1 rfl) ?_
            refine lv_istore_n (lv' := [(1, .int x1), (0, .ref (G.2.2.1 139)), (2, .int x2)]) hx hb dX9_loosest_36 rfl hl (by decide) rfl (fun ls hl => ?_)
            obtain ⟨x16, ex16⟩ : ∃ y : Int32, y = x2 + (1 : Int32) := ⟨_, rfl⟩
            have hf := nm_o hf ex16
            refine lv_iinc (v := x16) (lv' := [(2, .int x16), (1, .int x1), (0, .ref (G.2.2.1 139))]) hx hb dX9_loosest_37 hl (k := 2) rfl (by rw [ex16]; rfl) (by decide) rfl (fun ls hl => ?_)
            refine lv_goto (tgt := 5) hx hb dX9_loosest_40 (by decide) ?_
            exact ih x1 x16 _ _ ls hW hS (lv_sub hl [2, 1, 0] rfl) hf
          · have hf := i_f hf c15
            refine lv_iload_n hx hb dX9_loosest_31 rfl (lv_at hl 2 rfl) ?_
            refine lv_goto (tgt := 36) hx hb dX9_loosest_32 (by decide) ?_
            refine lv_istore_n (lv' := [(1, .int x2), (0, .ref (G.2.2.1 139)), (2, .int x2)]) hx hb dX9_loosest_36 rfl hl (by decide) rfl (fun ls hl => ?_)
            obtain ⟨x17, ex17⟩ : ∃ y : Int32, y = x2 + (1 : Int32) := ⟨_, rfl⟩
            have hf := nm_o hf ex17
            refine lv_iinc (v := x17) (lv' := [(2, .int x17), (1, .int x2), (0, .ref (G.2.2.1 139))]) hx hb dX9_loosest_37 hl (k := 2) rfl (by rw [ex17]; rfl) (by decide) rfl (fun ls hl => ?_)
            refine lv_goto (tgt := 5) hx hb dX9_loosest_40 (by decide) ?_
            exact ih x2 x17 _ _ ls hW hS (lv_sub hl [2, 1, 0] rfl) hf
  exact loop4 FU (-9 : Int32) (0 : Int32) _ _ ls hW hS (lv_sub hl [2, 1, 0] rfl) hL
def f_X9_tightest_L5 (M : Mem) (K3 : Int32 → Int32 → Option (Int32)) (x1 : Int32) (x2 : Int32) : Option (Int32) := (if (gi M 139 29) ≤ x2 then (some (x1)) else (if x1 < 0 then (nmq (x2 + (1 : Int32)) (fun (x10 : Int32) => (K3 x2 x10))) else (bq1 (f_X9_ratioOfLine x2 M) (fun (x11 : UInt32) => bq1 (f_X9_ratioOfLine x1 M) (fun (x13 : UInt32) => (if 0 ≤ (fcg x11 x13) then (nmq (x2 + (1 : Int32)) (fun (x16 : Int32) => (K3 x1 x16))) else (nmq (x2 + (1 : Int32)) (fun (x17 : Int32) => (K3 x2 x17)))))))))
def f_X9_tightest (M : Mem) : Option Int32 := (bq1 (lq2 (f_X9_tightest_L5 M) FU (-9 : Int32) (0 : Int32)) (fun (x5 : Int32) => some x5))
set_option maxHeartbeats 4000000 in
set_option maxRecDepth 100000 in
theorem ct_X9_tightest (l : Launch) (G : GG)  {M : Mem} {r : Int32}  (hf : f_X9_tightest M = some r) : Met l yX9_tightest (wsq yX9_tightest cX9_tightest 3 (some .int)) (rmq 3 68) (va_Pc [.ref (G.2.2.1 139)] (World G M)) (Qi G r M) 0 0 (adA G) := by
  refine x_start (plainFor_of_name (by decide)) (Nat.le_of_ble_eq_true rfl) ?_
  intro p e s m args below meth c hB hr hlk hW hS ls hl
  have hx := hB.x
  have hb := hB.b
  have hl : lv_has ls 3 [(0, .ref (G.2.2.1 139))] := hl
  unfold f_X9_tightest at hf
  refine lv_bipush (v := (-9 : Int32)) hx hb dX9_tightest_0 (by decide) ?_
  refine lv_istore_n (lv' := [(1, .int (-9 : Int32)), (0, .ref (G.2.2.1 139))]) hx hb dX9_tightest_2 rfl hl (by decide) rfl (fun ls hl => ?_)
  refine lv_iconst (v := (0 : Int32)) hx hb dX9_tightest_3 (by decide) ?_
  refine lv_istore_n (lv' := [(2, .int (0 : Int32)), (1, .int (-9 : Int32)), (0, .ref (G.2.2.1 139))]) hx hb dX9_tightest_4 rfl hl (by decide) rfl (fun ls hl => ?_)
  obtain ⟨y6, hL, hf⟩ := b_o1 hf
  have main7 : ∀ (x5 : Int32) (H : Heap) (locs : List Loc) (ls : Array Slot), Wd G M H → va_S (adA G) s.heap H locs → lv_has ls 3 [(1, .int x5)] → some (x5) = some (y6) → W p l e (rmq 3 68) s m args below meth c H locs 0 0 (MQ below (Qi G r M) args s 0 0 (adA G)) (F0 m 43 ls []) := by
    intro x5 H locs ls hW hS hl hE
    cases hE
    refine lv_iload_n hx hb dX9_tightest_43 rfl (lv_at hl 0 rfl) ?_
    exact e_i hB hW hS hr hlk (Option.some.inj hf) rfl dX9_tightest_44
  have loop4 : ∀ (n : Nat) (x1 : Int32) (x2 : Int32) (H : Heap) (locs : List Loc) (ls : Array Slot), Wd G M H → va_S (adA G) s.heap H locs → lv_has ls 3 [(0, .ref (G.2.2.1 139)), (1, .int x1), (2, .int x2)] → lq2 (f_X9_tightest_L5 M) n x1 x2 = some (y6) → W p l e (rmq 3 68) s m args below meth c H locs 0 0 (MQ below (Qi G r M) args s 0 0 (adA G)) (F0 m 5 ls []) := by
    intro n
    induction n with
    | zero => intro x1 x2 H locs ls hW hS hl hf; exact (l_z2 hf).elim
    | succ n ih =>
      intro x1 x2 H locs ls hW hS hl hf
      have hf := l_s2 hf
      generalize lq2 (f_X9_tightest_L5 M) n = K3 at ih hf
      unfold f_X9_tightest_L5 at hf
      refine lv_iload_n hx hb dX9_tightest_5 rfl (lv_at hl 2 rfl) ?_
      refine lv_aload_n hx hb dX9_tightest_6 rfl (lv_at hl 0 rfl) ?_
      refine fg9_29 hB hW tl139 wd5_108 dX9_tightest_7 ?_
      refine lv_icmp_ge (tgt := 43) hx hb dX9_tightest_10 (by decide) (fun c8 => ?_) (fun c8 => ?_)
      · have hf := i_t hf c8
        exact main7 x1 _ _ ls hW hS (lv_sub hl [1] rfl) hf
      · have hf := i_f hf c8
        refine lv_iload_n hx hb dX9_tightest_13 rfl (lv_at hl 1 rfl) ?_
        refine lv_if_lt (tgt := 31) hx hb dX9_tightest_14 (by decide) (fun c9 => ?_) (fun c9 => ?_)
        · have hf := i_t hf c9
          refine lv_iload_n hx hb dX9_tightest_31 rfl (lv_at hl 2 rfl) ?_
          refine lv_goto (tgt := 36) hx hb dX9_tightest_32 (by decide) ?_
          refine lv_istore_n (lv' := [(1, .int x2), (0, .ref (G.2.2.1 139)), (2, .int x2)]) hx hb dX9_tightest_36 rfl hl (by decide) rfl (fun ls hl => ?_)
          obtain ⟨x10, ex10⟩ : ∃ y : Int32, y = x2 + (1 : Int32) := ⟨_, rfl⟩
          have hf := nm_o hf ex10
          refine lv_iinc (v := x10) (lv' := [(2, .int x10), (1, .int x2), (0, .ref (G.2.2.1 139))]) hx hb dX9_tightest_37 hl (k := 2) rfl (by rw [ex10]; rfl) (by decide) rfl (fun ls hl => ?_)
          refine lv_goto (tgt := 5) hx hb dX9_tightest_40 (by decide) ?_
          exact ih x2 x10 _ _ ls hW hS (lv_sub hl [2, 1, 0] rfl) hf
        · have hf := i_f hf c9
          refine lv_aload_n hx hb dX9_tightest_17 rfl (lv_at hl 0 rfl) ?_
          refine lv_iload_n hx hb dX9_tightest_18 rfl (lv_at hl 2 rfl) ?_
          obtain ⟨x11, hg12, hf⟩ := b_o1 hf
          refine x_cf hB (x_rv hB hW hS (As := [.int x2]) (rest := []) (ct_X9_ratioOfLine l G hg12) (cl_RX9_335 hB.2.2.2.2.1 ⟨Nat.le_of_ble_eq_true rfl, Nat.le_of_ble_eq_true rfl⟩) tl139 (by decide) rfl rfl hl.1 rfl (Nat.le_of_ble_eq_true rfl) dX9_tightest_19 ⟨Nat.le_refl _, Nat.le_refl _⟩) hS (fun H locs hW hS => ?_)
          refine lv_aload_n hx hb dX9_tightest_22 rfl (lv_at hl 0 rfl) ?_
          refine lv_iload_n hx hb dX9_tightest_23 rfl (lv_at hl 1 rfl) ?_
          obtain ⟨x13, hg14, hf⟩ := b_o1 hf
          refine x_cf hB (x_rv hB hW hS (As := [.int x1]) (rest := [.float x11]) (ct_X9_ratioOfLine l G hg14) (cl_RX9_335 hB.2.2.2.2.1 ⟨Nat.le_of_ble_eq_true rfl, Nat.le_of_ble_eq_true rfl⟩) tl139 (by decide) rfl rfl hl.1 rfl (Nat.le_of_ble_eq_true rfl) dX9_tightest_24 ⟨Nat.le_refl _, Nat.le_refl _⟩) hS (fun H locs hW hS => ?_)
          refine lv_fcmp hx hb dX9_tightest_27 ?_
          refine lv_if_ge (tgt := 35) hx hb dX9_tightest_28 (by decide) (fun c15 => ?_) (fun c15 => ?_)
          · have hf := i_t hf c15
            refine lv_iload_n hx hb dX9_tightest_35 rfl (lv_at hl 1 rfl) ?_
            refine lv_istore_n (lv' := [(1, .int x1), (0, .ref (G.2.2.1 139)), (2, .int x2)]) hx hb dX9_tightest_36 rfl hl (by decide) rfl (fun ls hl => ?_)
            obtain ⟨x16, ex16⟩ : ∃ y : Int32, y = x2 + (1 : Int32) := ⟨_, rfl⟩
            have hf := nm_o hf ex16
            refine lv_iinc (v := x16) (lv' := [(2, .int x16), (1, .int x1), (0, .ref (G.2.2.1 139))]) hx hb dX9_tightest_37 hl (k := 2) rfl (by rw [ex16]; rfl) (by decide) rfl (fun ls hl => ?_)
            refine lv_goto (tgt := 5) hx hb dX9_tightest_40 (by decide) ?_
            exact ih x1 x16 _ _ ls hW hS (lv_sub hl [2, 1, 0] rfl) hf
          · have hf := i_f hf c15
            refine lv_iload_n hx hb dX9_tightest_31 rfl (lv_at hl 2 rfl) ?_
            refine lv_goto (tgt := 36) hx hb dX9_tightest_32 (by decide) ?_
            refine lv_istore_n (lv' := [(1, .int x2), (0, .ref (G.2.2.1 139)), (2, .int x2)]) hx hb dX9_tightest_36 rfl hl (by decide) rfl (fun ls hl => ?_)
            obtain ⟨x17, ex17⟩ : ∃ y : Int32, y = x2 + (1 : Int32) := ⟨_, rfl⟩
            have hf := nm_o hf ex17
            refine lv_iinc (v := x17) (lv' := [(2, .int x17), (1, .int x2), (0, .ref (G.2.2.1 139))]) hx hb dX9_tightest_37 hl (k := 2) rfl (by rw [ex17]; rfl) (by decide) rfl (fun ls hl => ?_)
            refine lv_goto (tgt := 5) hx hb dX9_tightest_40 (by decide) ?_
            exact ih x2 x17 _ _ ls hW hS (lv_sub hl [2, 1, 0] rfl) hf
  exact loop4 FU (-9 : Int32) (0 : Int32) _ _ ls hW hS (lv_sub hl [2, 1, 0] rfl) hL
theorem cl_RX9_339 {R : Room} {s : State} {args : Array Value} (ht : ∀ w ∈ lw_all, w.before args s = true) (hR : 0 + 1 ≤ R.frames ∧ 8 + (3 + 11) + 0 ≤ R.locals) : CallW R s args RX9 RX9 339 yX9_hyphened cX9_hyphened 3 (some .int) (wsq yX9_hyphened cX9_hyphened 3 (some .int)) (rmq 0 0) 0 0 0 := cwV 0 ht (goodV wd7_43 wd7_45 wsel_79 wd1_10 wd7_46) rfl rfl rfl (by decide +kernel) hR
theorem cl_RX9_342 {R : Room} {s : State} {args : Array Value} (ht : ∀ w ∈ lw_all, w.before args s = true) (hR : 2 + 1 ≤ R.frames ∧ 8 + (3 + 11) + 43 ≤ R.locals) : CallW R s args RX9 RX9 342 yX9_widows cX9_widows 3 (some .int) (wsq yX9_widows cX9_widows 3 (some .int)) (rmq 2 43) 0 0 0 := cwV 0 ht (goodV wd7_47 wd7_49 wsel_80 wd1_10 wd7_50) rfl rfl rfl (by decide +kernel) hR
theorem cl_RX9_345 {R : Room} {s : State} {args : Array Value} (ht : ∀ w ∈ lw_all, w.before args s = true) (hR : 3 + 1 ≤ R.frames ∧ 8 + (3 + 11) + 68 ≤ R.locals) : CallW R s args RX9 RX9 345 yX9_loosest cX9_loosest 3 (some .int) (wsq yX9_loosest cX9_loosest 3 (some .int)) (rmq 3 68) 0 0 0 := cwV 0 ht (goodV wd7_51 wd7_53 wsel_81 wd1_10 wd7_54) rfl rfl rfl (by decide +kernel) hR
theorem cl_RX9_348 {R : Room} {s : State} {args : Array Value} (ht : ∀ w ∈ lw_all, w.before args s = true) (hR : 3 + 1 ≤ R.frames ∧ 8 + (3 + 11) + 68 ≤ R.locals) : CallW R s args RX9 RX9 348 yX9_tightest cX9_tightest 3 (some .int) (wsq yX9_tightest cX9_tightest 3 (some .int)) (rmq 3 68) 0 0 0 := cwV 0 ht (goodV wd7_59 wd7_61 wsel_83 wd1_10 wd7_62) rfl rfl rfl (by decide +kernel) hR
def f_X9_lines (p1 : Int32) (M : Mem) : Option (Int32 × Mem) := (bq1 (f_X9_isIn p1 (0 : Int32) (5 : Int32)) (fun (x1 : Int32) => (if x1 = 0 then (bq2 (f_X9_no (-2 : Int32) M) (fun (x21 : Int32) (M22 : Mem) => some (x21, M22))) else (bq2 (f_X9_findLines M) (fun (x4 : Int32) (M5 : Mem) => (if p1 = (5 : Int32) then some ((gi M5 139 25), M5) else (if 0 ≤ (gi M5 139 29) then (if p1 = (0 : Int32) then some ((gi M5 139 29), M5) else if p1 = (1 : Int32) then (bq1 (f_X9_hyphened M5) (fun (x11 : Int32) => some (x11, M5))) else if p1 = (2 : Int32) then (bq1 (f_X9_widows M5) (fun (x14 : Int32) => some (x14, M5))) else if p1 = (3 : Int32) then (bq1 (f_X9_loosest M5) (fun (x17 : Int32) => some (x17, M5))) else (bq1 (f_X9_tightest M5) (fun (x19 : Int32) => some (x19, M5)))) else some ((-9 : Int32), M5))))))))
set_option maxHeartbeats 4000000 in
set_option maxRecDepth 100000 in
theorem ct_X9_lines (l : Launch) (G : GG) {p1 : Int32} {M : Mem} {r : Int32} {Mr : Mem}  (hf : f_X9_lines p1 M = some (r, Mr)) : Met l yX9_lines (wsq yX9_lines cX9_lines 2 (some .int)) (rmq 6 141) (va_Pc [.ref (G.2.2.1 139), .int p1] (World G M)) (Qi G r Mr) 0 0 (adA G) := by
  refine x_start (plainFor_of_name (by decide)) (Nat.le_of_ble_eq_true rfl) ?_
  intro p e s m args below meth c hB hr hlk hW hS ls hl
  have hx := hB.x
  have hb := hB.b
  have hl : lv_has ls 2 [(0, .ref (G.2.2.1 139)), (1, .int p1)] := hl
  unfold f_X9_lines at hf
  refine lv_iload_n hx hb dX9_lines_0 rfl (lv_at hl 1 rfl) ?_
  refine lv_iconst (v := (0 : Int32)) hx hb dX9_lines_1 (by decide) ?_
  refine lv_iconst (v := (5 : Int32)) hx hb dX9_lines_2 (by decide) ?_
  obtain ⟨x1, hg2, hf⟩ := b_o1 hf
  refine x_ci hB (x_rs hB hW hS (As := [.int p1, .int (0 : Int32), .int (5 : Int32)]) (rest := []) (ct_X9_isIn l G hg2) (cl_RX9_125 hB.2.2.2.2.1 ⟨Nat.le_of_ble_eq_true rfl, Nat.le_of_ble_eq_true rfl⟩) rfl hl.1 rfl (Nat.le_of_ble_eq_true rfl) dX9_lines_3 ⟨Nat.le_refl _, Nat.le_refl _⟩) hS (fun H locs hW hS => ?_)
  refine lv_if_ne (tgt := 16) hx hb dX9_lines_6 (by decide) (fun c3 => ?_) (fun c3 => ?_)
  · have hf := i_f hf c3
    refine lv_aload_n hx hb dX9_lines_16 rfl (lv_at hl 0 rfl) ?_
    obtain ⟨x4, M5, hg6, hf⟩ := b_o2 hf
    refine x_ci hB (x_rv hB hW hS (As := []) (rest := []) (ct_X9_findLines l G hg6) (cl_RX9_214 hB.2.2.2.2.1 ⟨Nat.le_of_ble_eq_true rfl, Nat.le_of_ble_eq_true rfl⟩) tl139 (by decide) rfl rfl hl.1 rfl (Nat.le_of_ble_eq_true rfl) dX9_lines_17 ⟨Nat.le_refl _, Nat.le_refl _⟩) hS (fun H locs hW hS => ?_)
    refine lv_pop hx hb dX9_lines_20 rfl ?_
    refine lv_iload_n hx hb dX9_lines_21 rfl (lv_at hl 1 rfl) ?_
    refine lv_iconst (v := (5 : Int32)) hx hb dX9_lines_22 (by decide) ?_
    refine lv_icmp_ne (tgt := 31) hx hb dX9_lines_23 (by decide) (fun c7 => ?_) (fun c7 => ?_)
    · have hf := i_f hf c7
      refine lv_aload_n hx hb dX9_lines_31 rfl (lv_at hl 0 rfl) ?_
      refine fg9_29 hB hW tl139 wd5_108 dX9_lines_32 ?_
      refine lv_if_ge (tgt := 41) hx hb dX9_lines_35 (by decide) (fun c8 => ?_) (fun c8 => ?_)
      · have hf := i_t hf c8
        refine lv_iload_n hx hb dX9_lines_41 rfl (lv_at hl 1 rfl) ?_
        by_cases c9 : p1 = (0 : Int32)
        · have hf := i_t hf c9
          refine lv_tableIn (tgt := 72) hx hb dX9_lines_42 (by rw [c9]; decide) (by rw [c9]; decide) (by rw [c9] <;> rfl) (by decide) ?_
          refine lv_aload_n hx hb dX9_lines_72 rfl (lv_at hl 0 rfl) ?_
          refine fg9_29 hB hW tl139 wd5_108 dX9_lines_73 ?_
          exact e_i hB hW hS hr hlk (s_1 hf) (s_2 hf) dX9_lines_76
        · have hf := i_f hf c9
          by_cases c10 : p1 = (1 : Int32)
          · have hf := i_t hf c10
            refine lv_tableIn (tgt := 77) hx hb dX9_lines_42 (by rw [c10]; decide) (by rw [c10]; decide) (by rw [c10] <;> rfl) (by decide) ?_
            refine lv_aload_n hx hb dX9_lines_77 rfl (lv_at hl 0 rfl) ?_
            obtain ⟨x11, hg12, hf⟩ := b_o1 hf
            refine x_ci hB (x_rv hB hW hS (As := []) (rest := []) (ct_X9_hyphened l G hg12) (cl_RX9_339 hB.2.2.2.2.1 ⟨Nat.le_of_ble_eq_true rfl, Nat.le_of_ble_eq_true rfl⟩) tl139 (by decide) rfl rfl hl.1 rfl (Nat.le_of_ble_eq_true rfl) dX9_lines_78 ⟨Nat.le_refl _, Nat.le_refl _⟩) hS (fun H locs hW hS => ?_)
            exact e_i hB hW hS hr hlk (s_1 hf) (s_2 hf) dX9_lines_81
          · have hf := i_f hf c10
            by_cases c13 : p1 = (2 : Int32)
            · have hf := i_t hf c13
              refine lv_tableIn (tgt := 82) hx hb dX9_lines_42 (by rw [c13]; decide) (by rw [c13]; decide) (by rw [c13] <;> rfl) (by decide) ?_
              refine lv_aload_n hx hb dX9_lines_82 rfl (lv_at hl 0 rfl) ?_
              obtain ⟨x14, hg15, hf⟩ := b_o1 hf
              refine x_ci hB (x_rv hB hW hS (As := []) (rest := []) (ct_X9_widows l G hg15) (cl_RX9_342 hB.2.2.2.2.1 ⟨Nat.le_of_ble_eq_true rfl, Nat.le_of_ble_eq_true rfl⟩) tl139 (by decide) rfl rfl hl.1 rfl (Nat.le_of_ble_eq_true rfl) dX9_lines_83 ⟨Nat.le_refl _, Nat.le_refl _⟩) hS (fun H locs hW hS => ?_)
              exact e_i hB hW hS hr hlk (s_1 hf) (s_2 hf) dX9_lines_86
            · have hf := i_f hf c13
              by_cases c16 : p1 = (3 : Int32)
              · have hf := i_t hf c16
                refine lv_tableIn (tgt := 87) hx hb dX9_lines_42 (by rw [c16]; decide) (by rw [c16]; decide) (by rw [c16] <;> rfl) (by decide) ?_
                refine lv_aload_n hx hb dX9_lines_87 rfl (lv_at hl 0 rfl) ?_
                obtain ⟨x17, hg18, hf⟩ := b_o1 hf
                refine x_ci hB (x_rv hB hW hS (As := []) (rest := []) (ct_X9_loosest l G hg18) (cl_RX9_345 hB.2.2.2.2.1 ⟨Nat.le_of_ble_eq_true rfl, Nat.le_of_ble_eq_true rfl⟩) tl139 (by decide) rfl rfl hl.1 rfl (Nat.le_of_ble_eq_true rfl) dX9_lines_88 ⟨Nat.le_refl _, Nat.le_refl _⟩) hS (fun H locs hW hS => ?_)
                exact e_i hB hW hS hr hlk (s_1 hf) (s_2 hf) dX9_lines_91
              · have hf := i_f hf c16
                refine lv_tableOut (tgt := 92) hx hb dX9_lines_42 (sw_out (lo := 0) (hi := 3) (fun v h1 h2 hv => ?_)) (by decide) ?_
                · rcases (show v = 0 ∨ v = 1 ∨ v = 2 ∨ v = 3 by omega) with rfl | rfl | rfl | rfl
                  · exact c9 hv
                  · exact c10 hv
                  · exact c13 hv
                  · exact c16 hv
                · skip
                  refine lv_aload_n hx hb dX9_lines_92 rfl (lv_at hl 0 rfl) ?_
                  obtain ⟨x19, hg20, hf⟩ := b_o1 hf
                  refine x_ci hB (x_rv hB hW hS (As := []) (rest := []) (ct_X9_tightest l G hg20) (cl_RX9_348 hB.2.2.2.2.1 ⟨Nat.le_of_ble_eq_true rfl, Nat.le_of_ble_eq_true rfl⟩) tl139 (by decide) rfl rfl hl.1 rfl (Nat.le_of_ble_eq_true rfl) dX9_lines_93 ⟨Nat.le_refl _, Nat.le_refl _⟩) hS (fun H locs hW hS => ?_)
                  exact e_i hB hW hS hr hlk (s_1 hf) (s_2 hf) dX9_lines_96
      · have hf := i_f hf c8
        refine lv_bipush (v := (-9 : Int32)) hx hb dX9_lines_38 (by decide) ?_
        exact e_i hB hW hS hr hlk (s_1 hf) (s_2 hf) dX9_lines_40
    · have hf := i_t hf c7
      refine lv_aload_n hx hb dX9_lines_26 rfl (lv_at hl 0 rfl) ?_
      refine fg9_25 hB hW tl139 wd5_104 dX9_lines_27 ?_
      exact e_i hB hW hS hr hlk (s_1 hf) (s_2 hf) dX9_lines_30
  · have hf := i_t hf c3
    refine lv_aload_n hx hb dX9_lines_9 rfl (lv_at hl 0 rfl) ?_
    refine lv_bipush (v := (-2 : Int32)) hx hb dX9_lines_10 (by decide) ?_
    obtain ⟨x21, M22, hg23, hf⟩ := b_o2 hf
    refine x_ci hB (x_rv hB hW hS (As := [.int (-2 : Int32)]) (rest := []) (ct_X9_no l G hg23) (cl_RX9_224 hB.2.2.2.2.1 ⟨Nat.le_of_ble_eq_true rfl, Nat.le_of_ble_eq_true rfl⟩) tl139 (by decide) rfl rfl hl.1 rfl (Nat.le_of_ble_eq_true rfl) dX9_lines_12 ⟨Nat.le_refl _, Nat.le_refl _⟩) hS (fun H locs hW hS => ?_)
    exact e_i hB hW hS hr hlk (s_1 hf) (s_2 hf) dX9_lines_15
theorem cl_RX9_351 {R : Room} {s : State} {args : Array Value} (ht : ∀ w ∈ lw_all, w.before args s = true) (hR : 6 + 1 ≤ R.frames ∧ 8 + (2 + 11) + 141 ≤ R.locals) : CallW R s args RX9 RX9 351 yX9_isLine cX9_isLine 2 (some .boolean) (wsq yX9_isLine cX9_isLine 2 (some .boolean)) (rmq 6 141) 0 0 1 := cwV 1 ht (goodV wd7_67 wd7_69 wsel_84 wd1_10 wd7_70) rfl rfl rfl (by decide +kernel) hR
def f_X9_lineOf (p1 : Int32) (p2 : Int32) (M : Mem) : Option (Int32 × Mem) := (bq2 (f_X9_isLine p1 M) (fun (x1 : Int32) (M2 : Mem) => (if x1 = 0 then (bq2 (f_X9_no (-1 : Int32) M2) (fun (x22 : Int32) (M23 : Mem) => some (x22, M23))) else (gq (inB p1 162) (nmq ((gi M2 155 ((p1 : Int32).toNatClampNeg))) (fun (x6 : Int32) => gq (inB (p1 + (1 : Int32)) 162) (nmq ((gi M2 155 (((p1 + (1 : Int32)) : Int32).toNatClampNeg))) (fun (x8 : Int32) => (if p2 = (0 : Int32) then some (x6, M2) else if p2 = (1 : Int32) then some ((x8 - x6), M2) else if p2 = (2 : Int32) then (bq1 (f_X9_natural x6 x8 M2) (fun (x12 : Int32) => some (x12, M2))) else if p2 = (3 : Int32) then (gq (inB (x8 - (1 : Int32)) 161) (gq (inB x6 161) (some ((((gi M2 152 (((x8 - (1 : Int32)) : Int32).toNatClampNeg)) - (gi M2 152 ((x6 : Int32).toNatClampNeg))) + (1 : Int32)), M2)))) else if p2 = (4 : Int32) then (gq (inB (x8 - (1 : Int32)) 161) (some ((gi M2 151 (((x8 - (1 : Int32)) : Int32).toNatClampNeg)), M2))) else (bq2 (f_X9_no (-2 : Int32) M2) (fun (x19 : Int32) (M20 : Mem) => some (x19, M20))))))))))))
set_option maxHeartbeats 4000000 in
set_option maxRecDepth 100000 in
theorem ct_X9_lineOf (l : Launch) (G : GG) {p1 : Int32} {p2 : Int32} {M : Mem} {r : Int32} {Mr : Mem}  (hf : f_X9_lineOf p1 p2 M = some (r, Mr)) : Met l yX9_lineOf (wsq yX9_lineOf cX9_lineOf 5 (some .int)) (rmq 7 162) (va_Pc [.ref (G.2.2.1 139), .int p1, .int p2] (World G M)) (Qi G r Mr) 0 0 (adA G) := by
  refine x_start (plainFor_of_name (by decide)) (Nat.le_of_ble_eq_true rfl) ?_
  intro p e s m args below meth c hB hr hlk hW hS ls hl
  have hx := hB.x
  have hb := hB.b
  have hl : lv_has ls 5 [(0, .ref (G.2.2.1 139)), (1, .int p1), (2, .int p2)] := hl
  unfold f_X9_lineOf at hf
  refine lv_aload_n hx hb dX9_lineOf_0 rfl (lv_at hl 0 rfl) ?_
  refine lv_iload_n hx hb dX9_lineOf_1 rfl (lv_at hl 1 rfl) ?_
  obtain ⟨x1, M2, hg3, hf⟩ := b_o2 hf
  refine x_ci hB (x_rv hB hW hS (As := [.int p1]) (rest := []) (ct_X9_isLine l G hg3) (cl_RX9_351 hB.2.2.2.2.1 ⟨Nat.le_of_ble_eq_true rfl, Nat.le_of_ble_eq_true rfl⟩) tl139 (by decide) rfl rfl hl.1 rfl (Nat.le_of_ble_eq_true rfl) dX9_lineOf_2 ⟨Nat.le_refl _, Nat.le_refl _⟩) hS (fun H locs hW hS => ?_)
  refine lv_if_ne (tgt := 14) hx hb dX9_lineOf_5 (by decide) (fun c4 => ?_) (fun c4 => ?_)
  · have hf := i_f hf c4
    refine lv_aload_n hx hb dX9_lineOf_14 rfl (lv_at hl 0 rfl) ?_
    refine fg9_28 hB hW tl139 wd5_107 dX9_lineOf_15 ?_
    refine lv_iload_n hx hb dX9_lineOf_18 rfl (lv_at hl 1 rfl) ?_
    obtain ⟨h5, hf⟩ := g_o hf
    refine x_iald hB hW tl155 al155 h5 dX9_lineOf_19 ?_
    refine lv_topi (fun x6 ex6 => ?_)
    have hf := nm_o hf ex6
    refine lv_istore_n (lv' := [(3, .int x6), (0, .ref (G.2.2.1 139)), (1, .int p1), (2, .int p2)]) hx hb dX9_lineOf_20 rfl hl (by decide) rfl (fun ls hl => ?_)
    refine lv_aload_n hx hb dX9_lineOf_21 rfl (lv_at hl 1 rfl) ?_
    refine fg9_28 hB hW tl139 wd5_107 dX9_lineOf_22 ?_
    refine lv_iload_n hx hb dX9_lineOf_25 rfl (lv_at hl 2 rfl) ?_
    refine lv_iconst (v := (1 : Int32)) hx hb dX9_lineOf_26 (by decide) ?_
    refine lv_iadd hx hb dX9_lineOf_27 ?_
    obtain ⟨h7, hf⟩ := g_o hf
    refine x_iald hB hW tl155 al155 h7 dX9_lineOf_28 ?_
    refine lv_topi (fun x8 ex8 => ?_)
    have hf := nm_o hf ex8
    refine lv_istore (lv' := [(4, .int x8), (3, .int x6), (0, .ref (G.2.2.1 139)), (1, .int p1), (2, .int p2)]) hx hb dX9_lineOf_29 hl (by decide) rfl (fun ls hl => ?_)
    refine lv_iload_n hx hb dX9_lineOf_31 rfl (lv_at hl 4 rfl) ?_
    by_cases c9 : p2 = (0 : Int32)
    · have hf := i_t hf c9
      refine lv_tableIn (tgt := 68) hx hb dX9_lineOf_32 (by rw [c9]; decide) (by rw [c9]; decide) (by rw [c9] <;> rfl) (by decide) ?_
      refine lv_iload_n hx hb dX9_lineOf_68 rfl (lv_at hl 1 rfl) ?_
      exact e_i hB hW hS hr hlk (s_1 hf) (s_2 hf) dX9_lineOf_69
    · have hf := i_f hf c9
      by_cases c10 : p2 = (1 : Int32)
      · have hf := i_t hf c10
        refine lv_tableIn (tgt := 70) hx hb dX9_lineOf_32 (by rw [c10]; decide) (by rw [c10]; decide) (by rw [c10] <;> rfl) (by decide) ?_
        refine lv_iload hx hb dX9_lineOf_70 (lv_at hl 0 rfl) ?_
        refine lv_iload_n hx hb dX9_lineOf_72 rfl (lv_at hl 1 rfl) ?_
        refine lv_isub hx hb dX9_lineOf_73 ?_
        exact e_i hB hW hS hr hlk (s_1 hf) (s_2 hf) dX9_lineOf_74
      · have hf := i_f hf c10
        by_cases c11 : p2 = (2 : Int32)
        · have hf := i_t hf c11
          refine lv_tableIn (tgt := 75) hx hb dX9_lineOf_32 (by rw [c11]; decide) (by rw [c11]; decide) (by rw [c11] <;> rfl) (by decide) ?_
          refine lv_aload_n hx hb dX9_lineOf_75 rfl (lv_at hl 2 rfl) ?_
          refine lv_iload_n hx hb dX9_lineOf_76 rfl (lv_at hl 1 rfl) ?_
          refine lv_iload hx hb dX9_lineOf_77 (lv_at hl 0 rfl) ?_
          obtain ⟨x12, hg13, hf⟩ := b_o1 hf
          refine x_ci hB (x_rv hB hW hS (As := [.int x6, .int x8]) (rest := []) (ct_X9_natural l G hg13) (cl_RX9_160 hB.2.2.2.2.1 ⟨Nat.le_of_ble_eq_true rfl, Nat.le_of_ble_eq_true rfl⟩) tl139 (by decide) rfl rfl hl.1 rfl (Nat.le_of_ble_eq_true rfl) dX9_lineOf_79 ⟨Nat.le_refl _, Nat.le_refl _⟩) hS (fun H locs hW hS => ?_)
          exact e_i hB hW hS hr hlk (s_1 hf) (s_2 hf) dX9_lineOf_82
        · have hf := i_f hf c11
          by_cases c14 : p2 = (3 : Int32)
          · have hf := i_t hf c14
            refine lv_tableIn (tgt := 83) hx hb dX9_lineOf_32 (by rw [c14]; decide) (by rw [c14]; decide) (by rw [c14] <;> rfl) (by decide) ?_
            refine lv_aload_n hx hb dX9_lineOf_83 rfl (lv_at hl 2 rfl) ?_
            refine fg9_24 hB hW tl139 wd5_103 dX9_lineOf_84 ?_
            refine lv_iload hx hb dX9_lineOf_87 (lv_at hl 0 rfl) ?_
            refine lv_iconst (v := (1 : Int32)) hx hb dX9_lineOf_89 (by decide) ?_
            refine lv_isub hx hb dX9_lineOf_90 ?_
            obtain ⟨h15, hf⟩ := g_o hf
            refine x_iald hB hW tl152 al152 h15 dX9_lineOf_91 ?_
            refine lv_aload_n hx hb dX9_lineOf_92 rfl (lv_at hl 2 rfl) ?_
            refine fg9_24 hB hW tl139 wd5_103 dX9_lineOf_93 ?_
            refine lv_iload_n hx hb dX9_lineOf_96 rfl (lv_at hl 1 rfl) ?_
            obtain ⟨h16, hf⟩ := g_o hf
            refine x_iald hB hW tl152 al152 h16 dX9_lineOf_97 ?_
            refine lv_isub hx hb dX9_lineOf_98 ?_
            refine lv_iconst (v := (1 : Int32)) hx hb dX9_lineOf_99 (by decide) ?_
            refine lv_iadd hx hb dX9_lineOf_100 ?_
            exact e_i hB hW hS hr hlk (s_1 hf) (s_2 hf) dX9_lineOf_101
          · have hf := i_f hf c14
            by_cases c17 : p2 = (4 : Int32)
            · have hf := i_t hf c17
              refine lv_tableIn (tgt := 102) hx hb dX9_lineOf_32 (by rw [c17]; decide) (by rw [c17]; decide) (by rw [c17] <;> rfl) (by decide) ?_
              refine lv_aload_n hx hb dX9_lineOf_102 rfl (lv_at hl 2 rfl) ?_
              refine fg9_23 hB hW tl139 wd5_102 dX9_lineOf_103 ?_
              refine lv_iload hx hb dX9_lineOf_106 (lv_at hl 0 rfl) ?_
              refine lv_iconst (v := (1 : Int32)) hx hb dX9_lineOf_108 (by decide) ?_
              refine lv_isub hx hb dX9_lineOf_109 ?_
              obtain ⟨h18, hf⟩ := g_o hf
              refine x_iald hB hW tl151 al151 h18 dX9_lineOf_110 ?_
              exact e_i hB hW hS hr hlk (s_1 hf) (s_2 hf) dX9_lineOf_111
            · have hf := i_f hf c17
              refine lv_tableOut (tgt := 112) hx hb dX9_lineOf_32 (sw_out (lo := 0) (hi := 4) (fun v h1 h2 hv => ?_)) (by decide) ?_
              · rcases (show v = 0 ∨ v = 1 ∨ v = 2 ∨ v = 3 ∨ v = 4 by omega) with rfl | rfl | rfl | rfl | rfl
                · exact c9 hv
                · exact c10 hv
                · exact c11 hv
                · exact c14 hv
                · exact c17 hv
              · skip
                refine lv_aload_n hx hb dX9_lineOf_112 rfl (lv_at hl 2 rfl) ?_
                refine lv_bipush (v := (-2 : Int32)) hx hb dX9_lineOf_113 (by decide) ?_
                obtain ⟨x19, M20, hg21, hf⟩ := b_o2 hf
                refine x_ci hB (x_rv hB hW hS (As := [.int (-2 : Int32)]) (rest := []) (ct_X9_no l G hg21) (cl_RX9_224 hB.2.2.2.2.1 ⟨Nat.le_of_ble_eq_true rfl, Nat.le_of_ble_eq_true rfl⟩) tl139 (by decide) rfl rfl hl.1 rfl (Nat.le_of_ble_eq_true rfl) dX9_lineOf_115 ⟨Nat.le_refl _, Nat.le_refl _⟩) hS (fun H locs hW hS => ?_)
                exact e_i hB hW hS hr hlk (s_1 hf) (s_2 hf) dX9_lineOf_118
  · have hf := i_t hf c4
    refine lv_aload_n hx hb dX9_lineOf_8 rfl (lv_at hl 0 rfl) ?_
    refine lv_iconst (v := (-1 : Int32)) hx hb dX9_lineOf_9 (by decide) ?_
    obtain ⟨x22, M23, hg24, hf⟩ := b_o2 hf
    refine x_ci hB (x_rv hB hW hS (As := [.int (-1 : Int32)]) (rest := []) (ct_X9_no l G hg24) (cl_RX9_224 hB.2.2.2.2.1 ⟨Nat.le_of_ble_eq_true rfl, Nat.le_of_ble_eq_true rfl⟩) tl139 (by decide) rfl rfl hl.1 rfl (Nat.le_of_ble_eq_true rfl) dX9_lineOf_10 ⟨Nat.le_refl _, Nat.le_refl _⟩) hS (fun H locs hW hS => ?_)
    exact e_i hB hW hS hr hlk (s_1 hf) (s_2 hf) dX9_lineOf_13
def f_Jxf58ca_isNaN_12338 (p1 : UInt32) : Option Int32 := (if (fcl p1 p1) = 0 then some (0 : Int32) else some (1 : Int32))
set_option maxHeartbeats 4000000 in
set_option maxRecDepth 100000 in
theorem ct_Jxf58ca_isNaN_12338 (l : Launch) (G : GG) {p1 : UInt32} {M : Mem} {r : Int32}  (hf : f_Jxf58ca_isNaN_12338 p1 = some r) : Met l yJxf58ca_isNaN_12338 (wsq yJxf58ca_isNaN_12338 cJxf58ca_isNaN_12338 1 (some .boolean)) (rmq 0 0) (va_Pc [.float p1] (World G M)) (Qi G r M) 0 0 (adA G) := by
  refine x_start (by decide +kernel) (Nat.le_of_ble_eq_true rfl) ?_
  intro p e s m args below meth c hB hr hlk hW hS ls hl
  have hx := hB.x
  have hb := hB.b
  have hl : lv_has ls 1 [(0, .float p1)] := hl
  unfold f_Jxf58ca_isNaN_12338 at hf
  refine lv_fload_n hx hb dJxf58ca_isNaN_12338_0 rfl (lv_at hl 0 rfl) ?_
  refine lv_fload_n hx hb dJxf58ca_isNaN_12338_1 rfl (lv_at hl 0 rfl) ?_
  refine lv_fcmp hx hb dJxf58ca_isNaN_12338_2 ?_
  refine lv_if_eq (tgt := 10) hx hb dJxf58ca_isNaN_12338_3 (by decide) (fun c1 => ?_) (fun c1 => ?_)
  · have hf := i_t hf c1
    refine lv_iconst (v := (0 : Int32)) hx hb dJxf58ca_isNaN_12338_10 (by decide) ?_
    exact e_z (by decide) hB hW hS hr hlk (Option.some.inj hf) rfl dJxf58ca_isNaN_12338_11
  · have hf := i_f hf c1
    refine lv_iconst (v := (1 : Int32)) hx hb dJxf58ca_isNaN_12338_6 (by decide) ?_
    refine lv_goto (tgt := 11) hx hb dJxf58ca_isNaN_12338_7 (by decide) ?_
    exact e_z (by decide) hB hW hS hr hlk (Option.some.inj hf) rfl dJxf58ca_isNaN_12338_11
theorem cl_RJxf58ca_59 {R : Room} {s : State} {args : Array Value} (ht : ∀ w ∈ lw_all, w.before args s = true) (hR : 0 + 1 ≤ R.frames ∧ 8 + (1 + 11) + 0 ≤ R.locals) : CallB R s args RJxf58ca 59 yJxf58ca_isNaN_12338 cJxf58ca_isNaN_12338 1 (some .boolean) (wsq yJxf58ca_isNaN_12338 cJxf58ca_isNaN_12338 1 (some .boolean)) (rmq 0 0) 0 0 1 ∧ (Cond.static yJxf58ca_isNaN_12338).before args s = true := va_cwS 1 ht (goodS wd7_78 wd7_79 wd1_16 wd7_80) rfl rfl rfl (by decide +kernel) hR
def f_Jxf58ca_floatToIntBits_5c35a (p1 : UInt32) : Option Int32 := (bq1 (f_Jxf58ca_isNaN_12338 p1) (fun (x1 : Int32) => (if x1 = 0 then some (p1 : UInt32).toInt32 else some (2143289344 : Int32))))
set_option maxHeartbeats 4000000 in
set_option maxRecDepth 100000 in
theorem ct_Jxf58ca_floatToIntBits_5c35a (l : Launch) (G : GG) {p1 : UInt32} {M : Mem} {r : Int32}  (hf : f_Jxf58ca_floatToIntBits_5c35a p1 = some r) : Met l yJxf58ca_floatToIntBits_5c35a (wsq yJxf58ca_floatToIntBits_5c35a cJxf58ca_floatToIntBits_5c35a 1 (some .int)) (rmq 1 20) (va_Pc [.float p1] (World G M)) (Qi G r M) 0 0 (adA G) := by
  refine x_start (by decide +kernel) (Nat.le_of_ble_eq_true rfl) ?_
  intro p e s m args below meth c hB hr hlk hW hS ls hl
  have hx := hB.x
  have hb := hB.b
  have hl : lv_has ls 1 [(0, .float p1)] := hl
  unfold f_Jxf58ca_floatToIntBits_5c35a at hf
  refine lv_fload_n hx hb dJxf58ca_floatToIntBits_5c35a_0 rfl (lv_at hl 0 rfl) ?_
  obtain ⟨x1, hg2, hf⟩ := b_o1 hf
  refine x_ci hB (x_rs hB hW hS (As := [.float p1]) (rest := []) (ct_Jxf58ca_isNaN_12338 l G hg2) (cl_RJxf58ca_59 hB.2.2.2.2.1 ⟨Nat.le_of_ble_eq_true rfl, Nat.le_of_ble_eq_true rfl⟩) rfl hl.1 rfl (Nat.le_of_ble_eq_true rfl) dJxf58ca_floatToIntBits_5c35a_1 ⟨Nat.le_refl _, Nat.le_refl _⟩) hS (fun H locs hW hS => ?_)
  refine lv_if_ne (tgt := 12) hx hb dJxf58ca_floatToIntBits_5c35a_4 (by decide) (fun c3 => ?_) (fun c3 => ?_)
  · have hf := i_f hf c3
    refine lv_ldc (v := (2143289344 : Int32)) hx hb hB.ow (hB.w wd7_84) dJxf58ca_floatToIntBits_5c35a_12 ?_
    exact e_i hB hW hS hr hlk (Option.some.inj hf) rfl dJxf58ca_floatToIntBits_5c35a_14
  · have hf := i_t hf c3
    refine lv_fload_n hx hb dJxf58ca_floatToIntBits_5c35a_7 rfl (lv_at hl 0 rfl) ?_
    refine x_rawbits hB hl.1 wd7_81 (Nat.le_of_ble_eq_true rfl) (Nat.le_of_ble_eq_true rfl) dJxf58ca_floatToIntBits_5c35a_8 ?_
    exact e_i hB hW hS hr hlk (Option.some.inj hf) rfl dJxf58ca_floatToIntBits_5c35a_11
theorem cl_RX9_354 {R : Room} {s : State} {args : Array Value} (ht : ∀ w ∈ lw_all, w.before args s = true) (hR : 1 + 1 ≤ R.frames ∧ 8 + (1 + 11) + 20 ≤ R.locals) : CallB R s args RX9 354 yJxf58ca_floatToIntBits_5c35a cJxf58ca_floatToIntBits_5c35a 1 (some .int) (wsq yJxf58ca_floatToIntBits_5c35a cJxf58ca_floatToIntBits_5c35a 1 (some .int)) (rmq 1 20) 0 0 1 ∧ (Cond.static yJxf58ca_floatToIntBits_5c35a).before args s = true := va_cwS 1 ht (goodS wd7_75 wd7_76 wd1_16 wd7_77) rfl rfl rfl (by decide +kernel) hR
def f_X9_ratio (p1 : Int32) (M : Mem) : Option (Int32 × Mem) := (bq2 (f_X9_isLine p1 M) (fun (x1 : Int32) (M2 : Mem) => (if x1 = 0 then some ((0 : Int32), M2) else (bq1 (f_X9_ratioOfLine p1 M2) (fun (x5 : UInt32) => bq1 (f_Jxf58ca_floatToIntBits_5c35a x5) (fun (x7 : Int32) => some (x7, M2)))))))
set_option maxHeartbeats 4000000 in
set_option maxRecDepth 100000 in
theorem ct_X9_ratio (l : Launch) (G : GG) {p1 : Int32} {M : Mem} {r : Int32} {Mr : Mem}  (hf : f_X9_ratio p1 M = some (r, Mr)) : Met l yX9_ratio (wsq yX9_ratio cX9_ratio 2 (some .int)) (rmq 7 162) (va_Pc [.ref (G.2.2.1 139), .int p1] (World G M)) (Qi G r Mr) 0 0 (adA G) := by
  refine x_start (plainFor_of_name (by decide)) (Nat.le_of_ble_eq_true rfl) ?_
  intro p e s m args below meth c hB hr hlk hW hS ls hl
  have hx := hB.x
  have hb := hB.b
  have hl : lv_has ls 2 [(0, .ref (G.2.2.1 139)), (1, .int p1)] := hl
  unfold f_X9_ratio at hf
  refine lv_aload_n hx hb dX9_ratio_0 rfl (lv_at hl 0 rfl) ?_
  refine lv_iload_n hx hb dX9_ratio_1 rfl (lv_at hl 1 rfl) ?_
  obtain ⟨x1, M2, hg3, hf⟩ := b_o2 hf
  refine x_ci hB (x_rv hB hW hS (As := [.int p1]) (rest := []) (ct_X9_isLine l G hg3) (cl_RX9_351 hB.2.2.2.2.1 ⟨Nat.le_of_ble_eq_true rfl, Nat.le_of_ble_eq_true rfl⟩) tl139 (by decide) rfl rfl hl.1 rfl (Nat.le_of_ble_eq_true rfl) dX9_ratio_2 ⟨Nat.le_refl _, Nat.le_refl _⟩) hS (fun H locs hW hS => ?_)
  refine lv_if_eq (tgt := 19) hx hb dX9_ratio_5 (by decide) (fun c4 => ?_) (fun c4 => ?_)
  · have hf := i_t hf c4
    refine lv_iconst (v := (0 : Int32)) hx hb dX9_ratio_19 (by decide) ?_
    exact e_i hB hW hS hr hlk (s_1 hf) (s_2 hf) dX9_ratio_20
  · have hf := i_f hf c4
    refine lv_aload_n hx hb dX9_ratio_8 rfl (lv_at hl 0 rfl) ?_
    refine lv_iload_n hx hb dX9_ratio_9 rfl (lv_at hl 1 rfl) ?_
    obtain ⟨x5, hg6, hf⟩ := b_o1 hf
    refine x_cf hB (x_rv hB hW hS (As := [.int p1]) (rest := []) (ct_X9_ratioOfLine l G hg6) (cl_RX9_335 hB.2.2.2.2.1 ⟨Nat.le_of_ble_eq_true rfl, Nat.le_of_ble_eq_true rfl⟩) tl139 (by decide) rfl rfl hl.1 rfl (Nat.le_of_ble_eq_true rfl) dX9_ratio_10 ⟨Nat.le_refl _, Nat.le_refl _⟩) hS (fun H locs hW hS => ?_)
    obtain ⟨x7, hg8, hf⟩ := b_o1 hf
    refine x_ci hB (x_rs hB hW hS (As := [.float x5]) (rest := []) (ct_Jxf58ca_floatToIntBits_5c35a l G hg8) (cl_RX9_354 hB.2.2.2.2.1 ⟨Nat.le_of_ble_eq_true rfl, Nat.le_of_ble_eq_true rfl⟩) rfl hl.1 rfl (Nat.le_of_ble_eq_true rfl) dX9_ratio_13 ⟨Nat.le_refl _, Nat.le_refl _⟩) hS (fun H locs hW hS => ?_)
    refine lv_goto (tgt := 20) hx hb dX9_ratio_16 (by decide) ?_
    exact e_i hB hW hS hr hlk (s_1 hf) (s_2 hf) dX9_ratio_20
