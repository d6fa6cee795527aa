theorem rz_eq {R : RR} {n b : Nat} : rz R n n b = none := by unfold rz; rw [if_pos rfl]
theorem gi_pin {M : Mem} {k i j : Nat} (h : i ≠ k) : gi (pin M k) i j = gi M i j := by
  unfold pin
  simp only [gi_si, h, false_and, if_false]
theorem Zr_pin {M : Mem} {a b k a' : Nat} (h : Zr M a b) (h1 : a ≤ a') (h2 : k < a') : Zr (pin M k) a' b := by
  intro i q1 q2
  have := h i (by omega) q2
  exact ⟨fun j => by rw [gi_pin (by omega)]; exact this.1 j, this.2.1, this.2.2⟩
section MADE2
variable {p : Program} {l : Launch} {e : Env} {Rm : Room} {s : State} {m : MethodId} {args : Array Value} {below : List Frame} {meth : Method} {c : Code} {H : Heap} {locs : List Loc} {cells slots : Nat} {Q : State → Prop}
variable {cc : ByteArray} {nL : Nat} {own : String} {pc : Nat} {ls : Array Slot} {rest : List Value} {G : GG} {M : Mem} {R : RR} {n : Nat}
theorem p_alen8 (hB : BX p s m args c cc nL own G) (hW : WP G R n M H) {k : Nat} (hkn : k < n) (hk : isT 13 k) (hn : alen k = 8) (hdg : decode cc pc = .ok (.arraylength, 1))
    (kk : W p l e Rm s m args below meth c H locs cells slots Q (F0 m (pc + 1) ls (.int 8 :: rest))) : W p l e Rm s m args below meth c H locs cells slots Q (F0 m pc ls (.ref (G.2.2.1 k) :: rest)) :=
  va_alen (D := G.1) (cl := vwCl) (tys := tysl G) hB.x hB.b hB.k hW k 3 (by rw [wslP_at hkn, entP_P hk.2]) rfl (by show Int32.ofNat (alen k) = 8; rw [hn]; rfl) hdg kk
theorem p_iast (hB : BX p s m args c cc nL own G) (hn : n ≤ NN) (hW : WP G R n M H) (hS : va_S (adA G) s.heap H locs) {k N : Nat} (hkn : k < n) (hk : isT 10 k) (hl : alen k = N) {i x : Int32} (hin : inB i N) (hdg : decode cc pc = .ok (.iastore, 1))
    (kk : ∀ (H1 : Heap) (locs1 : List Loc), WP G R n (si M k i.toNatClampNeg x) H1 → va_S (adA G) s.heap H1 locs1 → W p l e Rm s m args below meth c H1 locs1 cells slots Q (F0 m (pc + 1) ls rest)) : W p l e Rm s m args below meth c H locs cells slots Q (F0 m pc ls (.int x :: .int i :: .ref (G.2.2.1 k) :: rest)) := by
  refine va_iast (D := G.1) (cl := vwCl) (tys := tysl G) hB.x hB.b hB.k hW (wslP_D R M hB.inj hn) hS k 0 (by rw [wslP_at hkn, entP_I hk.2, hl]) rfl hin hdg (fun H1 locs1 hP1 _ hS1 => kk H1 locs1 ?_ hS1)
  rw [wslP_set (R' := R) (M' := si M k i.toNatClampNeg x) hkn (by rw [entP_I hk.2, row_si, hl]) (fun a _ h => entP_congr (ne_row h) rfl rfl rfl)] at hP1
  exact hP1
end MADE2
def pins (M : Mem) : Mem := (pin (pin (pin (pin (pin (pin (pin (pin M 36) 47) 58) 69) 80) 91) 102) 113)
theorem Zr_pins {M : Mem} {a b a' : Nat} (h : Zr M a b) (h1 : a ≤ a') (h2 : 113 < a') : Zr (pins M) a' b := by
  intro i q1 q2
  have := h i (by omega) q2
  refine ⟨fun j => ?_, fun j => ?_, fun j => ?_⟩
  · rw [← this.1 j]; unfold pins; simp only [gi_pin (show i ≠ 36 by omega), gi_pin (show i ≠ 47 by omega), gi_pin (show i ≠ 58 by omega), gi_pin (show i ≠ 69 by omega), gi_pin (show i ≠ 80 by omega), gi_pin (show i ≠ 91 by omega), gi_pin (show i ≠ 102 by omega), gi_pin (show i ≠ 113 by omega)]
  · exact this.2.1 j
  · exact this.2.2 j
theorem cl_RX1_17 {R : Room} {s : State} {args : Array Value} (ht : ∀ w ∈ lw_all, w.before args s = true) (hR : 2 + 1 ≤ R.frames ∧ 8 + (1 + 11) + 36 ≤ R.locals) : CallB R s args RX1 17 yX3_init cX3_init 1 none (wsq yX3_init cX3_init 1 none) { frames := 2, cells := 10, slots := 97, locals := 36 } 10 97 0 ∧ yX3_init.name = "<init>" ∧ (Cond.instanceMethod yX3_init).before args s = true := cwI 0 ht (goodC wd1_29) rfl rfl rfl (ht _ wd1_2) (ht _ wd1_167) (ht _ wd1_28) rfl (by decide +kernel) hR
set_option maxHeartbeats 4000000 in
set_option maxRecDepth 100000 in
theorem cc_X1 (l : Launch) (G : GG) (hL : adL G) {R : RR} {M : Mem} (hZ : Zr M 34 124) : Met l yX1_init (wsq yX1_init cX1_init 2 none) { frames := 3, cells := 89, slots := 888, locals := 56 } (va_Pc [.ref (G.2.2.1 34)] (WorldP G R 35 M)) (va_Qv (fun (_ : Unit) => True) (fun _ => WorldP G (Rf R 34 124) 124 (pins M)) (adA G)) 89 888 (adA G) := by
  refine p_start (plainFor_of_name (by decide)) rfl (Nat.le_of_ble_eq_true rfl) ?_
  intro p e s m args below meth c hB hX hin hr hlk hW hs0 hS ls hl
  have hx := hB.x
  have hb := hB.b
  have hl : lv_has ls 2 [(0, .ref (G.2.2.1 34))] := hl
  refine lv_aload_n hx hb dX1_init_0 rfl (lv_at hl 0 rfl) ?_
  refine W.objInit hx hb hB.ow (hB.w wd1_164) (hB.w wd1_23) (hB.w wd1_24) rfl (by rw [hB.ml]; exact hl.1) rfl dX1_init_1 (Nat.le_of_ble_eq_true rfl) (Nat.le_of_ble_eq_true rfl) ?_
  refine W.eq (g2 := F0 m 4 ls []) rfl ?_
  refine lv_aload_n hx hb dX1_init_4 rfl (lv_at hl 0 rfl) ?_
  refine lv_bipush (v := (8 : Int32)) hx hb dX1_init_5 (by decide) ?_
  refine p_size (X := G.2.2.1 0 + 35) (by omega) (p_low hL hW) (fun hsz => ?_)
  refine p_anew (N := 8) hB hX.2 hL hW hsz hS wd1_165 (by decide) (by decide) (by decide) (Nat.le_of_ble_eq_true rfl) (Nat.le_of_ble_eq_true rfl) tl35 al35 dX1_init_7 (fun H hW hS => ?_)
  refine p_putF hB (by decide) hW hS inA1 tyX1 tyX1_ok nmX1 rfl (by decide) rfl 0 (by decide) (by omega) tl34 wd1_168 rfl rfl rfl hin (ty := .array (.object "LinesOfFragments$Paragraph")) (by decide +kernel) rfl rfl (by decide) dX1_init_10 (fun H locs hW hS => ?_)
  refine lv_iconst (v := (0 : Int32)) hx hb dX1_init_13 (by decide) ?_
  refine lv_istore_n (lv' := [(1, .int (0 : Int32)), (0, .ref (G.2.2.1 34))]) hx hb dX1_init_14 rfl hl (by decide) rfl (fun ls hl => ?_)
  refine lv_iload_n hx hb dX1_init_15 rfl (lv_at hl 0 rfl) ?_
  refine lv_aload_n hx hb dX1_init_16 rfl (lv_at hl 1 rfl) ?_
  refine p_get hB hW inA1 rfl (by decide) rfl 0 (by decide) (by omega) tl34 wd1_168 rfl (v := .ref (G.2.2.1 35)) (by unfold fvP; rw [if_neg (by decide), if_neg (by decide), ru_eq]; rfl) dX1_init_17 ?_
  refine p_alen8 hB hW (k := 35) (by omega) tl35 al35 dX1_init_20 ?_
  refine lv_icmp_ge (tgt := 43) hx hb dX1_init_21 (by decide) (fun q => absurd q (by decide)) (fun _ => ?_)
  refine lv_aload_n hx hb dX1_init_24 rfl (lv_at hl 1 rfl) ?_
  refine p_get hB hW inA1 rfl (by decide) rfl 0 (by decide) (by omega) tl34 wd1_168 rfl (v := .ref (G.2.2.1 35)) (by unfold fvP; rw [if_neg (by decide), if_neg (by decide), ru_eq]; rfl) dX1_init_25 ?_
  refine lv_iload_n hx hb dX1_init_28 rfl (lv_at hl 0 rfl) ?_
  refine p_size (X := G.2.2.1 0 + 36) (by omega) (p_low hL hW) (fun hsz => ?_)
  refine p_new hB hL hW hsz hS inA3 tyX3 tyX3_ok wd1_165 wd1_26 wd1_2 rfl (by decide) tl36 (nf_3 (fun j => by rw [(hZ _ (by omega) (by omega)).1 j]; exact iniR_o (by rw [tl36.2]; decide)) ((hZ _ (by omega) (by omega)).2.2)) (Nat.le_of_ble_eq_true rfl) (Nat.le_of_ble_eq_true rfl) dX1_init_29 (fun H hW hS => ?_)
  refine lv_dup hx hb dX1_init_32 rfl ?_
  refine p_size (X := G.2.2.1 0 + 37) (by omega) (p_low hL hW) (fun hsz => ?_)
  refine p_call hB hX hW hsz hS (cc_X3 l G hL tl36 (hZ.sub (by omega) (by omega))) (cl_RX1_17 hB.2.2.2.2.1 ⟨Nat.le_of_ble_eq_true rfl, Nat.le_of_ble_eq_true rfl⟩) hl.1 (Nat.le_of_ble_eq_true rfl) dX1_init_33 ⟨Nat.le_of_ble_eq_true rfl, Nat.le_of_ble_eq_true rfl⟩ (fun H locs hW hS => ?_)
  have hZ := Zr_pin (k := 36) (a' := 47) hZ (by omega) (by omega)
  refine p_aast hB (by decide) hW hS (k := 35) (t := 36) (by omega) (by omega) tl35 tl36 al35 (by decide) dX1_init_36 (fun H locs hW hS => ?_)
  rw [show (0 : Int32).toNatClampNeg = 0 from rfl] at hW
  refine lv_iinc (v := (1 : Int32)) (lv' := [(1, .int (1 : Int32)), (0, .ref (G.2.2.1 34))]) hx hb dX1_init_37 hl (k := 0) rfl rfl (by decide) rfl (fun ls hl => ?_)
  refine lv_goto (tgt := 15) hx hb dX1_init_40 (by decide) ?_
  refine lv_iload_n hx hb dX1_init_15 rfl (lv_at hl 0 rfl) ?_
  refine lv_aload_n hx hb dX1_init_16 rfl (lv_at hl 1 rfl) ?_
  refine p_get hB hW inA1 rfl (by decide) rfl 0 (by decide) (by omega) tl34 wd1_168 rfl (v := .ref (G.2.2.1 35)) (by unfold fvP; rw [if_neg (by decide), if_neg (by decide), ru_ne (by omega), Rf_out (by omega), rz_ne (by omega), ru_eq]; rfl) dX1_init_17 ?_
  refine p_alen8 hB hW (k := 35) (by omega) tl35 al35 dX1_init_20 ?_
  refine lv_icmp_ge (tgt := 43) hx hb dX1_init_21 (by decide) (fun q => absurd q (by decide)) (fun _ => ?_)
  refine lv_aload_n hx hb dX1_init_24 rfl (lv_at hl 1 rfl) ?_
  refine p_get hB hW inA1 rfl (by decide) rfl 0 (by decide) (by omega) tl34 wd1_168 rfl (v := .ref (G.2.2.1 35)) (by unfold fvP; rw [if_neg (by decide), if_neg (by decide), ru_ne (by omega), Rf_out (by omega), rz_ne (by omega), ru_eq]; rfl) dX1_init_25 ?_
  refine lv_iload_n hx hb dX1_init_28 rfl (lv_at hl 0 rfl) ?_
  refine p_size (X := G.2.2.1 0 + 47) (by omega) (p_low hL hW) (fun hsz => ?_)
  refine p_new hB hL hW hsz hS inA3 tyX3 tyX3_ok wd1_165 wd1_26 wd1_2 rfl (by decide) tl47 (nf_3 (fun j => by rw [(hZ _ (by omega) (by omega)).1 j]; exact iniR_o (by rw [tl47.2]; decide)) ((hZ _ (by omega) (by omega)).2.2)) (Nat.le_of_ble_eq_true rfl) (Nat.le_of_ble_eq_true rfl) dX1_init_29 (fun H hW hS => ?_)
  refine lv_dup hx hb dX1_init_32 rfl ?_
  refine p_size (X := G.2.2.1 0 + 48) (by omega) (p_low hL hW) (fun hsz => ?_)
  refine p_call hB hX hW hsz hS (cc_X3 l G hL tl47 (hZ.sub (by omega) (by omega))) (cl_RX1_17 hB.2.2.2.2.1 ⟨Nat.le_of_ble_eq_true rfl, Nat.le_of_ble_eq_true rfl⟩) hl.1 (Nat.le_of_ble_eq_true rfl) dX1_init_33 ⟨Nat.le_of_ble_eq_true rfl, Nat.le_of_ble_eq_true rfl⟩ (fun H locs hW hS => ?_)
  have hZ := Zr_pin (k := 47) (a' := 58) hZ (by omega) (by omega)
  refine p_aast hB (by decide) hW hS (k := 35) (t := 47) (by omega) (by omega) tl35 tl47 al35 (by decide) dX1_init_36 (fun H locs hW hS => ?_)
  rw [show (1 : Int32).toNatClampNeg = 1 from rfl] at hW
  refine lv_iinc (v := (2 : Int32)) (lv' := [(1, .int (2 : Int32)), (0, .ref (G.2.2.1 34))]) hx hb dX1_init_37 hl (k := 0) rfl rfl (by decide) rfl (fun ls hl => ?_)
  refine lv_goto (tgt := 15) hx hb dX1_init_40 (by decide) ?_
  refine lv_iload_n hx hb dX1_init_15 rfl (lv_at hl 0 rfl) ?_
  refine lv_aload_n hx hb dX1_init_16 rfl (lv_at hl 1 rfl) ?_
  refine p_get hB hW inA1 rfl (by decide) rfl 0 (by decide) (by omega) tl34 wd1_168 rfl (v := .ref (G.2.2.1 35)) (by unfold fvP; rw [if_neg (by decide), if_neg (by decide), ru_ne (by omega), Rf_out (by omega), rz_ne (by omega), ru_ne (by omega), Rf_out (by omega), rz_ne (by omega), ru_eq]; rfl) dX1_init_17 ?_
  refine p_alen8 hB hW (k := 35) (by omega) tl35 al35 dX1_init_20 ?_
  refine lv_icmp_ge (tgt := 43) hx hb dX1_init_21 (by decide) (fun q => absurd q (by decide)) (fun _ => ?_)
  refine lv_aload_n hx hb dX1_init_24 rfl (lv_at hl 1 rfl) ?_
  refine p_get hB hW inA1 rfl (by decide) rfl 0 (by decide) (by omega) tl34 wd1_168 rfl (v := .ref (G.2.2.1 35)) (by unfold fvP; rw [if_neg (by decide), if_neg (by decide), ru_ne (by omega), Rf_out (by omega), rz_ne (by omega), ru_ne (by omega), Rf_out (by omega), rz_ne (by omega), ru_eq]; rfl) dX1_init_25 ?_
  refine lv_iload_n hx hb dX1_init_28 rfl (lv_at hl 0 rfl) ?_
  refine p_size (X := G.2.2.1 0 + 58) (by omega) (p_low hL hW) (fun hsz => ?_)
  refine p_new hB hL hW hsz hS inA3 tyX3 tyX3_ok wd1_165 wd1_26 wd1_2 rfl (by decide) tl58 (nf_3 (fun j => by rw [(hZ _ (by omega) (by omega)).1 j]; exact iniR_o (by rw [tl58.2]; decide)) ((hZ _ (by omega) (by omega)).2.2)) (Nat.le_of_ble_eq_true rfl) (Nat.le_of_ble_eq_true rfl) dX1_init_29 (fun H hW hS => ?_)
  refine lv_dup hx hb dX1_init_32 rfl ?_
  refine p_size (X := G.2.2.1 0 + 59) (by omega) (p_low hL hW) (fun hsz => ?_)
  refine p_call hB hX hW hsz hS (cc_X3 l G hL tl58 (hZ.sub (by omega) (by omega))) (cl_RX1_17 hB.2.2.2.2.1 ⟨Nat.le_of_ble_eq_true rfl, Nat.le_of_ble_eq_true rfl⟩) hl.1 (Nat.le_of_ble_eq_true rfl) dX1_init_33 ⟨Nat.le_of_ble_eq_true rfl, Nat.le_of_ble_eq_true rfl⟩ (fun H locs hW hS => ?_)
  have hZ := Zr_pin (k := 58) (a' := 69) hZ (by omega) (by omega)
  refine p_aast hB (by decide) hW hS (k := 35) (t := 58) (by omega) (by omega) tl35 tl58 al35 (by decide) dX1_init_36 (fun H locs hW hS => ?_)
  rw [show (2 : Int32).toNatClampNeg = 2 from rfl] at hW
  refine lv_iinc (v := (3 : Int32)) (lv' := [(1, .int (3 : Int32)), (0, .ref (G.2.2.1 34))]) hx hb dX1_init_37 hl (k := 0) rfl rfl (by decide) rfl (fun ls hl => ?_)
  refine lv_goto (tgt := 15) hx hb dX1_init_40 (by decide) ?_
  refine lv_iload_n hx hb dX1_init_15 rfl (lv_at hl 0 rfl) ?_
  refine lv_aload_n hx hb dX1_init_16 rfl (lv_at hl 1 rfl) ?_
  refine p_get hB hW inA1 rfl (by decide) rfl 0 (by decide) (by omega) tl34 wd1_168 rfl (v := .ref (G.2.2.1 35)) (by unfold fvP; rw [if_neg (by decide), if_neg (by decide), ru_ne (by omega), Rf_out (by omega), rz_ne (by omega), ru_ne (by omega), Rf_out (by omega), rz_ne (by omega), ru_ne (by omega), Rf_out (by omega), rz_ne (by omega), ru_eq]; rfl) dX1_init_17 ?_
  refine p_alen8 hB hW (k := 35) (by omega) tl35 al35 dX1_init_20 ?_
  refine lv_icmp_ge (tgt := 43) hx hb dX1_init_21 (by decide) (fun q => absurd q (by decide)) (fun _ => ?_)
  refine lv_aload_n hx hb dX1_init_24 rfl (lv_at hl 1 rfl) ?_
  refine p_get hB hW inA1 rfl (by decide) rfl 0 (by decide) (by omega) tl34 wd1_168 rfl (v := .ref (G.2.2.1 35)) (by unfold fvP; rw [if_neg (by decide), if_neg (by decide), ru_ne (by omega), Rf_out (by omega), rz_ne (by omega), ru_ne (by omega), Rf_out (by omega), rz_ne (by omega), ru_ne (by omega), Rf_out (by omega), rz_ne (by omega), ru_eq]; rfl) dX1_init_25 ?_
  refine lv_iload_n hx hb dX1_init_28 rfl (lv_at hl 0 rfl) ?_
  refine p_size (X := G.2.2.1 0 + 69) (by omega) (p_low hL hW) (fun hsz => ?_)
  refine p_new hB hL hW hsz hS inA3 tyX3 tyX3_ok wd1_165 wd1_26 wd1_2 rfl (by decide) tl69 (nf_3 (fun j => by rw [(hZ _ (by omega) (by omega)).1 j]; exact iniR_o (by rw [tl69.2]; decide)) ((hZ _ (by omega) (by omega)).2.2)) (Nat.le_of_ble_eq_true rfl) (Nat.le_of_ble_eq_true rfl) dX1_init_29 (fun H hW hS => ?_)
  refine lv_dup hx hb dX1_init_32 rfl ?_
  refine p_size (X := G.2.2.1 0 + 70) (by omega) (p_low hL hW) (fun hsz => ?_)
  refine p_call hB hX hW hsz hS (cc_X3 l G hL tl69 (hZ.sub (by omega) (by omega))) (cl_RX1_17 hB.2.2.2.2.1 ⟨Nat.le_of_ble_eq_true rfl, Nat.le_of_ble_eq_true rfl⟩) hl.1 (Nat.le_of_ble_eq_true rfl) dX1_init_33 ⟨Nat.le_of_ble_eq_true rfl, Nat.le_of_ble_eq_true rfl⟩ (fun H locs hW hS => ?_)
  have hZ := Zr_pin (k := 69) (a' := 80) hZ (by omega) (by omega)
  refine p_aast hB (by decide) hW hS (k := 35) (t := 69) (by omega) (by omega) tl35 tl69 al35 (by decide) dX1_init_36 (fun H locs hW hS => ?_)
  rw [show (3 : Int32).toNatClampNeg = 3 from rfl] at hW
  refine lv_iinc (v := (4 : Int32)) (lv' := [(1, .int (4 : Int32)), (0, .ref (G.2.2.1 34))]) hx hb dX1_init_37 hl (k := 0) rfl rfl (by decide) rfl (fun ls hl => ?_)
  refine lv_goto (tgt := 15) hx hb dX1_init_40 (by decide) ?_
  refine lv_iload_n hx hb dX1_init_15 rfl (lv_at hl 0 rfl) ?_
  refine lv_aload_n hx hb dX1_init_16 rfl (lv_at hl 1 rfl) ?_
  refine p_get hB hW inA1 rfl (by decide) rfl 0 (by decide) (by omega) tl34 wd1_168 rfl (v := .ref (G.2.2.1 35)) (by unfold fvP; rw [if_neg (by decide), if_neg (by decide), ru_ne (by omega), Rf_out (by omega), rz_ne (by omega), ru_ne (by omega), Rf_out (by omega), rz_ne (by omega), ru_ne (by omega), Rf_out (by omega), rz_ne (by omega), ru_ne (by omega), Rf_out (by omega), rz_ne (by omega), ru_eq]; rfl) dX1_init_17 ?_
  refine p_alen8 hB hW (k := 35) (by omega) tl35 al35 dX1_init_20 ?_
  refine lv_icmp_ge (tgt := 43) hx hb dX1_init_21 (by decide) (fun q => absurd q (by decide)) (fun _ => ?_)
  refine lv_aload_n hx hb dX1_init_24 rfl (lv_at hl 1 rfl) ?_
  refine p_get hB hW inA1 rfl (by decide) rfl 0 (by decide) (by omega) tl34 wd1_168 rfl (v := .ref (G.2.2.1 35)) (by unfold fvP; rw [if_neg (by decide), if_neg (by decide), ru_ne (by omega), Rf_out (by omega), rz_ne (by omega), ru_ne (by omega), Rf_out (by omega), rz_ne (by omega), ru_ne (by omega), Rf_out (by omega), rz_ne (by omega), ru_ne (by omega), Rf_out (by omega), rz_ne (by omega), ru_eq]; rfl) dX1_init_25 ?_
  refine lv_iload_n hx hb dX1_init_28 rfl (lv_at hl 0 rfl) ?_
  refine p_size (X := G.2.2.1 0 + 80) (by omega) (p_low hL hW) (fun hsz => ?_)
  refine p_new hB hL hW hsz hS inA3 tyX3 tyX3_ok wd1_165 wd1_26 wd1_2 rfl (by decide) tl80 (nf_3 (fun j => by rw [(hZ _ (by omega) (by omega)).1 j]; exact iniR_o (by rw [tl80.2]; decide)) ((hZ _ (by omega) (by omega)).2.2)) (Nat.le_of_ble_eq_true rfl) (Nat.le_of_ble_eq_true rfl) dX1_init_29 (fun H hW hS => ?_)
  refine lv_dup hx hb dX1_init_32 rfl ?_
  refine p_size (X := G.2.2.1 0 + 81) (by omega) (p_low hL hW) (fun hsz => ?_)
  refine p_call hB hX hW hsz hS (cc_X3 l G hL tl80 (hZ.sub (by omega) (by omega))) (cl_RX1_17 hB.2.2.2.2.1 ⟨Nat.le_of_ble_eq_true rfl, Nat.le_of_ble_eq_true rfl⟩) hl.1 (Nat.le_of_ble_eq_true rfl) dX1_init_33 ⟨Nat.le_of_ble_eq_true rfl, Nat.le_of_ble_eq_true rfl⟩ (fun H locs hW hS => ?_)
  have hZ := Zr_pin (k := 80) (a' := 91) hZ (by omega) (by omega)
  refine p_aast hB (by decide) hW hS (k := 35) (t := 80) (by omega) (by omega) tl35 tl80 al35 (by decide) dX1_init_36 (fun H locs hW hS => ?_)
  rw [show (4 : Int32).toNatClampNeg = 4 from rfl] at hW
  refine lv_iinc (v := (5 : Int32)) (lv' := [(1, .int (5 : Int32)), (0, .ref (G.2.2.1 34))]) hx hb dX1_init_37 hl (k := 0) rfl rfl (by decide) rfl (fun ls hl => ?_)
  refine lv_goto (tgt := 15) hx hb dX1_init_40 (by decide) ?_
  refine lv_iload_n hx hb dX1_init_15 rfl (lv_at hl 0 rfl) ?_
  refine lv_aload_n hx hb dX1_init_16 rfl (lv_at hl 1 rfl) ?_
  refine p_get hB hW inA1 rfl (by decide) rfl 0 (by decide) (by omega) tl34 wd1_168 rfl (v := .ref (G.2.2.1 35)) (by unfold fvP; rw [if_neg (by decide), if_neg (by decide), ru_ne (by omega), Rf_out (by omega), rz_ne (by omega), ru_ne (by omega), Rf_out (by omega), rz_ne (by omega), ru_ne (by omega), Rf_out (by omega), rz_ne (by omega), ru_ne (by omega), Rf_out (by omega), rz_ne (by omega), ru_ne (by omega), Rf_out (by omega), rz_ne (by omega), ru_eq]; rfl) dX1_init_17 ?_
  refine p_alen8 hB hW (k := 35) (by omega) tl35 al35 dX1_init_20 ?_
  refine lv_icmp_ge (tgt := 43) hx hb dX1_init_21 (by decide) (fun q => absurd q (by decide)) (fun _ => ?_)
  refine lv_aload_n hx hb dX1_init_24 rfl (lv_at hl 1 rfl) ?_
  refine p_get hB hW inA1 rfl (by decide) rfl 0 (by decide) (by omega) tl34 wd1_168 rfl (v := .ref (G.2.2.1 35)) (by unfold fvP; rw [if_neg (by decide), if_neg (by decide), ru_ne (by omega), Rf_out (by omega), rz_ne (by omega), ru_ne (by omega), Rf_out (by omega), rz_ne (by omega), ru_ne (by omega), Rf_out (by omega), rz_ne (by omega), ru_ne (by omega), Rf_out (by omega), rz_ne (by omega), ru_ne (by omega), Rf_out (by omega), rz_ne (by omega), ru_eq]; rfl) dX1_init_25 ?_
  refine lv_iload_n hx hb dX1_init_28 rfl (lv_at hl 0 rfl) ?_
  refine p_size (X := G.2.2.1 0 + 91) (by omega) (p_low hL hW) (fun hsz => ?_)
  refine p_new hB hL hW hsz hS inA3 tyX3 tyX3_ok wd1_165 wd1_26 wd1_2 rfl (by decide) tl91 (nf_3 (fun j => by rw [(hZ _ (by omega) (by omega)).1 j]; exact iniR_o (by rw [tl91.2]; decide)) ((hZ _ (by omega) (by omega)).2.2)) (Nat.le_of_ble_eq_true rfl) (Nat.le_of_ble_eq_true rfl) dX1_init_29 (fun H hW hS => ?_)
  refine lv_dup hx hb dX1_init_32 rfl ?_
  refine p_size (X := G.2.2.1 0 + 92) (by omega) (p_low hL hW) (fun hsz => ?_)
  refine p_call hB hX hW hsz hS (cc_X3 l G hL tl91 (hZ.sub (by omega) (by omega))) (cl_RX1_17 hB.2.2.2.2.1 ⟨Nat.le_of_ble_eq_true rfl, Nat.le_of_ble_eq_true rfl⟩) hl.1 (Nat.le_of_ble_eq_true rfl) dX1_init_33 ⟨Nat.le_of_ble_eq_true rfl, Nat.le_of_ble_eq_true rfl⟩ (fun H locs hW hS => ?_)
  have hZ := Zr_pin (k := 91) (a' := 102) hZ (by omega) (by omega)
  refine p_aast hB (by decide) hW hS (k := 35) (t := 91) (by omega) (by omega) tl35 tl91 al35 (by decide) dX1_init_36 (fun H locs hW hS => ?_)
  rw [show (5 : Int32).toNatClampNeg = 5 from rfl] at hW
  refine lv_iinc (v := (6 : Int32)) (lv' := [(1, .int (6 : Int32)), (0, .ref (G.2.2.1 34))]) hx hb dX1_init_37 hl (k := 0) rfl rfl (by decide) rfl (fun ls hl => ?_)
  refine lv_goto (tgt := 15) hx hb dX1_init_40 (by decide) ?_
  refine lv_iload_n hx hb dX1_init_15 rfl (lv_at hl 0 rfl) ?_
  refine lv_aload_n hx hb dX1_init_16 rfl (lv_at hl 1 rfl) ?_
  refine p_get hB hW inA1 rfl (by decide) rfl 0 (by decide) (by omega) tl34 wd1_168 rfl (v := .ref (G.2.2.1 35)) (by unfold fvP; rw [if_neg (by decide), if_neg (by decide), ru_ne (by omega), Rf_out (by omega), rz_ne (by omega), ru_ne (by omega), Rf_out (by omega), rz_ne (by omega), ru_ne (by omega), Rf_out (by omega), rz_ne (by omega), ru_ne (by omega), Rf_out (by omega), rz_ne (by omega), ru_ne (by omega), Rf_out (by omega), rz_ne (by omega), ru_ne (by omega), Rf_out (by omega), rz_ne (by omega), ru_eq]; rfl) dX1_init_17 ?_
  refine p_alen8 hB hW (k := 35) (by omega) tl35 al35 dX1_init_20 ?_
  refine lv_icmp_ge (tgt := 43) hx hb dX1_init_21 (by decide) (fun q => absurd q (by decide)) (fun _ => ?_)
  refine lv_aload_n hx hb dX1_init_24 rfl (lv_at hl 1 rfl) ?_
  refine p_get hB hW inA1 rfl (by decide) rfl 0 (by decide) (by omega) tl34 wd1_168 rfl (v := .ref (G.2.2.1 35)) (by unfold fvP; rw [if_neg (by decide), if_neg (by decide), ru_ne (by omega), Rf_out (by omega), rz_ne (by omega), ru_ne (by omega), Rf_out (by omega), rz_ne (by omega), ru_ne (by omega), Rf_out (by omega), rz_ne (by omega), ru_ne (by omega), Rf_out (by omega), rz_ne (by omega), ru_ne (by omega), Rf_out (by omega), rz_ne (by omega), ru_ne (by omega), Rf_out (by omega), rz_ne (by omega), ru_eq]; rfl) dX1_init_25 ?_
  refine lv_iload_n hx hb dX1_init_28 rfl (lv_at hl 0 rfl) ?_
  refine p_size (X := G.2.2.1 0 + 102) (by omega) (p_low hL hW) (fun hsz => ?_)
  refine p_new hB hL hW hsz hS inA3 tyX3 tyX3_ok wd1_165 wd1_26 wd1_2 rfl (by decide) tl102 (nf_3 (fun j => by rw [(hZ _ (by omega) (by omega)).1 j]; exact iniR_o (by rw [tl102.2]; decide)) ((hZ _ (by omega) (by omega)).2.2)) (Nat.le_of_ble_eq_true rfl) (Nat.le_of_ble_eq_true rfl) dX1_init_29 (fun H hW hS => ?_)
  refine lv_dup hx hb dX1_init_32 rfl ?_
  refine p_size (X := G.2.2.1 0 + 103) (by omega) (p_low hL hW) (fun hsz => ?_)
  refine p_call hB hX hW hsz hS (cc_X3 l G hL tl102 (hZ.sub (by omega) (by omega))) (cl_RX1_17 hB.2.2.2.2.1 ⟨Nat.le_of_ble_eq_true rfl, Nat.le_of_ble_eq_true rfl⟩) hl.1 (Nat.le_of_ble_eq_true rfl) dX1_init_33 ⟨Nat.le_of_ble_eq_true rfl, Nat.le_of_ble_eq_true rfl⟩ (fun H locs hW hS => ?_)
  have hZ := Zr_pin (k := 102) (a' := 113) hZ (by omega) (by omega)
  refine p_aast hB (by decide) hW hS (k := 35) (t := 102) (by omega) (by omega) tl35 tl102 al35 (by decide) dX1_init_36 (fun H locs hW hS => ?_)
  rw [show (6 : Int32).toNatClampNeg = 6 from rfl] at hW
  refine lv_iinc (v := (7 : Int32)) (lv' := [(1, .int (7 : Int32)), (0, .ref (G.2.2.1 34))]) hx hb dX1_init_37 hl (k := 0) rfl rfl (by decide) rfl (fun ls hl => ?_)
  refine lv_goto (tgt := 15) hx hb dX1_init_40 (by decide) ?_
  refine lv_iload_n hx hb dX1_init_15 rfl (lv_at hl 0 rfl) ?_
  refine lv_aload_n hx hb dX1_init_16 rfl (lv_at hl 1 rfl) ?_
  refine p_get hB hW inA1 rfl (by decide) rfl 0 (by decide) (by omega) tl34 wd1_168 rfl (v := .ref (G.2.2.1 35)) (by unfold fvP; rw [if_neg (by decide), if_neg (by decide), ru_ne (by omega), Rf_out (by omega), rz_ne (by omega), ru_ne (by omega), Rf_out (by omega), rz_ne (by omega), ru_ne (by omega), Rf_out (by omega), rz_ne (by omega), ru_ne (by omega), Rf_out (by omega), rz_ne (by omega), ru_ne (by omega), Rf_out (by omega), rz_ne (by omega), ru_ne (by omega), Rf_out (by omega), rz_ne (by omega), ru_ne (by omega), Rf_out (by omega), rz_ne (by omega), ru_eq]; rfl) dX1_init_17 ?_
  refine p_alen8 hB hW (k := 35) (by omega) tl35 al35 dX1_init_20 ?_
  refine lv_icmp_ge (tgt := 43) hx hb dX1_init_21 (by decide) (fun q => absurd q (by decide)) (fun _ => ?_)
  refine lv_aload_n hx hb dX1_init_24 rfl (lv_at hl 1 rfl) ?_
  refine p_get hB hW inA1 rfl (by decide) rfl 0 (by decide) (by omega) tl34 wd1_168 rfl (v := .ref (G.2.2.1 35)) (by unfold fvP; rw [if_neg (by decide), if_neg (by decide), ru_ne (by omega), Rf_out (by omega), rz_ne (by omega), ru_ne (by omega), Rf_out (by omega), rz_ne (by omega), ru_ne (by omega), Rf_out (by omega), rz_ne (by omega), ru_ne (by omega), Rf_out (by omega), rz_ne (by omega), ru_ne (by omega), Rf_out (by omega), rz_ne (by omega), ru_ne (by omega), Rf_out (by omega), rz_ne (by omega), ru_ne (by omega), Rf_out (by omega), rz_ne (by omega), ru_eq]; rfl) dX1_init_25 ?_
  refine lv_iload_n hx hb dX1_init_28 rfl (lv_at hl 0 rfl) ?_
  refine p_size (X := G.2.2.1 0 + 113) (by omega) (p_low hL hW) (fun hsz => ?_)
  refine p_new hB hL hW hsz hS inA3 tyX3 tyX3_ok wd1_165 wd1_26 wd1_2 rfl (by decide) tl113 (nf_3 (fun j => by rw [(hZ _ (by omega) (by omega)).1 j]; exact iniR_o (by rw [tl113.2]; decide)) ((hZ _ (by omega) (by omega)).2.2)) (Nat.le_of_ble_eq_true rfl) (Nat.le_of_ble_eq_true rfl) dX1_init_29 (fun H hW hS => ?_)
  refine lv_dup hx hb dX1_init_32 rfl ?_
  refine p_size (X := G.2.2.1 0 + 114) (by omega) (p_low hL hW) (fun hsz => ?_)
  refine p_call hB hX hW hsz hS (cc_X3 l G hL tl113 (hZ.sub (by omega) (by omega))) (cl_RX1_17 hB.2.2.2.2.1 ⟨Nat.le_of_ble_eq_true rfl, Nat.le_of_ble_eq_true rfl⟩) hl.1 (Nat.le_of_ble_eq_true rfl) dX1_init_33 ⟨Nat.le_of_ble_eq_true rfl, Nat.le_of_ble_eq_true rfl⟩ (fun H locs hW hS => ?_)
  have hZ := Zr_pin (k := 113) (a' := 124) hZ (by omega) (by omega)
  refine p_aast hB (by decide) hW hS (k := 35) (t := 113) (by omega) (by omega) tl35 tl113 al35 (by decide) dX1_init_36 (fun H locs hW hS => ?_)
  rw [show (7 : Int32).toNatClampNeg = 7 from rfl] at hW
  refine lv_iinc (v := (8 : Int32)) (lv' := [(1, .int (8 : Int32)), (0, .ref (G.2.2.1 34))]) hx hb dX1_init_37 hl (k := 0) rfl rfl (by decide) rfl (fun ls hl => ?_)
  refine lv_goto (tgt := 15) hx hb dX1_init_40 (by decide) ?_
  refine lv_iload_n hx hb dX1_init_15 rfl (lv_at hl 0 rfl) ?_
  refine lv_aload_n hx hb dX1_init_16 rfl (lv_at hl 1 rfl) ?_
  refine p_get hB hW inA1 rfl (by decide) rfl 0 (by decide) (by omega) tl34 wd1_168 rfl (v := .ref (G.2.2.1 35)) (by unfold fvP; rw [if_neg (by decide), if_neg (by decide), ru_ne (by omega), Rf_out (by omega), rz_ne (by omega), ru_ne (by omega), Rf_out (by omega), rz_ne (by omega), ru_ne (by omega), Rf_out (by omega), rz_ne (by omega), ru_ne (by omega), Rf_out (by omega), rz_ne (by omega), ru_ne (by omega), Rf_out (by omega), rz_ne (by omega), ru_ne (by omega), Rf_out (by omega), rz_ne (by omega), ru_ne (by omega), Rf_out (by omega), rz_ne (by omega), ru_ne (by omega), Rf_out (by omega), rz_ne (by omega), ru_eq]; rfl) dX1_init_17 ?_
  refine p_alen8 hB hW (k := 35) (by omega) tl35 al35 dX1_init_20 ?_
  refine lv_icmp_ge (tgt := 43) hx hb dX1_init_21 (by decide) (fun _ => ?_) (fun q => absurd (by decide) q)
  refine p_size (X := G.2.2.1 0 + 124) (by omega) (p_low hL hW) (fun hsz => ?_)
  have hW := p_end (k := 34) (R := R) hW (fun a ha => by rw [ru_ne (by omega), Rf_out (by omega), rz_ne (by omega), ru_ne (by omega), Rf_out (by omega), rz_ne (by omega), ru_ne (by omega), Rf_out (by omega), rz_ne (by omega), ru_ne (by omega), Rf_out (by omega), rz_ne (by omega), ru_ne (by omega), Rf_out (by omega), rz_ne (by omega), ru_ne (by omega), Rf_out (by omega), rz_ne (by omega), ru_ne (by omega), Rf_out (by omega), rz_ne (by omega), ru_ne (by omega), Rf_out (by omega), rz_ne (by omega), ru_ne (by omega), rz_ne (by omega)]) (fun a h1 h2 b hb => ?_)
  · exact p_ret hB hX hW hsz hS hr hlk rfl rfl dX1_init_43
  rcases (show a = 34 ∨ a = 35 ∨ (36 ≤ a ∧ a < 47) ∨ (47 ≤ a ∧ a < 58) ∨ (58 ≤ a ∧ a < 69) ∨ (69 ≤ a ∧ a < 80) ∨ (80 ≤ a ∧ a < 91) ∨ (91 ≤ a ∧ a < 102) ∨ (102 ≤ a ∧ a < 113) ∨ (113 ≤ a ∧ a < 124) by omega) with rfl | rfl | hq | hq | hq | hq | hq | hq | hq | hq
  · have hc := rsl_o tl34.2 (by decide) hb
    rcases rs_1 b hc with rfl
    · rw [ru_ne (by omega), Rf_out (by omega), rz_ne (by omega), ru_ne (by omega), Rf_out (by omega), rz_ne (by omega), ru_ne (by omega), Rf_out (by omega), rz_ne (by omega), ru_ne (by omega), Rf_out (by omega), rz_ne (by omega), ru_ne (by omega), Rf_out (by omega), rz_ne (by omega), ru_ne (by omega), Rf_out (by omega), rz_ne (by omega), ru_ne (by omega), Rf_out (by omega), rz_ne (by omega), ru_ne (by omega), Rf_out (by omega), rz_ne (by omega), ru_eq]; unfold fin; rw [tl34.2]; rfl
  · rcases (show b = 0 ∨ b = 1 ∨ b = 2 ∨ b = 3 ∨ b = 4 ∨ b = 5 ∨ b = 6 ∨ b = 7 ∨ 8 ≤ b by omega) with rfl | rfl | rfl | rfl | rfl | rfl | rfl | rfl | h8
    · rw [ru_ne2 (by decide), Rf_out (by omega), rz_ne (by omega), ru_ne2 (by decide), Rf_out (by omega), rz_ne (by omega), ru_ne2 (by decide), Rf_out (by omega), rz_ne (by omega), ru_ne2 (by decide), Rf_out (by omega), rz_ne (by omega), ru_ne2 (by decide), Rf_out (by omega), rz_ne (by omega), ru_ne2 (by decide), Rf_out (by omega), rz_ne (by omega), ru_ne2 (by decide), Rf_out (by omega), rz_ne (by omega), ru_eq]; rfl
    · rw [ru_ne2 (by decide), Rf_out (by omega), rz_ne (by omega), ru_ne2 (by decide), Rf_out (by omega), rz_ne (by omega), ru_ne2 (by decide), Rf_out (by omega), rz_ne (by omega), ru_ne2 (by decide), Rf_out (by omega), rz_ne (by omega), ru_ne2 (by decide), Rf_out (by omega), rz_ne (by omega), ru_ne2 (by decide), Rf_out (by omega), rz_ne (by omega), ru_eq]; rfl
    · rw [ru_ne2 (by decide), Rf_out (by omega), rz_ne (by omega), ru_ne2 (by decide), Rf_out (by omega), rz_ne (by omega), ru_ne2 (by decide), Rf_out (by omega), rz_ne (by omega), ru_ne2 (by decide), Rf_out (by omega), rz_ne (by omega), ru_ne2 (by decide), Rf_out (by omega), rz_ne (by omega), ru_eq]; rfl
    · rw [ru_ne2 (by decide), Rf_out (by omega), rz_ne (by omega), ru_ne2 (by decide), Rf_out (by omega), rz_ne (by omega), ru_ne2 (by decide), Rf_out (by omega), rz_ne (by omega), ru_ne2 (by decide), Rf_out (by omega), rz_ne (by omega), ru_eq]; rfl
    · rw [ru_ne2 (by decide), Rf_out (by omega), rz_ne (by omega), ru_ne2 (by decide), Rf_out (by omega), rz_ne (by omega), ru_ne2 (by decide), Rf_out (by omega), rz_ne (by omega), ru_eq]; rfl
    · rw [ru_ne2 (by decide), Rf_out (by omega), rz_ne (by omega), ru_ne2 (by decide), Rf_out (by omega), rz_ne (by omega), ru_eq]; rfl
    · rw [ru_ne2 (by decide), Rf_out (by omega), rz_ne (by omega), ru_eq]; rfl
    · rw [ru_eq]; rfl
    · rw [ru_ne2 (by omega), Rf_out (by omega), rz_ne (by omega), ru_ne2 (by omega), Rf_out (by omega), rz_ne (by omega), ru_ne2 (by omega), Rf_out (by omega), rz_ne (by omega), ru_ne2 (by omega), Rf_out (by omega), rz_ne (by omega), ru_ne2 (by omega), Rf_out (by omega), rz_ne (by omega), ru_ne2 (by omega), Rf_out (by omega), rz_ne (by omega), ru_ne2 (by omega), Rf_out (by omega), rz_ne (by omega), ru_ne2 (by omega), Rf_out (by omega), rz_ne (by omega), ru_ne (by omega), rz_eq]; unfold fin; rw [if_pos (by decide), if_neg (by omega)]
  · rw [ru_ne (by omega), Rf_out (by omega), rz_ne (by omega), ru_ne (by omega), Rf_out (by omega), rz_ne (by omega), ru_ne (by omega), Rf_out (by omega), rz_ne (by omega), ru_ne (by omega), Rf_out (by omega), rz_ne (by omega), ru_ne (by omega), Rf_out (by omega), rz_ne (by omega), ru_ne (by omega), Rf_out (by omega), rz_ne (by omega), ru_ne (by omega), Rf_out (by omega), rz_ne (by omega), ru_ne (by omega), Rf_in ⟨by omega, by omega⟩]
  · rw [ru_ne (by omega), Rf_out (by omega), rz_ne (by omega), ru_ne (by omega), Rf_out (by omega), rz_ne (by omega), ru_ne (by omega), Rf_out (by omega), rz_ne (by omega), ru_ne (by omega), Rf_out (by omega), rz_ne (by omega), ru_ne (by omega), Rf_out (by omega), rz_ne (by omega), ru_ne (by omega), Rf_out (by omega), rz_ne (by omega), ru_ne (by omega), Rf_in ⟨by omega, by omega⟩]
  · rw [ru_ne (by omega), Rf_out (by omega), rz_ne (by omega), ru_ne (by omega), Rf_out (by omega), rz_ne (by omega), ru_ne (by omega), Rf_out (by omega), rz_ne (by omega), ru_ne (by omega), Rf_out (by omega), rz_ne (by omega), ru_ne (by omega), Rf_out (by omega), rz_ne (by omega), ru_ne (by omega), Rf_in ⟨by omega, by omega⟩]
  · rw [ru_ne (by omega), Rf_out (by omega), rz_ne (by omega), ru_ne (by omega), Rf_out (by omega), rz_ne (by omega), ru_ne (by omega), Rf_out (by omega), rz_ne (by omega), ru_ne (by omega), Rf_out (by omega), rz_ne (by omega), ru_ne (by omega), Rf_in ⟨by omega, by omega⟩]
  · rw [ru_ne (by omega), Rf_out (by omega), rz_ne (by omega), ru_ne (by omega), Rf_out (by omega), rz_ne (by omega), ru_ne (by omega), Rf_out (by omega), rz_ne (by omega), ru_ne (by omega), Rf_in ⟨by omega, by omega⟩]
  · rw [ru_ne (by omega), Rf_out (by omega), rz_ne (by omega), ru_ne (by omega), Rf_out (by omega), rz_ne (by omega), ru_ne (by omega), Rf_in ⟨by omega, by omega⟩]
  · rw [ru_ne (by omega), Rf_out (by omega), rz_ne (by omega), ru_ne (by omega), Rf_in ⟨by omega, by omega⟩]
  · rw [ru_ne (by omega), Rf_in ⟨by omega, by omega⟩]
theorem cl_RX8_9 {R : Room} {s : State} {args : Array Value} (ht : ∀ w ∈ lw_all, w.before args s = true) (hR : 2 + 1 ≤ R.frames ∧ 8 + (1 + 11) + 36 ≤ R.locals) : CallB R s args RX8 9 yX3_init cX3_init 1 none (wsq yX3_init cX3_init 1 none) { frames := 2, cells := 10, slots := 97, locals := 36 } 10 97 0 ∧ yX3_init.name = "<init>" ∧ (Cond.instanceMethod yX3_init).before args s = true := cwI 0 ht (goodC wd1_29) rfl rfl rfl (ht _ wd1_2) (ht _ wd1_27) (ht _ wd1_28) rfl (by decide +kernel) hR
theorem cl_RX8_24 {R : Room} {s : State} {args : Array Value} (ht : ∀ w ∈ lw_all, w.before args s = true) (hR : 3 + 1 ≤ R.frames ∧ 8 + (2 + 11) + 56 ≤ R.locals) : CallB R s args RX8 24 yX1_init cX1_init 2 none (wsq yX1_init cX1_init 2 none) { frames := 3, cells := 89, slots := 888, locals := 56 } 89 888 0 ∧ yX1_init.name = "<init>" ∧ (Cond.instanceMethod yX1_init).before args s = true := cwI 0 ht (goodC wd1_163) rfl rfl rfl (ht _ wd1_5) (ht _ wd1_161) (ht _ wd1_162) rfl (by decide +kernel) hR
theorem cl_RX8_31 {R : Room} {s : State} {args : Array Value} (ht : ∀ w ∈ lw_all, w.before args s = true) (hR : 1 + 1 ≤ R.frames ∧ 8 + (1 + 11) + 16 ≤ R.locals) : CallB R s args RX8 31 yX5_init cX5_init 1 none (wsq yX5_init cX5_init 1 none) { frames := 1, cells := 1, slots := 96, locals := 16 } 1 96 0 ∧ yX5_init.name = "<init>" ∧ (Cond.instanceMethod yX5_init).before args s = true := cwI 0 ht (goodC wd1_183) rfl rfl rfl (ht _ wd1_6) (ht _ wd1_181) (ht _ wd1_182) rfl (by decide +kernel) hR
theorem cl_RX8_38 {R : Room} {s : State} {args : Array Value} (ht : ∀ w ∈ lw_all, w.before args s = true) (hR : 3 + 1 ≤ R.frames ∧ 8 + (1 + 11) + 56 ≤ R.locals) : CallB R s args RX8 38 yX6_init cX6_init 1 none (wsq yX6_init cX6_init 1 none) { frames := 3, cells := 10, slots := 1562, locals := 56 } 10 1562 0 ∧ yX6_init.name = "<init>" ∧ (Cond.instanceMethod yX6_init).before args s = true := cwI 0 ht (goodC wd1_204) rfl rfl rfl (ht _ wd1_7) (ht _ wd1_202) (ht _ wd1_203) rfl (by decide +kernel) hR
set_option maxHeartbeats 4000000 in
set_option maxRecDepth 100000 in
theorem cc_X8 (l : Launch) (G : GG) (hL : adL G) {R : RR} {M : Mem} (hZ : Zr M 0 139) : Met l yX8_init (wsq yX8_init cX8_init 1 none) { frames := 4, cells := 138, slots := 2914, locals := 77 } (va_Pc [.ref (G.2.2.1 0)] (WorldP G R 1 M)) (va_Qv (fun (_ : Unit) => True) (fun _ => WorldP G (Rf R 0 139) 139 (pins (pin (pin (pin M 1) 12) 23))) (adA G)) 138 2914 (adA G) := by
  refine p_start (plainFor_of_name (by decide)) rfl (Nat.le_of_ble_eq_true rfl) ?_
  intro p e s m args below meth c hB hX hin hr hlk hW hs0 hS ls hl
  have hx := hB.x
  have hb := hB.b
  have hl : lv_has ls 1 [(0, .ref (G.2.2.1 0))] := hl
  refine lv_aload_n hx hb dX8_init_0 rfl (lv_at hl 0 rfl) ?_
  refine W.objInit hx hb hB.ow (hB.w wd1_22) (hB.w wd1_23) (hB.w wd1_24) rfl (by rw [hB.ml]; exact hl.1) rfl dX8_init_1 (Nat.le_of_ble_eq_true rfl) (Nat.le_of_ble_eq_true rfl) ?_
  refine W.eq (g2 := F0 m 4 ls []) rfl ?_
  refine lv_aload_n hx hb dX8_init_4 rfl (lv_at hl 0 rfl) ?_
  refine p_size (X := G.2.2.1 0 + 1) (by omega) (p_low hL hW) (fun hsz => ?_)
  refine p_new hB hL hW hsz hS inA3 tyX3 tyX3_ok wd1_25 wd1_26 wd1_2 rfl (by decide) tl1 (nf_3 (fun j => by rw [(hZ _ (by omega) (by omega)).1 j]; exact iniR_o (by rw [tl1.2]; decide)) ((hZ _ (by omega) (by omega)).2.2)) (Nat.le_of_ble_eq_true rfl) (Nat.le_of_ble_eq_true rfl) dX8_init_5 (fun H hW hS => ?_)
  refine lv_dup hx hb dX8_init_8 rfl ?_
  refine p_size (X := G.2.2.1 0 + 2) (by omega) (p_low hL hW) (fun hsz => ?_)
  refine p_call hB hX hW hsz hS (cc_X3 l G hL tl1 (hZ.sub (by omega) (by omega))) (cl_RX8_9 hB.2.2.2.2.1 ⟨Nat.le_of_ble_eq_true rfl, Nat.le_of_ble_eq_true rfl⟩) hl.1 (Nat.le_of_ble_eq_true rfl) dX8_init_9 ⟨Nat.le_of_ble_eq_true rfl, Nat.le_of_ble_eq_true rfl⟩ (fun H locs hW hS => ?_)
  have hZ := Zr_pin (k := 1) (a' := 12) hZ (by omega) (by omega)
  refine p_putF hB (by decide) hW hS inA8 tyX8 tyX8_ok nmX8 rfl (by decide) rfl 0 (by decide) (by omega) tl0 wd2_91 rfl rfl rfl hin (ty := .object "LinesOfFragments$Paragraph") (by decide +kernel) rfl rfl (by decide) dX8_init_12 (fun H locs hW hS => ?_)
  refine lv_aload_n hx hb dX8_init_15 rfl (lv_at hl 0 rfl) ?_
  refine p_size (X := G.2.2.1 0 + 12) (by omega) (p_low hL hW) (fun hsz => ?_)
  refine p_new hB hL hW hsz hS inA3 tyX3 tyX3_ok wd1_25 wd1_26 wd1_2 rfl (by decide) tl12 (nf_3 (fun j => by rw [(hZ _ (by omega) (by omega)).1 j]; exact iniR_o (by rw [tl12.2]; decide)) ((hZ _ (by omega) (by omega)).2.2)) (Nat.le_of_ble_eq_true rfl) (Nat.le_of_ble_eq_true rfl) dX8_init_16 (fun H hW hS => ?_)
  refine lv_dup hx hb dX8_init_19 rfl ?_
  refine p_size (X := G.2.2.1 0 + 13) (by omega) (p_low hL hW) (fun hsz => ?_)
  refine p_call hB hX hW hsz hS (cc_X3 l G hL tl12 (hZ.sub (by omega) (by omega))) (cl_RX8_9 hB.2.2.2.2.1 ⟨Nat.le_of_ble_eq_true rfl, Nat.le_of_ble_eq_true rfl⟩) hl.1 (Nat.le_of_ble_eq_true rfl) dX8_init_20 ⟨Nat.le_of_ble_eq_true rfl, Nat.le_of_ble_eq_true rfl⟩ (fun H locs hW hS => ?_)
  have hZ := Zr_pin (k := 12) (a' := 23) hZ (by omega) (by omega)
  refine p_putF hB (by decide) hW hS inA8 tyX8 tyX8_ok nmX8 rfl (by decide) rfl 1 (by decide) (by omega) tl0 wd2_92 rfl rfl rfl hin (ty := .object "LinesOfFragments$Paragraph") (by decide +kernel) rfl rfl (by decide) dX8_init_23 (fun H locs hW hS => ?_)
  refine lv_aload_n hx hb dX8_init_26 rfl (lv_at hl 0 rfl) ?_
  refine p_size (X := G.2.2.1 0 + 23) (by omega) (p_low hL hW) (fun hsz => ?_)
  refine p_new hB hL hW hsz hS inA3 tyX3 tyX3_ok wd1_25 wd1_26 wd1_2 rfl (by decide) tl23 (nf_3 (fun j => by rw [(hZ _ (by omega) (by omega)).1 j]; exact iniR_o (by rw [tl23.2]; decide)) ((hZ _ (by omega) (by omega)).2.2)) (Nat.le_of_ble_eq_true rfl) (Nat.le_of_ble_eq_true rfl) dX8_init_27 (fun H hW hS => ?_)
  refine lv_dup hx hb dX8_init_30 rfl ?_
  refine p_size (X := G.2.2.1 0 + 24) (by omega) (p_low hL hW) (fun hsz => ?_)
  refine p_call hB hX hW hsz hS (cc_X3 l G hL tl23 (hZ.sub (by omega) (by omega))) (cl_RX8_9 hB.2.2.2.2.1 ⟨Nat.le_of_ble_eq_true rfl, Nat.le_of_ble_eq_true rfl⟩) hl.1 (Nat.le_of_ble_eq_true rfl) dX8_init_31 ⟨Nat.le_of_ble_eq_true rfl, Nat.le_of_ble_eq_true rfl⟩ (fun H locs hW hS => ?_)
  have hZ := Zr_pin (k := 23) (a' := 34) hZ (by omega) (by omega)
  refine p_putF hB (by decide) hW hS inA8 tyX8 tyX8_ok nmX8 rfl (by decide) rfl 2 (by decide) (by omega) tl0 wd2_93 rfl rfl rfl hin (ty := .object "LinesOfFragments$Paragraph") (by decide +kernel) rfl rfl (by decide) dX8_init_34 (fun H locs hW hS => ?_)
  refine lv_aload_n hx hb dX8_init_37 rfl (lv_at hl 0 rfl) ?_
  refine p_size (X := G.2.2.1 0 + 34) (by omega) (p_low hL hW) (fun hsz => ?_)
  refine p_new hB hL hW hsz hS inA1 tyX1 tyX1_ok wd1_159 wd1_160 wd1_5 rfl (by decide) tl34 (nf_1 (fun j => by rw [(hZ _ (by omega) (by omega)).1 j]; exact iniR_o (by rw [tl34.2]; decide)) ((hZ _ (by omega) (by omega)).2.2)) (Nat.le_of_ble_eq_true rfl) (Nat.le_of_ble_eq_true rfl) dX8_init_38 (fun H hW hS => ?_)
  refine lv_dup hx hb dX8_init_41 rfl ?_
  refine p_size (X := G.2.2.1 0 + 35) (by omega) (p_low hL hW) (fun hsz => ?_)
  refine p_call hB hX hW hsz hS (cc_X1 l G hL (hZ.sub (by omega) (by omega))) (cl_RX8_24 hB.2.2.2.2.1 ⟨Nat.le_of_ble_eq_true rfl, Nat.le_of_ble_eq_true rfl⟩) hl.1 (Nat.le_of_ble_eq_true rfl) dX8_init_42 ⟨Nat.le_of_ble_eq_true rfl, Nat.le_of_ble_eq_true rfl⟩ (fun H locs hW hS => ?_)
  have hZ := Zr_pins (a' := 124) hZ (by omega) (by omega)
  refine p_putF hB (by decide) hW hS inA8 tyX8 tyX8_ok nmX8 rfl (by decide) rfl 3 (by decide) (by omega) tl0 wd2_94 rfl rfl rfl hin (ty := .object "LinesOfFragments$History") (by decide +kernel) rfl rfl (by decide) dX8_init_45 (fun H locs hW hS => ?_)
  refine lv_aload_n hx hb dX8_init_48 rfl (lv_at hl 0 rfl) ?_
  refine p_size (X := G.2.2.1 0 + 124) (by omega) (p_low hL hW) (fun hsz => ?_)
  refine p_new hB hL hW hsz hS inA5 tyX5 tyX5_ok wd1_179 wd1_180 wd1_6 rfl (by decide) tl124 (nf_5 (fun j => by rw [(hZ _ (by omega) (by omega)).1 j]; exact iniR_o (by rw [tl124.2]; decide)) ((hZ _ (by omega) (by omega)).2.2)) (Nat.le_of_ble_eq_true rfl) (Nat.le_of_ble_eq_true rfl) dX8_init_49 (fun H hW hS => ?_)
  refine lv_dup hx hb dX8_init_52 rfl ?_
  refine p_size (X := G.2.2.1 0 + 125) (by omega) (p_low hL hW) (fun hsz => ?_)
  refine p_call hB hX hW hsz hS (cc_X5 l G hL (hZ.sub (by omega) (by omega))) (cl_RX8_31 hB.2.2.2.2.1 ⟨Nat.le_of_ble_eq_true rfl, Nat.le_of_ble_eq_true rfl⟩) hl.1 (Nat.le_of_ble_eq_true rfl) dX8_init_53 ⟨Nat.le_of_ble_eq_true rfl, Nat.le_of_ble_eq_true rfl⟩ (fun H locs hW hS => ?_)
  refine p_putF hB (by decide) hW hS inA8 tyX8 tyX8_ok nmX8 rfl (by decide) rfl 4 (by decide) (by omega) tl0 wd2_95 rfl rfl rfl hin (ty := .object "LinesOfFragments$Sheet") (by decide +kernel) rfl rfl (by decide) dX8_init_56 (fun H locs hW hS => ?_)
  refine lv_aload_n hx hb dX8_init_59 rfl (lv_at hl 0 rfl) ?_
  refine p_size (X := G.2.2.1 0 + 126) (by omega) (p_low hL hW) (fun hsz => ?_)
  refine p_new hB hL hW hsz hS inA6 tyX6 tyX6_ok wd1_200 wd1_201 wd1_7 rfl (by decide) tl126 (nf_6 (fun j => by rw [(hZ _ (by omega) (by omega)).1 j]; exact iniR_o (by rw [tl126.2]; decide)) ((hZ _ (by omega) (by omega)).2.2)) (Nat.le_of_ble_eq_true rfl) (Nat.le_of_ble_eq_true rfl) dX8_init_60 (fun H hW hS => ?_)
  refine lv_dup hx hb dX8_init_63 rfl ?_
  refine p_size (X := G.2.2.1 0 + 127) (by omega) (p_low hL hW) (fun hsz => ?_)
  refine p_call hB hX hW hsz hS (cc_X6 l G hL (hZ.sub (by omega) (by omega))) (cl_RX8_38 hB.2.2.2.2.1 ⟨Nat.le_of_ble_eq_true rfl, Nat.le_of_ble_eq_true rfl⟩) hl.1 (Nat.le_of_ble_eq_true rfl) dX8_init_64 ⟨Nat.le_of_ble_eq_true rfl, Nat.le_of_ble_eq_true rfl⟩ (fun H locs hW hS => ?_)
  refine p_putF hB (by decide) hW hS inA8 tyX8 tyX8_ok nmX8 rfl (by decide) rfl 5 (by decide) (by omega) tl0 wd2_96 rfl rfl rfl hin (ty := .object "LinesOfFragments$Typesetter") (by decide +kernel) rfl rfl (by decide) dX8_init_67 (fun H locs hW hS => ?_)
  refine lv_aload_n hx hb dX8_init_70 rfl (lv_at hl 0 rfl) ?_
  refine lv_bipush (v := (16 : Int32)) hx hb dX8_init_71 (by decide) ?_
  refine p_size (X := G.2.2.1 0 + 137) (by omega) (p_low hL hW) (fun hsz => ?_)
  refine p_arrI (N := 16) hB hL hW hsz hS (by decide) (by decide) (by decide) (Nat.le_of_ble_eq_true rfl) (Nat.le_of_ble_eq_true rfl) tl137 al137 (fun j => by rw [(hZ _ (by omega) (by omega)).1 j]; exact (iniR_z (by decide) j)) dX8_init_73 (fun H hW hS => ?_)
  refine p_putF hB (by decide) hW hS inA8 tyX8 tyX8_ok nmX8 rfl (by decide) rfl 6 (by decide) (by omega) tl0 wd2_97 rfl rfl rfl hin (ty := .array .int) (by decide +kernel) rfl rfl (by decide) dX8_init_75 (fun H locs hW hS => ?_)
  refine lv_aload_n hx hb dX8_init_78 rfl (lv_at hl 0 rfl) ?_
  refine lv_bipush (v := (7 : Int32)) hx hb dX8_init_79 (by decide) ?_
  refine p_size (X := G.2.2.1 0 + 138) (by omega) (p_low hL hW) (fun hsz => ?_)
  refine p_arrI (N := 7) hB hL hW hsz hS (by decide) (by decide) (by decide) (Nat.le_of_ble_eq_true rfl) (Nat.le_of_ble_eq_true rfl) tl138 al138 (fun j => by rw [(hZ _ (by omega) (by omega)).1 j]; exact (iniR_z (by decide) j)) dX8_init_81 (fun H hW hS => ?_)
  refine p_putF hB (by decide) hW hS inA8 tyX8 tyX8_ok nmX8 rfl (by decide) rfl 7 (by decide) (by omega) tl0 wd2_98 rfl rfl rfl hin (ty := .array .int) (by decide +kernel) rfl rfl (by decide) dX8_init_83 (fun H locs hW hS => ?_)
  refine p_size (X := G.2.2.1 0 + 139) (by omega) (p_low hL hW) (fun hsz => ?_)
  have hW := p_end (k := 0) (R := R) hW (fun a ha => by rw [ru_ne (by omega), ru_ne (by omega), ru_ne (by omega), Rf_out (by omega), rz_ne (by omega), ru_ne (by omega), Rf_out (by omega), rz_ne (by omega), ru_ne (by omega), Rf_out (by omega), rz_ne (by omega), ru_ne (by omega), Rf_out (by omega), rz_ne (by omega), ru_ne (by omega), Rf_out (by omega), rz_ne (by omega), ru_ne (by omega), Rf_out (by omega), rz_ne (by omega)]) (fun a h1 h2 b hb => ?_)
  · exact p_ret hB hX hW hsz hS hr hlk rfl rfl dX8_init_86
  rcases (show a = 0 ∨ (1 ≤ a ∧ a < 12) ∨ (12 ≤ a ∧ a < 23) ∨ (23 ≤ a ∧ a < 34) ∨ (34 ≤ a ∧ a < 124) ∨ (124 ≤ a ∧ a < 126) ∨ (126 ≤ a ∧ a < 137) ∨ a = 137 ∨ a = 138 by omega) with rfl | hq | hq | hq | hq | hq | hq | rfl | rfl
  · have hc := rsl_o tl0.2 (by decide) hb
    rcases rs_8 b hc with rfl | rfl | rfl | rfl | rfl | rfl | rfl | rfl
    · rw [ru_ne2 (by decide), ru_ne2 (by decide), ru_ne2 (by decide), Rf_out (by omega), rz_ne (by omega), ru_ne2 (by decide), Rf_out (by omega), rz_ne (by omega), ru_ne2 (by decide), Rf_out (by omega), rz_ne (by omega), ru_ne2 (by decide), Rf_out (by omega), rz_ne (by omega), ru_ne2 (by decide), Rf_out (by omega), rz_ne (by omega), ru_eq]; unfold fin; rw [tl0.2]; rfl
    · rw [ru_ne2 (by decide), ru_ne2 (by decide), ru_ne2 (by decide), Rf_out (by omega), rz_ne (by omega), ru_ne2 (by decide), Rf_out (by omega), rz_ne (by omega), ru_ne2 (by decide), Rf_out (by omega), rz_ne (by omega), ru_ne2 (by decide), Rf_out (by omega), rz_ne (by omega), ru_eq]; unfold fin; rw [tl0.2]; rfl
    · rw [ru_ne2 (by decide), ru_ne2 (by decide), ru_ne2 (by decide), Rf_out (by omega), rz_ne (by omega), ru_ne2 (by decide), Rf_out (by omega), rz_ne (by omega), ru_ne2 (by decide), Rf_out (by omega), rz_ne (by omega), ru_eq]; unfold fin; rw [tl0.2]; rfl
    · rw [ru_ne2 (by decide), ru_ne2 (by decide), ru_ne2 (by decide), Rf_out (by omega), rz_ne (by omega), ru_ne2 (by decide), Rf_out (by omega), rz_ne (by omega), ru_eq]; unfold fin; rw [tl0.2]; rfl
    · rw [ru_ne2 (by decide), ru_ne2 (by decide), ru_ne2 (by decide), Rf_out (by omega), rz_ne (by omega), ru_eq]; unfold fin; rw [tl0.2]; rfl
    · rw [ru_ne2 (by decide), ru_ne2 (by decide), ru_eq]; unfold fin; rw [tl0.2]; rfl
    · rw [ru_ne2 (by decide), ru_eq]; unfold fin; rw [tl0.2]; rfl
    · rw [ru_eq]; unfold fin; rw [tl0.2]; rfl
  · rw [ru_ne (by omega), ru_ne (by omega), ru_ne (by omega), Rf_out (by omega), rz_ne (by omega), ru_ne (by omega), Rf_out (by omega), rz_ne (by omega), ru_ne (by omega), Rf_out (by omega), rz_ne (by omega), ru_ne (by omega), Rf_out (by omega), rz_ne (by omega), ru_ne (by omega), Rf_out (by omega), rz_ne (by omega), ru_ne (by omega), Rf_in ⟨by omega, by omega⟩]
  · rw [ru_ne (by omega), ru_ne (by omega), ru_ne (by omega), Rf_out (by omega), rz_ne (by omega), ru_ne (by omega), Rf_out (by omega), rz_ne (by omega), ru_ne (by omega), Rf_out (by omega), rz_ne (by omega), ru_ne (by omega), Rf_out (by omega), rz_ne (by omega), ru_ne (by omega), Rf_in ⟨by omega, by omega⟩]
  · rw [ru_ne (by omega), ru_ne (by omega), ru_ne (by omega), Rf_out (by omega), rz_ne (by omega), ru_ne (by omega), Rf_out (by omega), rz_ne (by omega), ru_ne (by omega), Rf_out (by omega), rz_ne (by omega), ru_ne (by omega), Rf_in ⟨by omega, by omega⟩]
  · rw [ru_ne (by omega), ru_ne (by omega), ru_ne (by omega), Rf_out (by omega), rz_ne (by omega), ru_ne (by omega), Rf_out (by omega), rz_ne (by omega), ru_ne (by omega), Rf_in ⟨by omega, by omega⟩]
  · rw [ru_ne (by omega), ru_ne (by omega), ru_ne (by omega), Rf_out (by omega), rz_ne (by omega), ru_ne (by omega), Rf_in ⟨by omega, by omega⟩]
  · rw [ru_ne (by omega), ru_ne (by omega), ru_ne (by omega), Rf_in ⟨by omega, by omega⟩]
  · exact (rsl_no (Or.inl tl137.2) hb).elim
  · exact (rsl_no (Or.inl tl138.2) hb).elim
theorem pp9_9 {p : Program} {l : Launch} {e : Env} {Rm : Room} {s : State} {m : MethodId} {args : Array Value} {below : List Frame} {meth : Method} {c : Code} {H : Heap} {locs : List Loc} {cells slots : Nat} {Q : State → Prop} {cc : ByteArray} {nL : Nat} {own : String} {pc : Nat} {ls : Array Slot} {rest : List Value} {G : GG} {M : Mem} {R : RR} {n : Nat} (hB : BX p s m args c cc nL own G) (hn : n ≤ NN) (hW : WP G R n M H) (hS : va_S (adA G) s.heap H locs) {k index : Nat} (hkn : k < n) (hk : isT 9 k) {x : Int32} (hlink : Cond.fieldLink own index RX9 "words" "I" ∈ lw_all) (hdg : decode cc pc = .ok (.putfield index, 3)) (kk : ∀ (H1 : Heap) (locs1 : List Loc), WP G R n (si M k 9 x) H1 → va_S (adA G) s.heap H1 locs1 → W p l e Rm s m args below meth c H1 locs1 cells slots Q (F0 m (pc + 3) ls rest)) : W p l e Rm s m args below meth c H locs cells slots Q (F0 m pc ls (.int x :: .ref (G.2.2.1 k) :: rest)) := p_put hB hn hW hS inA9 tyX9 tyX9_ok nmX9 rfl (by decide) rfl 9 (by decide) hkn hk hlink rfl rfl (ty := .int) (v := .int x) (by decide +kernel) rfl rfl (M1 := si M k 9 x) (R1 := R) (congrArg Value.int (if_pos ⟨rfl, rfl⟩)) (fun i h => by unfold fvP; rw [show gi (si M k 9 x) k i = gi M k i from if_neg (fun q => h q.2), show gf (si M k 9 x) k i = gf M k i from rfl]) (fun a h => entP_congr (ne_row h) rfl rfl rfl) hdg kk
theorem pp9_10 {p : Program} {l : Launch} {e : Env} {Rm : Room} {s : State} {m : MethodId} {args : Array Value} {below : List Frame} {meth : Method} {c : Code} {H : Heap} {locs : List Loc} {cells slots : Nat} {Q : State → Prop} {cc : ByteArray} {nL : Nat} {own : String} {pc : Nat} {ls : Array Slot} {rest : List Value} {G : GG} {M : Mem} {R : RR} {n : Nat} (hB : BX p s m args c cc nL own G) (hn : n ≤ NN) (hW : WP G R n M H) (hS : va_S (adA G) s.heap H locs) {k index : Nat} (hkn : k < n) (hk : isT 9 k) {x : Int32} (hlink : Cond.fieldLink own index RX9 "patterns" "I" ∈ lw_all) (hdg : decode cc pc = .ok (.putfield index, 3)) (kk : ∀ (H1 : Heap) (locs1 : List Loc), WP G R n (si M k 10 x) H1 → va_S (adA G) s.heap H1 locs1 → W p l e Rm s m args below meth c H1 locs1 cells slots Q (F0 m (pc + 3) ls rest)) : W p l e Rm s m args below meth c H locs cells slots Q (F0 m pc ls (.int x :: .ref (G.2.2.1 k) :: rest)) := p_put hB hn hW hS inA9 tyX9 tyX9_ok nmX9 rfl (by decide) rfl 10 (by decide) hkn hk hlink rfl rfl (ty := .int) (v := .int x) (by decide +kernel) rfl rfl (M1 := si M k 10 x) (R1 := R) (congrArg Value.int (if_pos ⟨rfl, rfl⟩)) (fun i h => by unfold fvP; rw [show gi (si M k 10 x) k i = gi M k i from if_neg (fun q => h q.2), show gf (si M k 10 x) k i = gf M k i from rfl]) (fun a h => entP_congr (ne_row h) rfl rfl rfl) hdg kk
theorem pp9_11 {p : Program} {l : Launch} {e : Env} {Rm : Room} {s : State} {m : MethodId} {args : Array Value} {below : List Frame} {meth : Method} {c : Code} {H : Heap} {locs : List Loc} {cells slots : Nat} {Q : State → Prop} {cc : ByteArray} {nL : Nat} {own : String} {pc : Nat} {ls : Array Slot} {rest : List Value} {G : GG} {M : Mem} {R : RR} {n : Nat} (hB : BX p s m args c cc nL own G) (hn : n ≤ NN) (hW : WP G R n M H) (hS : va_S (adA G) s.heap H locs) {k index : Nat} (hkn : k < n) (hk : isT 9 k) {x : Int32} (hlink : Cond.fieldLink own index RX9 "line" "I" ∈ lw_all) (hdg : decode cc pc = .ok (.putfield index, 3)) (kk : ∀ (H1 : Heap) (locs1 : List Loc), WP G R n (si M k 11 x) H1 → va_S (adA G) s.heap H1 locs1 → W p l e Rm s m args below meth c H1 locs1 cells slots Q (F0 m (pc + 3) ls rest)) : W p l e Rm s m args below meth c H locs cells slots Q (F0 m pc ls (.int x :: .ref (G.2.2.1 k) :: rest)) := p_put hB hn hW hS inA9 tyX9 tyX9_ok nmX9 rfl (by decide) rfl 11 (by decide) hkn hk hlink rfl rfl (ty := .int) (v := .int x) (by decide +kernel) rfl rfl (M1 := si M k 11 x) (R1 := R) (congrArg Value.int (if_pos ⟨rfl, rfl⟩)) (fun i h => by unfold fvP; rw [show gi (si M k 11 x) k i = gi M k i from if_neg (fun q => h q.2), show gf (si M k 11 x) k i = gf M k i from rfl]) (fun a h => entP_congr (ne_row h) rfl rfl rfl) hdg kk
theorem pp9_12 {p : Program} {l : Launch} {e : Env} {Rm : Room} {s : State} {m : MethodId} {args : Array Value} {below : List Frame} {meth : Method} {c : Code} {H : Heap} {locs : List Loc} {cells slots : Nat} {Q : State → Prop} {cc : ByteArray} {nL : Nat} {own : String} {pc : Nat} {ls : Array Slot} {rest : List Value} {G : GG} {M : Mem} {R : RR} {n : Nat} (hB : BX p s m args c cc nL own G) (hn : n ≤ NN) (hW : WP G R n M H) (hS : va_S (adA G) s.heap H locs) {k index : Nat} (hkn : k < n) (hk : isT 9 k) {x : Int32} (hlink : Cond.fieldLink own index RX9 "wide" "I" ∈ lw_all) (hdg : decode cc pc = .ok (.putfield index, 3)) (kk : ∀ (H1 : Heap) (locs1 : List Loc), WP G R n (si M k 12 x) H1 → va_S (adA G) s.heap H1 locs1 → W p l e Rm s m args below meth c H1 locs1 cells slots Q (F0 m (pc + 3) ls rest)) : W p l e Rm s m args below meth c H locs cells slots Q (F0 m pc ls (.int x :: .ref (G.2.2.1 k) :: rest)) := p_put hB hn hW hS inA9 tyX9 tyX9_ok nmX9 rfl (by decide) rfl 12 (by decide) hkn hk hlink rfl rfl (ty := .int) (v := .int x) (by decide +kernel) rfl rfl (M1 := si M k 12 x) (R1 := R) (congrArg Value.int (if_pos ⟨rfl, rfl⟩)) (fun i h => by unfold fvP; rw [show gi (si M k 12 x) k i = gi M k i from if_neg (fun q => h q.2), show gf (si M k 12 x) k i = gf M k i from rfl]) (fun a h => entP_congr (ne_row h) rfl rfl rfl) hdg kk
theorem pp9_13 {p : Program} {l : Launch} {e : Env} {Rm : Room} {s : State} {m : MethodId} {args : Array Value} {below : List Frame} {meth : Method} {c : Code} {H : Heap} {locs : List Loc} {cells slots : Nat} {Q : State → Prop} {cc : ByteArray} {nL : Nat} {own : String} {pc : Nat} {ls : Array Slot} {rest : List Value} {G : GG} {M : Mem} {R : RR} {n : Nat} (hB : BX p s m args c cc nL own G) (hn : n ≤ NN) (hW : WP G R n M H) (hS : va_S (adA G) s.heap H locs) {k index : Nat} (hkn : k < n) (hk : isT 9 k) {x : Int32} (hlink : Cond.fieldLink own index RX9 "stretch" "I" ∈ lw_all) (hdg : decode cc pc = .ok (.putfield index, 3)) (kk : ∀ (H1 : Heap) (locs1 : List Loc), WP G R n (si M k 13 x) H1 → va_S (adA G) s.heap H1 locs1 → W p l e Rm s m args below meth c H1 locs1 cells slots Q (F0 m (pc + 3) ls rest)) : W p l e Rm s m args below meth c H locs cells slots Q (F0 m pc ls (.int x :: .ref (G.2.2.1 k) :: rest)) := p_put hB hn hW hS inA9 tyX9 tyX9_ok nmX9 rfl (by decide) rfl 13 (by decide) hkn hk hlink rfl rfl (ty := .int) (v := .int x) (by decide +kernel) rfl rfl (M1 := si M k 13 x) (R1 := R) (congrArg Value.int (if_pos ⟨rfl, rfl⟩)) (fun i h => by unfold fvP; rw [show gi (si M k 13 x) k i = gi M k i from if_neg (fun q => h q.2), show gf (si M k 13 x) k i = gf M k i from rfl]) (fun a h => entP_congr (ne_row h) rfl rfl rfl) hdg kk
theorem pp9_14 {p : Program} {l : Launch} {e : Env} {Rm : Room} {s : State} {m : MethodId} {args : Array Value} {below : List Frame} {meth : Method} {c : Code} {H : Heap} {locs : List Loc} {cells slots : Nat} {Q : State → Prop} {cc : ByteArray} {nL : Nat} {own : String} {pc : Nat} {ls : Array Slot} {rest : List Value} {G : GG} {M : Mem} {R : RR} {n : Nat} (hB : BX p s m args c cc nL own G) (hn : n ≤ NN) (hW : WP G R n M H) (hS : va_S (adA G) s.heap H locs) {k index : Nat} (hkn : k < n) (hk : isT 9 k) {x : Int32} (hlink : Cond.fieldLink own index RX9 "shrink" "I" ∈ lw_all) (hdg : decode cc pc = .ok (.putfield index, 3)) (kk : ∀ (H1 : Heap) (locs1 : List Loc), WP G R n (si M k 14 x) H1 → va_S (adA G) s.heap H1 locs1 → W p l e Rm s m args below meth c H1 locs1 cells slots Q (F0 m (pc + 3) ls rest)) : W p l e Rm s m args below meth c H locs cells slots Q (F0 m pc ls (.int x :: .ref (G.2.2.1 k) :: rest)) := p_put hB hn hW hS inA9 tyX9 tyX9_ok nmX9 rfl (by decide) rfl 14 (by decide) hkn hk hlink rfl rfl (ty := .int) (v := .int x) (by decide +kernel) rfl rfl (M1 := si M k 14 x) (R1 := R) (congrArg Value.int (if_pos ⟨rfl, rfl⟩)) (fun i h => by unfold fvP; rw [show gi (si M k 14 x) k i = gi M k i from if_neg (fun q => h q.2), show gf (si M k 14 x) k i = gf M k i from rfl]) (fun a h => entP_congr (ne_row h) rfl rfl rfl) hdg kk
theorem pp9_15 {p : Program} {l : Launch} {e : Env} {Rm : Room} {s : State} {m : MethodId} {args : Array Value} {below : List Frame} {meth : Method} {c : Code} {H : Heap} {locs : List Loc} {cells slots : Nat} {Q : State → Prop} {cc : ByteArray} {nL : Nat} {own : String} {pc : Nat} {ls : Array Slot} {rest : List Value} {G : GG} {M : Mem} {R : RR} {n : Nat} (hB : BX p s m args c cc nL own G) (hn : n ≤ NN) (hW : WP G R n M H) (hS : va_S (adA G) s.heap H locs) {k index : Nat} (hkn : k < n) (hk : isT 9 k) {x : Int32} (hlink : Cond.fieldLink own index RX9 "tolerance" "I" ∈ lw_all) (hdg : decode cc pc = .ok (.putfield index, 3)) (kk : ∀ (H1 : Heap) (locs1 : List Loc), WP G R n (si M k 15 x) H1 → va_S (adA G) s.heap H1 locs1 → W p l e Rm s m args below meth c H1 locs1 cells slots Q (F0 m (pc + 3) ls rest)) : W p l e Rm s m args below meth c H locs cells slots Q (F0 m pc ls (.int x :: .ref (G.2.2.1 k) :: rest)) := p_put hB hn hW hS inA9 tyX9 tyX9_ok nmX9 rfl (by decide) rfl 15 (by decide) hkn hk hlink rfl rfl (ty := .int) (v := .int x) (by decide +kernel) rfl rfl (M1 := si M k 15 x) (R1 := R) (congrArg Value.int (if_pos ⟨rfl, rfl⟩)) (fun i h => by unfold fvP; rw [show gi (si M k 15 x) k i = gi M k i from if_neg (fun q => h q.2), show gf (si M k 15 x) k i = gf M k i from rfl]) (fun a h => entP_congr (ne_row h) rfl rfl rfl) hdg kk
theorem pp9_16 {p : Program} {l : Launch} {e : Env} {Rm : Room} {s : State} {m : MethodId} {args : Array Value} {below : List Frame} {meth : Method} {c : Code} {H : Heap} {locs : List Loc} {cells slots : Nat} {Q : State → Prop} {cc : ByteArray} {nL : Nat} {own : String} {pc : Nat} {ls : Array Slot} {rest : List Value} {G : GG} {M : Mem} {R : RR} {n : Nat} (hB : BX p s m args c cc nL own G) (hn : n ≤ NN) (hW : WP G R n M H) (hS : va_S (adA G) s.heap H locs) {k index : Nat} (hkn : k < n) (hk : isT 9 k) {x : Int32} (hlink : Cond.fieldLink own index RX9 "hyphen" "I" ∈ lw_all) (hdg : decode cc pc = .ok (.putfield index, 3)) (kk : ∀ (H1 : Heap) (locs1 : List Loc), WP G R n (si M k 16 x) H1 → va_S (adA G) s.heap H1 locs1 → W p l e Rm s m args below meth c H1 locs1 cells slots Q (F0 m (pc + 3) ls rest)) : W p l e Rm s m args below meth c H locs cells slots Q (F0 m pc ls (.int x :: .ref (G.2.2.1 k) :: rest)) := p_put hB hn hW hS inA9 tyX9 tyX9_ok nmX9 rfl (by decide) rfl 16 (by decide) hkn hk hlink rfl rfl (ty := .int) (v := .int x) (by decide +kernel) rfl rfl (M1 := si M k 16 x) (R1 := R) (congrArg Value.int (if_pos ⟨rfl, rfl⟩)) (fun i h => by unfold fvP; rw [show gi (si M k 16 x) k i = gi M k i from if_neg (fun q => h q.2), show gf (si M k 16 x) k i = gf M k i from rfl]) (fun a h => entP_congr (ne_row h) rfl rfl rfl) hdg kk
theorem pp9_17 {p : Program} {l : Launch} {e : Env} {Rm : Room} {s : State} {m : MethodId} {args : Array Value} {below : List Frame} {meth : Method} {c : Code} {H : Heap} {locs : List Loc} {cells slots : Nat} {Q : State → Prop} {cc : ByteArray} {nL : Nat} {own : String} {pc : Nat} {ls : Array Slot} {rest : List Value} {G : GG} {M : Mem} {R : RR} {n : Nat} (hB : BX p s m args c cc nL own G) (hn : n ≤ NN) (hW : WP G R n M H) (hS : va_S (adA G) s.heap H locs) {k index : Nat} (hkn : k < n) (hk : isT 9 k) {x : Int32} (hlink : Cond.fieldLink own index RX9 "widow" "I" ∈ lw_all) (hdg : decode cc pc = .ok (.putfield index, 3)) (kk : ∀ (H1 : Heap) (locs1 : List Loc), WP G R n (si M k 17 x) H1 → va_S (adA G) s.heap H1 locs1 → W p l e Rm s m args below meth c H1 locs1 cells slots Q (F0 m (pc + 3) ls rest)) : W p l e Rm s m args below meth c H locs cells slots Q (F0 m pc ls (.int x :: .ref (G.2.2.1 k) :: rest)) := p_put hB hn hW hS inA9 tyX9 tyX9_ok nmX9 rfl (by decide) rfl 17 (by decide) hkn hk hlink rfl rfl (ty := .int) (v := .int x) (by decide +kernel) rfl rfl (M1 := si M k 17 x) (R1 := R) (congrArg Value.int (if_pos ⟨rfl, rfl⟩)) (fun i h => by unfold fvP; rw [show gi (si M k 17 x) k i = gi M k i from if_neg (fun q => h q.2), show gf (si M k 17 x) k i = gf M k i from rfl]) (fun a h => entP_congr (ne_row h) rfl rfl rfl) hdg kk
theorem pp9_18 {p : Program} {l : Launch} {e : Env} {Rm : Room} {s : State} {m : MethodId} {args : Array Value} {below : List Frame} {meth : Method} {c : Code} {H : Heap} {locs : List Loc} {cells slots : Nat} {Q : State → Prop} {cc : ByteArray} {nL : Nat} {own : String} {pc : Nat} {ls : Array Slot} {rest : List Value} {G : GG} {M : Mem} {R : RR} {n : Nat} (hB : BX p s m args c cc nL own G) (hn : n ≤ NN) (hW : WP G R n M H) (hS : va_S (adA G) s.heap H locs) {k index : Nat} (hkn : k < n) (hk : isT 9 k) {x : Int32} (hlink : Cond.fieldLink own index RX9 "manner" "I" ∈ lw_all) (hdg : decode cc pc = .ok (.putfield index, 3)) (kk : ∀ (H1 : Heap) (locs1 : List Loc), WP G R n (si M k 18 x) H1 → va_S (adA G) s.heap H1 locs1 → W p l e Rm s m args below meth c H1 locs1 cells slots Q (F0 m (pc + 3) ls rest)) : W p l e Rm s m args below meth c H locs cells slots Q (F0 m pc ls (.int x :: .ref (G.2.2.1 k) :: rest)) := p_put hB hn hW hS inA9 tyX9 tyX9_ok nmX9 rfl (by decide) rfl 18 (by decide) hkn hk hlink rfl rfl (ty := .int) (v := .int x) (by decide +kernel) rfl rfl (M1 := si M k 18 x) (R1 := R) (congrArg Value.int (if_pos ⟨rfl, rfl⟩)) (fun i h => by unfold fvP; rw [show gi (si M k 18 x) k i = gi M k i from if_neg (fun q => h q.2), show gf (si M k 18 x) k i = gf M k i from rfl]) (fun a h => entP_congr (ne_row h) rfl rfl rfl) hdg kk
theorem pp9_19 {p : Program} {l : Launch} {e : Env} {Rm : Room} {s : State} {m : MethodId} {args : Array Value} {below : List Frame} {meth : Method} {c : Code} {H : Heap} {locs : List Loc} {cells slots : Nat} {Q : State → Prop} {cc : ByteArray} {nL : Nat} {own : String} {pc : Nat} {ls : Array Slot} {rest : List Value} {G : GG} {M : Mem} {R : RR} {n : Nat} (hB : BX p s m args c cc nL own G) (hn : n ≤ NN) (hW : WP G R n M H) (hS : va_S (adA G) s.heap H locs) {k index : Nat} (hkn : k < n) (hk : isT 9 k) {x : Int32} (hlink : Cond.fieldLink own index RX9 "kind" "I" ∈ lw_all) (hdg : decode cc pc = .ok (.putfield index, 3)) (kk : ∀ (H1 : Heap) (locs1 : List Loc), WP G R n (si M k 19 x) H1 → va_S (adA G) s.heap H1 locs1 → W p l e Rm s m args below meth c H1 locs1 cells slots Q (F0 m (pc + 3) ls rest)) : W p l e Rm s m args below meth c H locs cells slots Q (F0 m pc ls (.int x :: .ref (G.2.2.1 k) :: rest)) := p_put hB hn hW hS inA9 tyX9 tyX9_ok nmX9 rfl (by decide) rfl 19 (by decide) hkn hk hlink rfl rfl (ty := .int) (v := .int x) (by decide +kernel) rfl rfl (M1 := si M k 19 x) (R1 := R) (congrArg Value.int (if_pos ⟨rfl, rfl⟩)) (fun i h => by unfold fvP; rw [show gi (si M k 19 x) k i = gi M k i from if_neg (fun q => h q.2), show gf (si M k 19 x) k i = gf M k i from rfl]) (fun a h => entP_congr (ne_row h) rfl rfl rfl) hdg kk
theorem pp9_20 {p : Program} {l : Launch} {e : Env} {Rm : Room} {s : State} {m : MethodId} {args : Array Value} {below : List Frame} {meth : Method} {c : Code} {H : Heap} {locs : List Loc} {cells slots : Nat} {Q : State → Prop} {cc : ByteArray} {nL : Nat} {own : String} {pc : Nat} {ls : Array Slot} {rest : List Value} {G : GG} {M : Mem} {R : RR} {n : Nat} (hB : BX p s m args c cc nL own G) (hn : n ≤ NN) (hW : WP G R n M H) (hS : va_S (adA G) s.heap H locs) {k index : Nat} (hkn : k < n) (hk : isT 9 k) {x : Int32} (hlink : Cond.fieldLink own index RX9 "figure" "I" ∈ lw_all) (hdg : decode cc pc = .ok (.putfield index, 3)) (kk : ∀ (H1 : Heap) (locs1 : List Loc), WP G R n (si M k 20 x) H1 → va_S (adA G) s.heap H1 locs1 → W p l e Rm s m args below meth c H1 locs1 cells slots Q (F0 m (pc + 3) ls rest)) : W p l e Rm s m args below meth c H locs cells slots Q (F0 m pc ls (.int x :: .ref (G.2.2.1 k) :: rest)) := p_put hB hn hW hS inA9 tyX9 tyX9_ok nmX9 rfl (by decide) rfl 20 (by decide) hkn hk hlink rfl rfl (ty := .int) (v := .int x) (by decide +kernel) rfl rfl (M1 := si M k 20 x) (R1 := R) (congrArg Value.int (if_pos ⟨rfl, rfl⟩)) (fun i h => by unfold fvP; rw [show gi (si M k 20 x) k i = gi M k i from if_neg (fun q => h q.2), show gf (si M k 20 x) k i = gf M k i from rfl]) (fun a h => entP_congr (ne_row h) rfl rfl rfl) hdg kk
theorem pp9_25 {p : Program} {l : Launch} {e : Env} {Rm : Room} {s : State} {m : MethodId} {args : Array Value} {below : List Frame} {meth : Method} {c : Code} {H : Heap} {locs : List Loc} {cells slots : Nat} {Q : State → Prop} {cc : ByteArray} {nL : Nat} {own : String} {pc : Nat} {ls : Array Slot} {rest : List Value} {G : GG} {M : Mem} {R : RR} {n : Nat} (hB : BX p s m args c cc nL own G) (hn : n ≤ NN) (hW : WP G R n M H) (hS : va_S (adA G) s.heap H locs) {k index : Nat} (hkn : k < n) (hk : isT 9 k) {x : Int32} (hlink : Cond.fieldLink own index RX9 "fragments" "I" ∈ lw_all) (hdg : decode cc pc = .ok (.putfield index, 3)) (kk : ∀ (H1 : Heap) (locs1 : List Loc), WP G R n (si M k 25 x) H1 → va_S (adA G) s.heap H1 locs1 → W p l e Rm s m args below meth c H1 locs1 cells slots Q (F0 m (pc + 3) ls rest)) : W p l e Rm s m args below meth c H locs cells slots Q (F0 m pc ls (.int x :: .ref (G.2.2.1 k) :: rest)) := p_put hB hn hW hS inA9 tyX9 tyX9_ok nmX9 rfl (by decide) rfl 25 (by decide) hkn hk hlink rfl rfl (ty := .int) (v := .int x) (by decide +kernel) rfl rfl (M1 := si M k 25 x) (R1 := R) (congrArg Value.int (if_pos ⟨rfl, rfl⟩)) (fun i h => by unfold fvP; rw [show gi (si M k 25 x) k i = gi M k i from if_neg (fun q => h q.2), show gf (si M k 25 x) k i = gf M k i from rfl]) (fun a h => entP_congr (ne_row h) rfl rfl rfl) hdg kk
theorem pp9_29 {p : Program} {l : Launch} {e : Env} {Rm : Room} {s : State} {m : MethodId} {args : Array Value} {below : List Frame} {meth : Method} {c : Code} {H : Heap} {locs : List Loc} {cells slots : Nat} {Q : State → Prop} {cc : ByteArray} {nL : Nat} {own : String} {pc : Nat} {ls : Array Slot} {rest : List Value} {G : GG} {M : Mem} {R : RR} {n : Nat} (hB : BX p s m args c cc nL own G) (hn : n ≤ NN) (hW : WP G R n M H) (hS : va_S (adA G) s.heap H locs) {k index : Nat} (hkn : k < n) (hk : isT 9 k) {x : Int32} (hlink : Cond.fieldLink own index RX9 "lines" "I" ∈ lw_all) (hdg : decode cc pc = .ok (.putfield index, 3)) (kk : ∀ (H1 : Heap) (locs1 : List Loc), WP G R n (si M k 29 x) H1 → va_S (adA G) s.heap H1 locs1 → W p l e Rm s m args below meth c H1 locs1 cells slots Q (F0 m (pc + 3) ls rest)) : W p l e Rm s m args below meth c H locs cells slots Q (F0 m pc ls (.int x :: .ref (G.2.2.1 k) :: rest)) := p_put hB hn hW hS inA9 tyX9 tyX9_ok nmX9 rfl (by decide) rfl 29 (by decide) hkn hk hlink rfl rfl (ty := .int) (v := .int x) (by decide +kernel) rfl rfl (M1 := si M k 29 x) (R1 := R) (congrArg Value.int (if_pos ⟨rfl, rfl⟩)) (fun i h => by unfold fvP; rw [show gi (si M k 29 x) k i = gi M k i from if_neg (fun q => h q.2), show gf (si M k 29 x) k i = gf M k i from rfl]) (fun a h => entP_congr (ne_row h) rfl rfl rfl) hdg kk
theorem pp9_36 {p : Program} {l : Launch} {e : Env} {Rm : Room} {s : State} {m : MethodId} {args : Array Value} {below : List Frame} {meth : Method} {c : Code} {H : Heap} {locs : List Loc} {cells slots : Nat} {Q : State → Prop} {cc : ByteArray} {nL : Nat} {own : String} {pc : Nat} {ls : Array Slot} {rest : List Value} {G : GG} {M : Mem} {R : RR} {n : Nat} (hB : BX p s m args c cc nL own G) (hn : n ≤ NN) (hW : WP G R n M H) (hS : va_S (adA G) s.heap H locs) {k index : Nat} (hkn : k < n) (hk : isT 9 k) {x : Int32} (hlink : Cond.fieldLink own index RX9 "taped" "I" ∈ lw_all) (hdg : decode cc pc = .ok (.putfield index, 3)) (kk : ∀ (H1 : Heap) (locs1 : List Loc), WP G R n (si M k 36 x) H1 → va_S (adA G) s.heap H1 locs1 → W p l e Rm s m args below meth c H1 locs1 cells slots Q (F0 m (pc + 3) ls rest)) : W p l e Rm s m args below meth c H locs cells slots Q (F0 m pc ls (.int x :: .ref (G.2.2.1 k) :: rest)) := p_put hB hn hW hS inA9 tyX9 tyX9_ok nmX9 rfl (by decide) rfl 36 (by decide) hkn hk hlink rfl rfl (ty := .int) (v := .int x) (by decide +kernel) rfl rfl (M1 := si M k 36 x) (R1 := R) (congrArg Value.int (if_pos ⟨rfl, rfl⟩)) (fun i h => by unfold fvP; rw [show gi (si M k 36 x) k i = gi M k i from if_neg (fun q => h q.2), show gf (si M k 36 x) k i = gf M k i from rfl]) (fun a h => entP_congr (ne_row h) rfl rfl rfl) hdg kk
theorem pp9_37 {p : Program} {l : Launch} {e : Env} {Rm : Room} {s : State} {m : MethodId} {args : Array Value} {below : List Frame} {meth : Method} {c : Code} {H : Heap} {locs : List Loc} {cells slots : Nat} {Q : State → Prop} {cc : ByteArray} {nL : Nat} {own : String} {pc : Nat} {ls : Array Slot} {rest : List Value} {G : GG} {M : Mem} {R : RR} {n : Nat} (hB : BX p s m args c cc nL own G) (hn : n ≤ NN) (hW : WP G R n M H) (hS : va_S (adA G) s.heap H locs) {k index : Nat} (hkn : k < n) (hk : isT 9 k) {x : Int32} (hlink : Cond.fieldLink own index RX9 "reading" "I" ∈ lw_all) (hdg : decode cc pc = .ok (.putfield index, 3)) (kk : ∀ (H1 : Heap) (locs1 : List Loc), WP G R n (si M k 37 x) H1 → va_S (adA G) s.heap H1 locs1 → W p l e Rm s m args below meth c H1 locs1 cells slots Q (F0 m (pc + 3) ls rest)) : W p l e Rm s m args below meth c H locs cells slots Q (F0 m pc ls (.int x :: .ref (G.2.2.1 k) :: rest)) := p_put hB hn hW hS inA9 tyX9 tyX9_ok nmX9 rfl (by decide) rfl 37 (by decide) hkn hk hlink rfl rfl (ty := .int) (v := .int x) (by decide +kernel) rfl rfl (M1 := si M k 37 x) (R1 := R) (congrArg Value.int (if_pos ⟨rfl, rfl⟩)) (fun i h => by unfold fvP; rw [show gi (si M k 37 x) k i = gi M k i from if_neg (fun q => h q.2), show gf (si M k 37 x) k i = gf M k i from rfl]) (fun a h => entP_congr (ne_row h) rfl rfl rfl) hdg kk
theorem pp9_38 {p : Program} {l : Launch} {e : Env} {Rm : Room} {s : State} {m : MethodId} {args : Array Value} {below : List Frame} {meth : Method} {c : Code} {H : Heap} {locs : List Loc} {cells slots : Nat} {Q : State → Prop} {cc : ByteArray} {nL : Nat} {own : String} {pc : Nat} {ls : Array Slot} {rest : List Value} {G : GG} {M : Mem} {R : RR} {n : Nat} (hB : BX p s m args c cc nL own G) (hn : n ≤ NN) (hW : WP G R n M H) (hS : va_S (adA G) s.heap H locs) {k index : Nat} (hkn : k < n) (hk : isT 9 k) {x : Int32} (hlink : Cond.fieldLink own index RX9 "statements" "I" ∈ lw_all) (hdg : decode cc pc = .ok (.putfield index, 3)) (kk : ∀ (H1 : Heap) (locs1 : List Loc), WP G R n (si M k 38 x) H1 → va_S (adA G) s.heap H1 locs1 → W p l e Rm s m args below meth c H1 locs1 cells slots Q (F0 m (pc + 3) ls rest)) : W p l e Rm s m args below meth c H locs cells slots Q (F0 m pc ls (.int x :: .ref (G.2.2.1 k) :: rest)) := p_put hB hn hW hS inA9 tyX9 tyX9_ok nmX9 rfl (by decide) rfl 38 (by decide) hkn hk hlink rfl rfl (ty := .int) (v := .int x) (by decide +kernel) rfl rfl (M1 := si M k 38 x) (R1 := R) (congrArg Value.int (if_pos ⟨rfl, rfl⟩)) (fun i h => by unfold fvP; rw [show gi (si M k 38 x) k i = gi M k i from if_neg (fun q => h q.2), show gf (si M k 38 x) k i = gf M k i from rfl]) (fun a h => entP_congr (ne_row h) rfl rfl rfl) hdg kk
theorem pp9_39 {p : Program} {l : Launch} {e : Env} {Rm : Room} {s : State} {m : MethodId} {args : Array Value} {below : List Frame} {meth : Method} {c : Code} {H : Heap} {locs : List Loc} {cells slots : Nat} {Q : State → Prop} {cc : ByteArray} {nL : Nat} {own : String} {pc : Nat} {ls : Array Slot} {rest : List Value} {G : GG} {M : Mem} {R : RR} {n : Nat} (hB : BX p s m args c cc nL own G) (hn : n ≤ NN) (hW : WP G R n M H) (hS : va_S (adA G) s.heap H locs) {k index : Nat} (hkn : k < n) (hk : isT 9 k) {x : Int32} (hlink : Cond.fieldLink own index RX9 "telling" "I" ∈ lw_all) (hdg : decode cc pc = .ok (.putfield index, 3)) (kk : ∀ (H1 : Heap) (locs1 : List Loc), WP G R n (si M k 39 x) H1 → va_S (adA G) s.heap H1 locs1 → W p l e Rm s m args below meth c H1 locs1 cells slots Q (F0 m (pc + 3) ls rest)) : W p l e Rm s m args below meth c H locs cells slots Q (F0 m pc ls (.int x :: .ref (G.2.2.1 k) :: rest)) := p_put hB hn hW hS inA9 tyX9 tyX9_ok nmX9 rfl (by decide) rfl 39 (by decide) hkn hk hlink rfl rfl (ty := .int) (v := .int x) (by decide +kernel) rfl rfl (M1 := si M k 39 x) (R1 := R) (congrArg Value.int (if_pos ⟨rfl, rfl⟩)) (fun i h => by unfold fvP; rw [show gi (si M k 39 x) k i = gi M k i from if_neg (fun q => h q.2), show gf (si M k 39 x) k i = gf M k i from rfl]) (fun a h => entP_congr (ne_row h) rfl rfl rfl) hdg kk
theorem pp9_44 {p : Program} {l : Launch} {e : Env} {Rm : Room} {s : State} {m : MethodId} {args : Array Value} {below : List Frame} {meth : Method} {c : Code} {H : Heap} {locs : List Loc} {cells slots : Nat} {Q : State → Prop} {cc : ByteArray} {nL : Nat} {own : String} {pc : Nat} {ls : Array Slot} {rest : List Value} {G : GG} {M : Mem} {R : RR} {n : Nat} (hB : BX p s m args c cc nL own G) (hn : n ≤ NN) (hW : WP G R n M H) (hS : va_S (adA G) s.heap H locs) {k index : Nat} (hkn : k < n) (hk : isT 9 k) {x : Int32} (hlink : Cond.fieldLink own index RX9 "cursor" "I" ∈ lw_all) (hdg : decode cc pc = .ok (.putfield index, 3)) (kk : ∀ (H1 : Heap) (locs1 : List Loc), WP G R n (si M k 44 x) H1 → va_S (adA G) s.heap H1 locs1 → W p l e Rm s m args below meth c H1 locs1 cells slots Q (F0 m (pc + 3) ls rest)) : W p l e Rm s m args below meth c H locs cells slots Q (F0 m pc ls (.int x :: .ref (G.2.2.1 k) :: rest)) := p_put hB hn hW hS inA9 tyX9 tyX9_ok nmX9 rfl (by decide) rfl 44 (by decide) hkn hk hlink rfl rfl (ty := .int) (v := .int x) (by decide +kernel) rfl rfl (M1 := si M k 44 x) (R1 := R) (congrArg Value.int (if_pos ⟨rfl, rfl⟩)) (fun i h => by unfold fvP; rw [show gi (si M k 44 x) k i = gi M k i from if_neg (fun q => h q.2), show gf (si M k 44 x) k i = gf M k i from rfl]) (fun a h => entP_congr (ne_row h) rfl rfl rfl) hdg kk
theorem pp9_45 {p : Program} {l : Launch} {e : Env} {Rm : Room} {s : State} {m : MethodId} {args : Array Value} {below : List Frame} {meth : Method} {c : Code} {H : Heap} {locs : List Loc} {cells slots : Nat} {Q : State → Prop} {cc : ByteArray} {nL : Nat} {own : String} {pc : Nat} {ls : Array Slot} {rest : List Value} {G : GG} {M : Mem} {R : RR} {n : Nat} (hB : BX p s m args c cc nL own G) (hn : n ≤ NN) (hW : WP G R n M H) (hS : va_S (adA G) s.heap H locs) {k index : Nat} (hkn : k < n) (hk : isT 9 k) {x : Int32} (hlink : Cond.fieldLink own index RX9 "firstBack" "I" ∈ lw_all) (hdg : decode cc pc = .ok (.putfield index, 3)) (kk : ∀ (H1 : Heap) (locs1 : List Loc), WP G R n (si M k 45 x) H1 → va_S (adA G) s.heap H1 locs1 → W p l e Rm s m args below meth c H1 locs1 cells slots Q (F0 m (pc + 3) ls rest)) : W p l e Rm s m args below meth c H locs cells slots Q (F0 m pc ls (.int x :: .ref (G.2.2.1 k) :: rest)) := p_put hB hn hW hS inA9 tyX9 tyX9_ok nmX9 rfl (by decide) rfl 45 (by decide) hkn hk hlink rfl rfl (ty := .int) (v := .int x) (by decide +kernel) rfl rfl (M1 := si M k 45 x) (R1 := R) (congrArg Value.int (if_pos ⟨rfl, rfl⟩)) (fun i h => by unfold fvP; rw [show gi (si M k 45 x) k i = gi M k i from if_neg (fun q => h q.2), show gf (si M k 45 x) k i = gf M k i from rfl]) (fun a h => entP_congr (ne_row h) rfl rfl rfl) hdg kk
theorem pp9_46 {p : Program} {l : Launch} {e : Env} {Rm : Room} {s : State} {m : MethodId} {args : Array Value} {below : List Frame} {meth : Method} {c : Code} {H : Heap} {locs : List Loc} {cells slots : Nat} {Q : State → Prop} {cc : ByteArray} {nL : Nat} {own : String} {pc : Nat} {ls : Array Slot} {rest : List Value} {G : GG} {M : Mem} {R : RR} {n : Nat} (hB : BX p s m args c cc nL own G) (hn : n ≤ NN) (hW : WP G R n M H) (hS : va_S (adA G) s.heap H locs) {k index : Nat} (hkn : k < n) (hk : isT 9 k) {x : Int32} (hlink : Cond.fieldLink own index RX9 "backs" "I" ∈ lw_all) (hdg : decode cc pc = .ok (.putfield index, 3)) (kk : ∀ (H1 : Heap) (locs1 : List Loc), WP G R n (si M k 46 x) H1 → va_S (adA G) s.heap H1 locs1 → W p l e Rm s m args below meth c H1 locs1 cells slots Q (F0 m (pc + 3) ls rest)) : W p l e Rm s m args below meth c H locs cells slots Q (F0 m pc ls (.int x :: .ref (G.2.2.1 k) :: rest)) := p_put hB hn hW hS inA9 tyX9 tyX9_ok nmX9 rfl (by decide) rfl 46 (by decide) hkn hk hlink rfl rfl (ty := .int) (v := .int x) (by decide +kernel) rfl rfl (M1 := si M k 46 x) (R1 := R) (congrArg Value.int (if_pos ⟨rfl, rfl⟩)) (fun i h => by unfold fvP; rw [show gi (si M k 46 x) k i = gi M k i from if_neg (fun q => h q.2), show gf (si M k 46 x) k i = gf M k i from rfl]) (fun a h => entP_congr (ne_row h) rfl rfl rfl) hdg kk
theorem pp9_52 {p : Program} {l : Launch} {e : Env} {Rm : Room} {s : State} {m : MethodId} {args : Array Value} {below : List Frame} {meth : Method} {c : Code} {H : Heap} {locs : List Loc} {cells slots : Nat} {Q : State → Prop} {cc : ByteArray} {nL : Nat} {own : String} {pc : Nat} {ls : Array Slot} {rest : List Value} {G : GG} {M : Mem} {R : RR} {n : Nat} (hB : BX p s m args c cc nL own G) (hn : n ≤ NN) (hW : WP G R n M H) (hS : va_S (adA G) s.heap H locs) {k index : Nat} (hkn : k < n) (hk : isT 9 k) {x : Int32} (hlink : Cond.fieldLink own index RX9 "rowMany" "I" ∈ lw_all) (hdg : decode cc pc = .ok (.putfield index, 3)) (kk : ∀ (H1 : Heap) (locs1 : List Loc), WP G R n (si M k 52 x) H1 → va_S (adA G) s.heap H1 locs1 → W p l e Rm s m args below meth c H1 locs1 cells slots Q (F0 m (pc + 3) ls rest)) : W p l e Rm s m args below meth c H locs cells slots Q (F0 m pc ls (.int x :: .ref (G.2.2.1 k) :: rest)) := p_put hB hn hW hS inA9 tyX9 tyX9_ok nmX9 rfl (by decide) rfl 52 (by decide) hkn hk hlink rfl rfl (ty := .int) (v := .int x) (by decide +kernel) rfl rfl (M1 := si M k 52 x) (R1 := R) (congrArg Value.int (if_pos ⟨rfl, rfl⟩)) (fun i h => by unfold fvP; rw [show gi (si M k 52 x) k i = gi M k i from if_neg (fun q => h q.2), show gf (si M k 52 x) k i = gf M k i from rfl]) (fun a h => entP_congr (ne_row h) rfl rfl rfl) hdg kk
theorem pp9_53 {p : Program} {l : Launch} {e : Env} {Rm : Room} {s : State} {m : MethodId} {args : Array Value} {below : List Frame} {meth : Method} {c : Code} {H : Heap} {locs : List Loc} {cells slots : Nat} {Q : State → Prop} {cc : ByteArray} {nL : Nat} {own : String} {pc : Nat} {ls : Array Slot} {rest : List Value} {G : GG} {M : Mem} {R : RR} {n : Nat} (hB : BX p s m args c cc nL own G) (hn : n ≤ NN) (hW : WP G R n M H) (hS : va_S (adA G) s.heap H locs) {k index : Nat} (hkn : k < n) (hk : isT 9 k) {x : Int32} (hlink : Cond.fieldLink own index RX9 "lots" "I" ∈ lw_all) (hdg : decode cc pc = .ok (.putfield index, 3)) (kk : ∀ (H1 : Heap) (locs1 : List Loc), WP G R n (si M k 53 x) H1 → va_S (adA G) s.heap H1 locs1 → W p l e Rm s m args below meth c H1 locs1 cells slots Q (F0 m (pc + 3) ls rest)) : W p l e Rm s m args below meth c H locs cells slots Q (F0 m pc ls (.int x :: .ref (G.2.2.1 k) :: rest)) := p_put hB hn hW hS inA9 tyX9 tyX9_ok nmX9 rfl (by decide) rfl 53 (by decide) hkn hk hlink rfl rfl (ty := .int) (v := .int x) (by decide +kernel) rfl rfl (M1 := si M k 53 x) (R1 := R) (congrArg Value.int (if_pos ⟨rfl, rfl⟩)) (fun i h => by unfold fvP; rw [show gi (si M k 53 x) k i = gi M k i from if_neg (fun q => h q.2), show gf (si M k 53 x) k i = gf M k i from rfl]) (fun a h => entP_congr (ne_row h) rfl rfl rfl) hdg kk
theorem rs_9 (b : Nat) (h : 2 ≤ (fcode 9).getD b 0) : b = 0 ∨ b = 1 ∨ b = 2 ∨ b = 3 ∨ b = 4 ∨ b = 5 ∨ b = 6 ∨ b = 7 ∨ b = 8 ∨ b = 21 ∨ b = 22 ∨ b = 23 ∨ b = 24 ∨ b = 26 ∨ b = 27 ∨ b = 28 ∨ b = 30 ∨ b = 31 ∨ b = 32 ∨ b = 33 ∨ b = 34 ∨ b = 35 ∨ b = 40 ∨ b = 41 ∨ b = 47 ∨ b = 48 ∨ b = 49 ∨ b = 50 ∨ b = 51 := by
  have hm : b ∈ ([0, 1, 2, 3, 4, 5, 6, 7, 8, 21, 22, 23, 24, 26, 27, 28, 30, 31, 32, 33, 34, 35, 40, 41, 47, 48, 49, 50, 51] : List Nat) := by
    rcases Nat.lt_or_ge b 54 with q | q
    · exact (by decide : ∀ b, b < 54 → 2 ≤ (fcode 9).getD b 0 → b ∈ ([0, 1, 2, 3, 4, 5, 6, 7, 8, 21, 22, 23, 24, 26, 27, 28, 30, 31, 32, 33, 34, 35, 40, 41, 47, 48, 49, 50, 51] : List Nat)) b q h
    · rw [List.getD_eq_getElem?_getD, List.getElem?_eq_none (show (fcode 9).length ≤ b from q)] at h; exact absurd h (by decide)
  simpa only [List.mem_cons, List.not_mem_nil, or_false] using hm
set_option maxHeartbeats 4000000 in
set_option maxRecDepth 100000 in
theorem cc_X9 (l : Launch) (G : GG) (hL : adL G) {R : RR} {M : Mem} (hZ : Zr M 139 169) : Met l yX9_init (wsq yX9_init cX9_init 1 none) { frames := 1, cells := 29, slots := 5769, locals := 16 } (va_Pc [.ref (G.2.2.1 139)] (WorldP G R 140 M)) (va_Qv (fun (_ : Unit) => True) (fun _ => WorldP G (Rf R 139 169) 169 (si (si (si (si (si (si (si (si (si (si (si (si (si (si (si M 141 0 (3 : Int32)) 141 1 (4 : Int32)) 141 2 (3 : Int32)) 141 3 (4 : Int32)) 141 4 (3 : Int32)) 141 5 (2 : Int32)) 141 6 (4 : Int32)) 141 7 (4 : Int32)) 139 11 (30 : Int32)) 139 12 (3 : Int32)) 139 13 (2 : Int32)) 139 14 (1 : Int32)) 139 15 (12 : Int32)) 139 16 (50 : Int32)) 139 17 (1 : Int32))) (adA G)) 29 5769 (adA G) := by
  refine p_start (plainFor_of_name (by decide)) rfl (Nat.le_of_ble_eq_true rfl) ?_
  intro p e s m args below meth c hB hX hin hr hlk hW hs0 hS ls hl
  have hx := hB.x
  have hb := hB.b
  have hl : lv_has ls 1 [(0, .ref (G.2.2.1 139))] := hl
  refine lv_aload_n hx hb dX9_init_0 rfl (lv_at hl 0 rfl) ?_
  refine W.objInit hx hb hB.ow (hB.w wd5_78) (hB.w wd1_23) (hB.w wd1_24) rfl (by rw [hB.ml]; exact hl.1) rfl dX9_init_1 (Nat.le_of_ble_eq_true rfl) (Nat.le_of_ble_eq_true rfl) ?_
  refine W.eq (g2 := F0 m 4 ls []) rfl ?_
  refine lv_aload_n hx hb dX9_init_4 rfl (lv_at hl 0 rfl) ?_
  refine lv_bipush (v := (7 : Int32)) hx hb dX9_init_5 (by decide) ?_
  refine p_size (X := G.2.2.1 0 + 140) (by omega) (p_low hL hW) (fun hsz => ?_)
  refine p_arrI (N := 7) hB hL hW hsz hS (by decide) (by decide) (by decide) (Nat.le_of_ble_eq_true rfl) (Nat.le_of_ble_eq_true rfl) tl140 al140 (fun j => by rw [(hZ _ (by omega) (by omega)).1 j]; exact (iniR_z (by decide) j)) dX9_init_7 (fun H hW hS => ?_)
  refine p_putF hB (by decide) hW hS inA9 tyX9 tyX9_ok nmX9 rfl (by decide) rfl 0 (by decide) (by omega) tl139 wd5_79 rfl rfl rfl hin (ty := .array .int) (by decide +kernel) rfl rfl (by decide) dX9_init_9 (fun H locs hW hS => ?_)
  refine lv_aload_n hx hb dX9_init_12 rfl (lv_at hl 0 rfl) ?_
  refine lv_bipush (v := (8 : Int32)) hx hb dX9_init_13 (by decide) ?_
  refine p_size (X := G.2.2.1 0 + 141) (by omega) (p_low hL hW) (fun hsz => ?_)
  refine p_arrI (N := 8) hB hL hW hsz hS (by decide) (by decide) (by decide) (Nat.le_of_ble_eq_true rfl) (Nat.le_of_ble_eq_true rfl) tl141 al141 (fun j => by rw [(hZ _ (by omega) (by omega)).1 j]; exact (iniR_z (by decide) j)) dX9_init_15 (fun H hW hS => ?_)
  refine p_putF hB (by decide) hW hS inA9 tyX9 tyX9_ok nmX9 rfl (by decide) rfl 1 (by decide) (by omega) tl139 wd5_80 rfl rfl rfl hin (ty := .array .int) (by decide +kernel) rfl rfl (by decide) dX9_init_17 (fun H locs hW hS => ?_)
  refine lv_aload_n hx hb dX9_init_20 rfl (lv_at hl 0 rfl) ?_
  refine lv_bipush (v := (16 : Int32)) hx hb dX9_init_21 (by decide) ?_
  refine p_size (X := G.2.2.1 0 + 142) (by omega) (p_low hL hW) (fun hsz => ?_)
  refine p_arrI (N := 16) hB hL hW hsz hS (by decide) (by decide) (by decide) (Nat.le_of_ble_eq_true rfl) (Nat.le_of_ble_eq_true rfl) tl142 al142 (fun j => by rw [(hZ _ (by omega) (by omega)).1 j]; exact (iniR_z (by decide) j)) dX9_init_23 (fun H hW hS => ?_)
  refine p_putF hB (by decide) hW hS inA9 tyX9 tyX9_ok nmX9 rfl (by decide) rfl 2 (by decide) (by omega) tl139 wd5_81 rfl rfl rfl hin (ty := .array .int) (by decide +kernel) rfl rfl (by decide) dX9_init_25 (fun H locs hW hS => ?_)
  refine lv_aload_n hx hb dX9_init_28 rfl (lv_at hl 0 rfl) ?_
  refine lv_sipush (v := (192 : Int32)) hx hb dX9_init_29 (by decide) ?_
  refine p_size (X := G.2.2.1 0 + 143) (by omega) (p_low hL hW) (fun hsz => ?_)
  refine p_arrI (N := 192) hB hL hW hsz hS (by decide) (by decide) (by decide) (Nat.le_of_ble_eq_true rfl) (Nat.le_of_ble_eq_true rfl) tl143 al143 (fun j => by rw [(hZ _ (by omega) (by omega)).1 j]; exact (iniR_z (by decide) j)) dX9_init_32 (fun H hW hS => ?_)
  refine p_putF hB (by decide) hW hS inA9 tyX9 tyX9_ok nmX9 rfl (by decide) rfl 3 (by decide) (by omega) tl139 wd5_82 rfl rfl rfl hin (ty := .array .int) (by decide +kernel) rfl rfl (by decide) dX9_init_34 (fun H locs hW hS => ?_)
  refine lv_aload_n hx hb dX9_init_37 rfl (lv_at hl 0 rfl) ?_
  refine lv_bipush (v := (16 : Int32)) hx hb dX9_init_38 (by decide) ?_
  refine p_size (X := G.2.2.1 0 + 144) (by omega) (p_low hL hW) (fun hsz => ?_)
  refine p_arrI (N := 16) hB hL hW hsz hS (by decide) (by decide) (by decide) (Nat.le_of_ble_eq_true rfl) (Nat.le_of_ble_eq_true rfl) tl144 al144 (fun j => by rw [(hZ _ (by omega) (by omega)).1 j]; exact (iniR_z (by decide) j)) dX9_init_40 (fun H hW hS => ?_)
  refine p_putF hB (by decide) hW hS inA9 tyX9 tyX9_ok nmX9 rfl (by decide) rfl 4 (by decide) (by omega) tl139 wd5_83 rfl rfl rfl hin (ty := .array .int) (by decide +kernel) rfl rfl (by decide) dX9_init_42 (fun H locs hW hS => ?_)
  refine lv_aload_n hx hb dX9_init_45 rfl (lv_at hl 0 rfl) ?_
  refine lv_bipush (v := (8 : Int32)) hx hb dX9_init_46 (by decide) ?_
  refine p_size (X := G.2.2.1 0 + 145) (by omega) (p_low hL hW) (fun hsz => ?_)
  refine p_arrI (N := 8) hB hL hW hsz hS (by decide) (by decide) (by decide) (Nat.le_of_ble_eq_true rfl) (Nat.le_of_ble_eq_true rfl) tl145 al145 (fun j => by rw [(hZ _ (by omega) (by omega)).1 j]; exact (iniR_z (by decide) j)) dX9_init_48 (fun H hW hS => ?_)
  refine p_putF hB (by decide) hW hS inA9 tyX9 tyX9_ok nmX9 rfl (by decide) rfl 5 (by decide) (by omega) tl139 wd5_84 rfl rfl rfl hin (ty := .array .int) (by decide +kernel) rfl rfl (by decide) dX9_init_50 (fun H locs hW hS => ?_)
  refine lv_aload_n hx hb dX9_init_53 rfl (lv_at hl 0 rfl) ?_
  refine lv_bipush (v := (24 : Int32)) hx hb dX9_init_54 (by decide) ?_
  refine p_size (X := G.2.2.1 0 + 146) (by omega) (p_low hL hW) (fun hsz => ?_)
  refine p_arrI (N := 24) hB hL hW hsz hS (by decide) (by decide) (by decide) (Nat.le_of_ble_eq_true rfl) (Nat.le_of_ble_eq_true rfl) tl146 al146 (fun j => by rw [(hZ _ (by omega) (by omega)).1 j]; exact (iniR_z (by decide) j)) dX9_init_56 (fun H hW hS => ?_)
  refine p_putF hB (by decide) hW hS inA9 tyX9 tyX9_ok nmX9 rfl (by decide) rfl 6 (by decide) (by omega) tl139 wd5_85 rfl rfl rfl hin (ty := .array .int) (by decide +kernel) rfl rfl (by decide) dX9_init_58 (fun H locs hW hS => ?_)
  refine lv_aload_n hx hb dX9_init_61 rfl (lv_at hl 0 rfl) ?_
  refine lv_bipush (v := (8 : Int32)) hx hb dX9_init_62 (by decide) ?_
  refine p_size (X := G.2.2.1 0 + 147) (by omega) (p_low hL hW) (fun hsz => ?_)
  refine p_arrI (N := 8) hB hL hW hsz hS (by decide) (by decide) (by decide) (Nat.le_of_ble_eq_true rfl) (Nat.le_of_ble_eq_true rfl) tl147 al147 (fun j => by rw [(hZ _ (by omega) (by omega)).1 j]; exact (iniR_z (by decide) j)) dX9_init_64 (fun H hW hS => ?_)
  refine p_putF hB (by decide) hW hS inA9 tyX9 tyX9_ok nmX9 rfl (by decide) rfl 7 (by decide) (by omega) tl139 wd5_86 rfl rfl rfl hin (ty := .array .int) (by decide +kernel) rfl rfl (by decide) dX9_init_66 (fun H locs hW hS => ?_)
  refine lv_aload_n hx hb dX9_init_69 rfl (lv_at hl 0 rfl) ?_
  refine lv_bipush (v := (8 : Int32)) hx hb dX9_init_70 (by decide) ?_
  refine p_size (X := G.2.2.1 0 + 148) (by omega) (p_low hL hW) (fun hsz => ?_)
  refine p_arrI (N := 8) hB hL hW hsz hS (by decide) (by decide) (by decide) (Nat.le_of_ble_eq_true rfl) (Nat.le_of_ble_eq_true rfl) tl148 al148 (fun j => by rw [(hZ _ (by omega) (by omega)).1 j]; exact (iniR_z (by decide) j)) dX9_init_72 (fun H hW hS => ?_)
  refine p_putF hB (by decide) hW hS inA9 tyX9 tyX9_ok nmX9 rfl (by decide) rfl 8 (by decide) (by omega) tl139 wd5_87 rfl rfl rfl hin (ty := .array .int) (by decide +kernel) rfl rfl (by decide) dX9_init_74 (fun H locs hW hS => ?_)
  refine lv_aload_n hx hb dX9_init_77 rfl (lv_at hl 0 rfl) ?_
  refine lv_sipush (v := (162 : Int32)) hx hb dX9_init_78 (by decide) ?_
  refine p_size (X := G.2.2.1 0 + 149) (by omega) (p_low hL hW) (fun hsz => ?_)
  refine p_arrI (N := 162) hB hL hW hsz hS (by decide) (by decide) (by decide) (Nat.le_of_ble_eq_true rfl) (Nat.le_of_ble_eq_true rfl) tl149 al149 (fun j => by rw [(hZ _ (by omega) (by omega)).1 j]; exact (iniR_z (by decide) j)) dX9_init_81 (fun H hW hS => ?_)
  refine p_putF hB (by decide) hW hS inA9 tyX9 tyX9_ok nmX9 rfl (by decide) rfl 21 (by decide) (by omega) tl139 wd5_100 rfl rfl rfl hin (ty := .array .int) (by decide +kernel) rfl rfl (by decide) dX9_init_83 (fun H locs hW hS => ?_)
  refine lv_aload_n hx hb dX9_init_86 rfl (lv_at hl 0 rfl) ?_
  refine lv_sipush (v := (162 : Int32)) hx hb dX9_init_87 (by decide) ?_
  refine p_size (X := G.2.2.1 0 + 150) (by omega) (p_low hL hW) (fun hsz => ?_)
  refine p_arrI (N := 162) hB hL hW hsz hS (by decide) (by decide) (by decide) (Nat.le_of_ble_eq_true rfl) (Nat.le_of_ble_eq_true rfl) tl150 al150 (fun j => by rw [(hZ _ (by omega) (by omega)).1 j]; exact (iniR_z (by decide) j)) dX9_init_90 (fun H hW hS => ?_)
  refine p_putF hB (by decide) hW hS inA9 tyX9 tyX9_ok nmX9 rfl (by decide) rfl 22 (by decide) (by omega) tl139 wd5_101 rfl rfl rfl hin (ty := .array .int) (by decide +kernel) rfl rfl (by decide) dX9_init_92 (fun H locs hW hS => ?_)
  refine lv_aload_n hx hb dX9_init_95 rfl (lv_at hl 0 rfl) ?_
  refine lv_sipush (v := (161 : Int32)) hx hb dX9_init_96 (by decide) ?_
  refine p_size (X := G.2.2.1 0 + 151) (by omega) (p_low hL hW) (fun hsz => ?_)
  refine p_arrI (N := 161) hB hL hW hsz hS (by decide) (by decide) (by decide) (Nat.le_of_ble_eq_true rfl) (Nat.le_of_ble_eq_true rfl) tl151 al151 (fun j => by rw [(hZ _ (by omega) (by omega)).1 j]; exact (iniR_z (by decide) j)) dX9_init_99 (fun H hW hS => ?_)
  refine p_putF hB (by decide) hW hS inA9 tyX9 tyX9_ok nmX9 rfl (by decide) rfl 23 (by decide) (by omega) tl139 wd5_102 rfl rfl rfl hin (ty := .array .int) (by decide +kernel) rfl rfl (by decide) dX9_init_101 (fun H locs hW hS => ?_)
  refine lv_aload_n hx hb dX9_init_104 rfl (lv_at hl 0 rfl) ?_
  refine lv_sipush (v := (161 : Int32)) hx hb dX9_init_105 (by decide) ?_
  refine p_size (X := G.2.2.1 0 + 152) (by omega) (p_low hL hW) (fun hsz => ?_)
  refine p_arrI (N := 161) hB hL hW hsz hS (by decide) (by decide) (by decide) (Nat.le_of_ble_eq_true rfl) (Nat.le_of_ble_eq_true rfl) tl152 al152 (fun j => by rw [(hZ _ (by omega) (by omega)).1 j]; exact (iniR_z (by decide) j)) dX9_init_108 (fun H hW hS => ?_)
  refine p_putF hB (by decide) hW hS inA9 tyX9 tyX9_ok nmX9 rfl (by decide) rfl 24 (by decide) (by omega) tl139 wd5_103 rfl rfl rfl hin (ty := .array .int) (by decide +kernel) rfl rfl (by decide) dX9_init_110 (fun H locs hW hS => ?_)
  refine lv_aload_n hx hb dX9_init_113 rfl (lv_at hl 0 rfl) ?_
  refine lv_sipush (v := (161 : Int32)) hx hb dX9_init_114 (by decide) ?_
  refine p_size (X := G.2.2.1 0 + 153) (by omega) (p_low hL hW) (fun hsz => ?_)
  refine p_arrF (N := 161) hB hL hW hsz hS (by decide) (by decide) (by decide) (Nat.le_of_ble_eq_true rfl) (Nat.le_of_ble_eq_true rfl) tl153 al153 ((hZ _ (by omega) (by omega)).2.2) dX9_init_117 (fun H hW hS => ?_)
  refine p_putF hB (by decide) hW hS inA9 tyX9 tyX9_ok nmX9 rfl (by decide) rfl 26 (by decide) (by omega) tl139 wd5_105 rfl rfl rfl hin (ty := .array .float) (by decide +kernel) rfl rfl (by decide) dX9_init_119 (fun H locs hW hS => ?_)
  refine lv_aload_n hx hb dX9_init_122 rfl (lv_at hl 0 rfl) ?_
  refine lv_sipush (v := (161 : Int32)) hx hb dX9_init_123 (by decide) ?_
  refine p_size (X := G.2.2.1 0 + 154) (by omega) (p_low hL hW) (fun hsz => ?_)
  refine p_arrI (N := 161) hB hL hW hsz hS (by decide) (by decide) (by decide) (Nat.le_of_ble_eq_true rfl) (Nat.le_of_ble_eq_true rfl) tl154 al154 (fun j => by rw [(hZ _ (by omega) (by omega)).1 j]; exact (iniR_z (by decide) j)) dX9_init_126 (fun H hW hS => ?_)
  refine p_putF hB (by decide) hW hS inA9 tyX9 tyX9_ok nmX9 rfl (by decide) rfl 27 (by decide) (by omega) tl139 wd5_106 rfl rfl rfl hin (ty := .array .int) (by decide +kernel) rfl rfl (by decide) dX9_init_128 (fun H locs hW hS => ?_)
  refine lv_aload_n hx hb dX9_init_131 rfl (lv_at hl 0 rfl) ?_
  refine lv_sipush (v := (162 : Int32)) hx hb dX9_init_132 (by decide) ?_
  refine p_size (X := G.2.2.1 0 + 155) (by omega) (p_low hL hW) (fun hsz => ?_)
  refine p_arrI (N := 162) hB hL hW hsz hS (by decide) (by decide) (by decide) (Nat.le_of_ble_eq_true rfl) (Nat.le_of_ble_eq_true rfl) tl155 al155 (fun j => by rw [(hZ _ (by omega) (by omega)).1 j]; exact (iniR_z (by decide) j)) dX9_init_135 (fun H hW hS => ?_)
  refine p_putF hB (by decide) hW hS inA9 tyX9 tyX9_ok nmX9 rfl (by decide) rfl 28 (by decide) (by omega) tl139 wd5_107 rfl rfl rfl hin (ty := .array .int) (by decide +kernel) rfl rfl (by decide) dX9_init_137 (fun H locs hW hS => ?_)
  refine lv_aload_n hx hb dX9_init_140 rfl (lv_at hl 0 rfl) ?_
  refine lv_bipush (v := (96 : Int32)) hx hb dX9_init_141 (by decide) ?_
  refine p_size (X := G.2.2.1 0 + 156) (by omega) (p_low hL hW) (fun hsz => ?_)
  refine p_arrI (N := 96) hB hL hW hsz hS (by decide) (by decide) (by decide) (Nat.le_of_ble_eq_true rfl) (Nat.le_of_ble_eq_true rfl) tl156 al156 (fun j => by rw [(hZ _ (by omega) (by omega)).1 j]; exact (iniR_z (by decide) j)) dX9_init_143 (fun H hW hS => ?_)
  refine p_putF hB (by decide) hW hS inA9 tyX9 tyX9_ok nmX9 rfl (by decide) rfl 30 (by decide) (by omega) tl139 wd5_109 rfl rfl rfl hin (ty := .array .int) (by decide +kernel) rfl rfl (by decide) dX9_init_145 (fun H locs hW hS => ?_)
  refine lv_aload_n hx hb dX9_init_148 rfl (lv_at hl 0 rfl) ?_
  refine lv_bipush (v := (49 : Int32)) hx hb dX9_init_149 (by decide) ?_
  refine p_size (X := G.2.2.1 0 + 157) (by omega) (p_low hL hW) (fun hsz => ?_)
  refine p_arrI (N := 49) hB hL hW hsz hS (by decide) (by decide) (by decide) (Nat.le_of_ble_eq_true rfl) (Nat.le_of_ble_eq_true rfl) tl157 al157 (fun j => by rw [(hZ _ (by omega) (by omega)).1 j]; exact (iniR_z (by decide) j)) dX9_init_151 (fun H hW hS => ?_)
  refine p_putF hB (by decide) hW hS inA9 tyX9 tyX9_ok nmX9 rfl (by decide) rfl 31 (by decide) (by omega) tl139 wd5_110 rfl rfl rfl hin (ty := .array .int) (by decide +kernel) rfl rfl (by decide) dX9_init_153 (fun H locs hW hS => ?_)
  refine lv_aload_n hx hb dX9_init_156 rfl (lv_at hl 0 rfl) ?_
  refine lv_bipush (v := (49 : Int32)) hx hb dX9_init_157 (by decide) ?_
  refine p_size (X := G.2.2.1 0 + 158) (by omega) (p_low hL hW) (fun hsz => ?_)
  refine p_arrI (N := 49) hB hL hW hsz hS (by decide) (by decide) (by decide) (Nat.le_of_ble_eq_true rfl) (Nat.le_of_ble_eq_true rfl) tl158 al158 (fun j => by rw [(hZ _ (by omega) (by omega)).1 j]; exact (iniR_z (by decide) j)) dX9_init_159 (fun H hW hS => ?_)
  refine p_putF hB (by decide) hW hS inA9 tyX9 tyX9_ok nmX9 rfl (by decide) rfl 32 (by decide) (by omega) tl139 wd5_111 rfl rfl rfl hin (ty := .array .int) (by decide +kernel) rfl rfl (by decide) dX9_init_161 (fun H locs hW hS => ?_)
  refine lv_aload_n hx hb dX9_init_164 rfl (lv_at hl 0 rfl) ?_
  refine lv_sipush (v := (147 : Int32)) hx hb dX9_init_165 (by decide) ?_
  refine p_size (X := G.2.2.1 0 + 159) (by omega) (p_low hL hW) (fun hsz => ?_)
  refine p_arrI (N := 147) hB hL hW hsz hS (by decide) (by decide) (by decide) (Nat.le_of_ble_eq_true rfl) (Nat.le_of_ble_eq_true rfl) tl159 al159 (fun j => by rw [(hZ _ (by omega) (by omega)).1 j]; exact (iniR_z (by decide) j)) dX9_init_168 (fun H hW hS => ?_)
  refine p_putF hB (by decide) hW hS inA9 tyX9 tyX9_ok nmX9 rfl (by decide) rfl 33 (by decide) (by omega) tl139 wd5_112 rfl rfl rfl hin (ty := .array .int) (by decide +kernel) rfl rfl (by decide) dX9_init_170 (fun H locs hW hS => ?_)
  refine lv_aload_n hx hb dX9_init_173 rfl (lv_at hl 0 rfl) ?_
  refine lv_bipush (v := (49 : Int32)) hx hb dX9_init_174 (by decide) ?_
  refine p_size (X := G.2.2.1 0 + 160) (by omega) (p_low hL hW) (fun hsz => ?_)
  refine p_arrI (N := 49) hB hL hW hsz hS (by decide) (by decide) (by decide) (Nat.le_of_ble_eq_true rfl) (Nat.le_of_ble_eq_true rfl) tl160 al160 (fun j => by rw [(hZ _ (by omega) (by omega)).1 j]; exact (iniR_z (by decide) j)) dX9_init_176 (fun H hW hS => ?_)
  refine p_putF hB (by decide) hW hS inA9 tyX9 tyX9_ok nmX9 rfl (by decide) rfl 34 (by decide) (by omega) tl139 wd5_113 rfl rfl rfl hin (ty := .array .int) (by decide +kernel) rfl rfl (by decide) dX9_init_178 (fun H locs hW hS => ?_)
  refine lv_aload_n hx hb dX9_init_181 rfl (lv_at hl 0 rfl) ?_
  refine lv_bipush (v := (49 : Int32)) hx hb dX9_init_182 (by decide) ?_
  refine p_size (X := G.2.2.1 0 + 161) (by omega) (p_low hL hW) (fun hsz => ?_)
  refine p_arrI (N := 49) hB hL hW hsz hS (by decide) (by decide) (by decide) (Nat.le_of_ble_eq_true rfl) (Nat.le_of_ble_eq_true rfl) tl161 al161 (fun j => by rw [(hZ _ (by omega) (by omega)).1 j]; exact (iniR_z (by decide) j)) dX9_init_184 (fun H hW hS => ?_)
  refine p_putF hB (by decide) hW hS inA9 tyX9 tyX9_ok nmX9 rfl (by decide) rfl 35 (by decide) (by omega) tl139 wd5_114 rfl rfl rfl hin (ty := .array .int) (by decide +kernel) rfl rfl (by decide) dX9_init_186 (fun H locs hW hS => ?_)
  refine lv_aload_n hx hb dX9_init_189 rfl (lv_at hl 0 rfl) ?_
  refine lv_iconst (v := (3 : Int32)) hx hb dX9_init_190 (by decide) ?_
  refine p_size (X := G.2.2.1 0 + 162) (by omega) (p_low hL hW) (fun hsz => ?_)
  refine p_arrI (N := 3) hB hL hW hsz hS (by decide) (by decide) (by decide) (Nat.le_of_ble_eq_true rfl) (Nat.le_of_ble_eq_true rfl) tl162 al162 (fun j => by rw [(hZ _ (by omega) (by omega)).1 j]; exact (iniR_z (by decide) j)) dX9_init_191 (fun H hW hS => ?_)
  refine p_putF hB (by decide) hW hS inA9 tyX9 tyX9_ok nmX9 rfl (by decide) rfl 40 (by decide) (by omega) tl139 wd5_119 rfl rfl rfl hin (ty := .array .int) (by decide +kernel) rfl rfl (by decide) dX9_init_193 (fun H locs hW hS => ?_)
  refine lv_aload_n hx hb dX9_init_196 rfl (lv_at hl 0 rfl) ?_
  refine lv_sipush (v := (3250 : Int32)) hx hb dX9_init_197 (by decide) ?_
  refine p_size (X := G.2.2.1 0 + 163) (by omega) (p_low hL hW) (fun hsz => ?_)
  refine p_arrI (N := 3250) hB hL hW hsz hS (by decide) (by decide) (by decide) (Nat.le_of_ble_eq_true rfl) (Nat.le_of_ble_eq_true rfl) tl163 al163 (fun j => by rw [(hZ _ (by omega) (by omega)).1 j]; exact (iniR_z (by decide) j)) dX9_init_200 (fun H hW hS => ?_)
  refine p_putF hB (by decide) hW hS inA9 tyX9 tyX9_ok nmX9 rfl (by decide) rfl 41 (by decide) (by omega) tl139 wd5_120 rfl rfl rfl hin (ty := .array .int) (by decide +kernel) rfl rfl (by decide) dX9_init_202 (fun H locs hW hS => ?_)
  refine lv_aload_n hx hb dX9_init_205 rfl (lv_at hl 0 rfl) ?_
  refine lv_sipush (v := (161 : Int32)) hx hb dX9_init_206 (by decide) ?_
  refine p_size (X := G.2.2.1 0 + 164) (by omega) (p_low hL hW) (fun hsz => ?_)
  refine p_arrF (N := 161) hB hL hW hsz hS (by decide) (by decide) (by decide) (Nat.le_of_ble_eq_true rfl) (Nat.le_of_ble_eq_true rfl) tl164 al164 ((hZ _ (by omega) (by omega)).2.2) dX9_init_209 (fun H hW hS => ?_)
  refine p_putF hB (by decide) hW hS inA9 tyX9 tyX9_ok nmX9 rfl (by decide) rfl 47 (by decide) (by omega) tl139 wd5_126 rfl rfl rfl hin (ty := .array .float) (by decide +kernel) rfl rfl (by decide) dX9_init_211 (fun H locs hW hS => ?_)
  refine lv_aload_n hx hb dX9_init_214 rfl (lv_at hl 0 rfl) ?_
  refine lv_sipush (v := (161 : Int32)) hx hb dX9_init_215 (by decide) ?_
  refine p_size (X := G.2.2.1 0 + 165) (by omega) (p_low hL hW) (fun hsz => ?_)
  refine p_arrF (N := 161) hB hL hW hsz hS (by decide) (by decide) (by decide) (Nat.le_of_ble_eq_true rfl) (Nat.le_of_ble_eq_true rfl) tl165 al165 ((hZ _ (by omega) (by omega)).2.2) dX9_init_218 (fun H hW hS => ?_)
  refine p_putF hB (by decide) hW hS inA9 tyX9 tyX9_ok nmX9 rfl (by decide) rfl 48 (by decide) (by omega) tl139 wd5_127 rfl rfl rfl hin (ty := .array .float) (by decide +kernel) rfl rfl (by decide) dX9_init_220 (fun H locs hW hS => ?_)
  refine lv_aload_n hx hb dX9_init_223 rfl (lv_at hl 0 rfl) ?_
  refine lv_sipush (v := (161 : Int32)) hx hb dX9_init_224 (by decide) ?_
  refine p_size (X := G.2.2.1 0 + 166) (by omega) (p_low hL hW) (fun hsz => ?_)
  refine p_arrI (N := 161) hB hL hW hsz hS (by decide) (by decide) (by decide) (Nat.le_of_ble_eq_true rfl) (Nat.le_of_ble_eq_true rfl) tl166 al166 (fun j => by rw [(hZ _ (by omega) (by omega)).1 j]; exact (iniR_z (by decide) j)) dX9_init_227 (fun H hW hS => ?_)
  refine p_putF hB (by decide) hW hS inA9 tyX9 tyX9_ok nmX9 rfl (by decide) rfl 49 (by decide) (by omega) tl139 wd5_128 rfl rfl rfl hin (ty := .array .int) (by decide +kernel) rfl rfl (by decide) dX9_init_229 (fun H locs hW hS => ?_)
  refine lv_aload_n hx hb dX9_init_232 rfl (lv_at hl 0 rfl) ?_
  refine lv_sipush (v := (161 : Int32)) hx hb dX9_init_233 (by decide) ?_
  refine p_size (X := G.2.2.1 0 + 167) (by omega) (p_low hL hW) (fun hsz => ?_)
  refine p_arrI (N := 161) hB hL hW hsz hS (by decide) (by decide) (by decide) (Nat.le_of_ble_eq_true rfl) (Nat.le_of_ble_eq_true rfl) tl167 al167 (fun j => by rw [(hZ _ (by omega) (by omega)).1 j]; exact (iniR_z (by decide) j)) dX9_init_236 (fun H hW hS => ?_)
  refine p_putF hB (by decide) hW hS inA9 tyX9 tyX9_ok nmX9 rfl (by decide) rfl 50 (by decide) (by omega) tl139 wd5_129 rfl rfl rfl hin (ty := .array .int) (by decide +kernel) rfl rfl (by decide) dX9_init_238 (fun H locs hW hS => ?_)
  refine lv_aload_n hx hb dX9_init_241 rfl (lv_at hl 0 rfl) ?_
  refine lv_bipush (v := (16 : Int32)) hx hb dX9_init_242 (by decide) ?_
  refine p_size (X := G.2.2.1 0 + 168) (by omega) (p_low hL hW) (fun hsz => ?_)
  refine p_arrI (N := 16) hB hL hW hsz hS (by decide) (by decide) (by decide) (Nat.le_of_ble_eq_true rfl) (Nat.le_of_ble_eq_true rfl) tl168 al168 (fun j => by rw [(hZ _ (by omega) (by omega)).1 j]; exact (iniR_z (by decide) j)) dX9_init_244 (fun H hW hS => ?_)
  refine p_putF hB (by decide) hW hS inA9 tyX9 tyX9_ok nmX9 rfl (by decide) rfl 51 (by decide) (by omega) tl139 wd5_130 rfl rfl rfl hin (ty := .array .int) (by decide +kernel) rfl rfl (by decide) dX9_init_246 (fun H locs hW hS => ?_)
  refine lv_aload_n hx hb dX9_init_249 rfl (lv_at hl 0 rfl) ?_
  refine p_get hB hW inA9 rfl (by decide) rfl 1 (by decide) (by omega) tl139 wd5_80 rfl (v := .ref (G.2.2.1 141)) (by unfold fvP; rw [if_neg (by decide), if_neg (by decide), ru_ne2 (by decide), ru_ne2 (by decide), ru_ne2 (by decide), ru_ne2 (by decide), ru_ne2 (by decide), ru_ne2 (by decide), ru_ne2 (by decide), ru_ne2 (by decide), ru_ne2 (by decide), ru_ne2 (by decide), ru_ne2 (by decide), ru_ne2 (by decide), ru_ne2 (by decide), ru_ne2 (by decide), ru_ne2 (by decide), ru_ne2 (by decide), ru_ne2 (by decide), ru_ne2 (by decide), ru_ne2 (by decide), ru_ne2 (by decide), ru_ne2 (by decide), ru_ne2 (by decide), ru_ne2 (by decide), ru_ne2 (by decide), ru_ne2 (by decide), ru_ne2 (by decide), ru_ne2 (by decide), ru_eq]; rfl) dX9_init_250 ?_
  refine lv_iconst (v := (0 : Int32)) hx hb dX9_init_253 (by decide) ?_
  refine lv_iconst (v := (3 : Int32)) hx hb dX9_init_254 (by decide) ?_
  refine p_iast hB (by decide) hW hS (k := 141) (by omega) tl141 al141 (by decide) dX9_init_255 (fun H locs hW hS => ?_)
  rw [show (0 : Int32).toNatClampNeg = 0 from rfl] at hW
  refine lv_aload_n hx hb dX9_init_256 rfl (lv_at hl 0 rfl) ?_
  refine p_get hB hW inA9 rfl (by decide) rfl 1 (by decide) (by omega) tl139 wd5_80 rfl (v := .ref (G.2.2.1 141)) (by unfold fvP; rw [if_neg (by decide), if_neg (by decide), ru_ne2 (by decide), ru_ne2 (by decide), ru_ne2 (by decide), ru_ne2 (by decide), ru_ne2 (by decide), ru_ne2 (by decide), ru_ne2 (by decide), ru_ne2 (by decide), ru_ne2 (by decide), ru_ne2 (by decide), ru_ne2 (by decide), ru_ne2 (by decide), ru_ne2 (by decide), ru_ne2 (by decide), ru_ne2 (by decide), ru_ne2 (by decide), ru_ne2 (by decide), ru_ne2 (by decide), ru_ne2 (by decide), ru_ne2 (by decide), ru_ne2 (by decide), ru_ne2 (by decide), ru_ne2 (by decide), ru_ne2 (by decide), ru_ne2 (by decide), ru_ne2 (by decide), ru_ne2 (by decide), ru_eq]; rfl) dX9_init_257 ?_
  refine lv_iconst (v := (1 : Int32)) hx hb dX9_init_260 (by decide) ?_
  refine lv_iconst (v := (4 : Int32)) hx hb dX9_init_261 (by decide) ?_
  refine p_iast hB (by decide) hW hS (k := 141) (by omega) tl141 al141 (by decide) dX9_init_262 (fun H locs hW hS => ?_)
  rw [show (1 : Int32).toNatClampNeg = 1 from rfl] at hW
  refine lv_aload_n hx hb dX9_init_263 rfl (lv_at hl 0 rfl) ?_
  refine p_get hB hW inA9 rfl (by decide) rfl 1 (by decide) (by omega) tl139 wd5_80 rfl (v := .ref (G.2.2.1 141)) (by unfold fvP; rw [if_neg (by decide), if_neg (by decide), ru_ne2 (by decide), ru_ne2 (by decide), ru_ne2 (by decide), ru_ne2 (by decide), ru_ne2 (by decide), ru_ne2 (by decide), ru_ne2 (by decide), ru_ne2 (by decide), ru_ne2 (by decide), ru_ne2 (by decide), ru_ne2 (by decide), ru_ne2 (by decide), ru_ne2 (by decide), ru_ne2 (by decide), ru_ne2 (by decide), ru_ne2 (by decide), ru_ne2 (by decide), ru_ne2 (by decide), ru_ne2 (by decide), ru_ne2 (by decide), ru_ne2 (by decide), ru_ne2 (by decide), ru_ne2 (by decide), ru_ne2 (by decide), ru_ne2 (by decide), ru_ne2 (by decide), ru_ne2 (by decide), ru_eq]; rfl) dX9_init_264 ?_
  refine lv_iconst (v := (2 : Int32)) hx hb dX9_init_267 (by decide) ?_
  refine lv_iconst (v := (3 : Int32)) hx hb dX9_init_268 (by decide) ?_
  refine p_iast hB (by decide) hW hS (k := 141) (by omega) tl141 al141 (by decide) dX9_init_269 (fun H locs hW hS => ?_)
  rw [show (2 : Int32).toNatClampNeg = 2 from rfl] at hW
  refine lv_aload_n hx hb dX9_init_270 rfl (lv_at hl 0 rfl) ?_
  refine p_get hB hW inA9 rfl (by decide) rfl 1 (by decide) (by omega) tl139 wd5_80 rfl (v := .ref (G.2.2.1 141)) (by unfold fvP; rw [if_neg (by decide), if_neg (by decide), ru_ne2 (by decide), ru_ne2 (by decide), ru_ne2 (by decide), ru_ne2 (by decide), ru_ne2 (by decide), ru_ne2 (by decide), ru_ne2 (by decide), ru_ne2 (by decide), ru_ne2 (by decide), ru_ne2 (by decide), ru_ne2 (by decide), ru_ne2 (by decide), ru_ne2 (by decide), ru_ne2 (by decide), ru_ne2 (by decide), ru_ne2 (by decide), ru_ne2 (by decide), ru_ne2 (by decide), ru_ne2 (by decide), ru_ne2 (by decide), ru_ne2 (by decide), ru_ne2 (by decide), ru_ne2 (by decide), ru_ne2 (by decide), ru_ne2 (by decide), ru_ne2 (by decide), ru_ne2 (by decide), ru_eq]; rfl) dX9_init_271 ?_
  refine lv_iconst (v := (3 : Int32)) hx hb dX9_init_274 (by decide) ?_
  refine lv_iconst (v := (4 : Int32)) hx hb dX9_init_275 (by decide) ?_
  refine p_iast hB (by decide) hW hS (k := 141) (by omega) tl141 al141 (by decide) dX9_init_276 (fun H locs hW hS => ?_)
  rw [show (3 : Int32).toNatClampNeg = 3 from rfl] at hW
  refine lv_aload_n hx hb dX9_init_277 rfl (lv_at hl 0 rfl) ?_
  refine p_get hB hW inA9 rfl (by decide) rfl 1 (by decide) (by omega) tl139 wd5_80 rfl (v := .ref (G.2.2.1 141)) (by unfold fvP; rw [if_neg (by decide), if_neg (by decide), ru_ne2 (by decide), ru_ne2 (by decide), ru_ne2 (by decide), ru_ne2 (by decide), ru_ne2 (by decide), ru_ne2 (by decide), ru_ne2 (by decide), ru_ne2 (by decide), ru_ne2 (by decide), ru_ne2 (by decide), ru_ne2 (by decide), ru_ne2 (by decide), ru_ne2 (by decide), ru_ne2 (by decide), ru_ne2 (by decide), ru_ne2 (by decide), ru_ne2 (by decide), ru_ne2 (by decide), ru_ne2 (by decide), ru_ne2 (by decide), ru_ne2 (by decide), ru_ne2 (by decide), ru_ne2 (by decide), ru_ne2 (by decide), ru_ne2 (by decide), ru_ne2 (by decide), ru_ne2 (by decide), ru_eq]; rfl) dX9_init_278 ?_
  refine lv_iconst (v := (4 : Int32)) hx hb dX9_init_281 (by decide) ?_
  refine lv_iconst (v := (3 : Int32)) hx hb dX9_init_282 (by decide) ?_
  refine p_iast hB (by decide) hW hS (k := 141) (by omega) tl141 al141 (by decide) dX9_init_283 (fun H locs hW hS => ?_)
  rw [show (4 : Int32).toNatClampNeg = 4 from rfl] at hW
  refine lv_aload_n hx hb dX9_init_284 rfl (lv_at hl 0 rfl) ?_
  refine p_get hB hW inA9 rfl (by decide) rfl 1 (by decide) (by omega) tl139 wd5_80 rfl (v := .ref (G.2.2.1 141)) (by unfold fvP; rw [if_neg (by decide), if_neg (by decide), ru_ne2 (by decide), ru_ne2 (by decide), ru_ne2 (by decide), ru_ne2 (by decide), ru_ne2 (by decide), ru_ne2 (by decide), ru_ne2 (by decide), ru_ne2 (by decide), ru_ne2 (by decide), ru_ne2 (by decide), ru_ne2 (by decide), ru_ne2 (by decide), ru_ne2 (by decide), ru_ne2 (by decide), ru_ne2 (by decide), ru_ne2 (by decide), ru_ne2 (by decide), ru_ne2 (by decide), ru_ne2 (by decide), ru_ne2 (by decide), ru_ne2 (by decide), ru_ne2 (by decide), ru_ne2 (by decide), ru_ne2 (by decide), ru_ne2 (by decide), ru_ne2 (by decide), ru_ne2 (by decide), ru_eq]; rfl) dX9_init_285 ?_
  refine lv_iconst (v := (5 : Int32)) hx hb dX9_init_288 (by decide) ?_
  refine lv_iconst (v := (2 : Int32)) hx hb dX9_init_289 (by decide) ?_
  refine p_iast hB (by decide) hW hS (k := 141) (by omega) tl141 al141 (by decide) dX9_init_290 (fun H locs hW hS => ?_)
  rw [show (5 : Int32).toNatClampNeg = 5 from rfl] at hW
  refine lv_aload_n hx hb dX9_init_291 rfl (lv_at hl 0 rfl) ?_
  refine p_get hB hW inA9 rfl (by decide) rfl 1 (by decide) (by omega) tl139 wd5_80 rfl (v := .ref (G.2.2.1 141)) (by unfold fvP; rw [if_neg (by decide), if_neg (by decide), ru_ne2 (by decide), ru_ne2 (by decide), ru_ne2 (by decide), ru_ne2 (by decide), ru_ne2 (by decide), ru_ne2 (by decide), ru_ne2 (by decide), ru_ne2 (by decide), ru_ne2 (by decide), ru_ne2 (by decide), ru_ne2 (by decide), ru_ne2 (by decide), ru_ne2 (by decide), ru_ne2 (by decide), ru_ne2 (by decide), ru_ne2 (by decide), ru_ne2 (by decide), ru_ne2 (by decide), ru_ne2 (by decide), ru_ne2 (by decide), ru_ne2 (by decide), ru_ne2 (by decide), ru_ne2 (by decide), ru_ne2 (by decide), ru_ne2 (by decide), ru_ne2 (by decide), ru_ne2 (by decide), ru_eq]; rfl) dX9_init_292 ?_
  refine lv_bipush (v := (6 : Int32)) hx hb dX9_init_295 (by decide) ?_
  refine lv_iconst (v := (4 : Int32)) hx hb dX9_init_297 (by decide) ?_
  refine p_iast hB (by decide) hW hS (k := 141) (by omega) tl141 al141 (by decide) dX9_init_298 (fun H locs hW hS => ?_)
  rw [show (6 : Int32).toNatClampNeg = 6 from rfl] at hW
  refine lv_aload_n hx hb dX9_init_299 rfl (lv_at hl 0 rfl) ?_
  refine p_get hB hW inA9 rfl (by decide) rfl 1 (by decide) (by omega) tl139 wd5_80 rfl (v := .ref (G.2.2.1 141)) (by unfold fvP; rw [if_neg (by decide), if_neg (by decide), ru_ne2 (by decide), ru_ne2 (by decide), ru_ne2 (by decide), ru_ne2 (by decide), ru_ne2 (by decide), ru_ne2 (by decide), ru_ne2 (by decide), ru_ne2 (by decide), ru_ne2 (by decide), ru_ne2 (by decide), ru_ne2 (by decide), ru_ne2 (by decide), ru_ne2 (by decide), ru_ne2 (by decide), ru_ne2 (by decide), ru_ne2 (by decide), ru_ne2 (by decide), ru_ne2 (by decide), ru_ne2 (by decide), ru_ne2 (by decide), ru_ne2 (by decide), ru_ne2 (by decide), ru_ne2 (by decide), ru_ne2 (by decide), ru_ne2 (by decide), ru_ne2 (by decide), ru_ne2 (by decide), ru_eq]; rfl) dX9_init_300 ?_
  refine lv_bipush (v := (7 : Int32)) hx hb dX9_init_303 (by decide) ?_
  refine lv_iconst (v := (4 : Int32)) hx hb dX9_init_305 (by decide) ?_
  refine p_iast hB (by decide) hW hS (k := 141) (by omega) tl141 al141 (by decide) dX9_init_306 (fun H locs hW hS => ?_)
  rw [show (7 : Int32).toNatClampNeg = 7 from rfl] at hW
  refine lv_aload_n hx hb dX9_init_307 rfl (lv_at hl 0 rfl) ?_
  refine lv_bipush (v := (30 : Int32)) hx hb dX9_init_308 (by decide) ?_
  refine pp9_11 hB (by decide) hW hS (by omega) tl139 wd5_90 dX9_init_310 (fun H locs hW hS => ?_)
  refine lv_aload_n hx hb dX9_init_313 rfl (lv_at hl 0 rfl) ?_
  refine lv_iconst (v := (3 : Int32)) hx hb dX9_init_314 (by decide) ?_
  refine pp9_12 hB (by decide) hW hS (by omega) tl139 wd5_91 dX9_init_315 (fun H locs hW hS => ?_)
  refine lv_aload_n hx hb dX9_init_318 rfl (lv_at hl 0 rfl) ?_
  refine lv_iconst (v := (2 : Int32)) hx hb dX9_init_319 (by decide) ?_
  refine pp9_13 hB (by decide) hW hS (by omega) tl139 wd5_92 dX9_init_320 (fun H locs hW hS => ?_)
  refine lv_aload_n hx hb dX9_init_323 rfl (lv_at hl 0 rfl) ?_
  refine lv_iconst (v := (1 : Int32)) hx hb dX9_init_324 (by decide) ?_
  refine pp9_14 hB (by decide) hW hS (by omega) tl139 wd5_93 dX9_init_325 (fun H locs hW hS => ?_)
  refine lv_aload_n hx hb dX9_init_328 rfl (lv_at hl 0 rfl) ?_
  refine lv_bipush (v := (12 : Int32)) hx hb dX9_init_329 (by decide) ?_
  refine pp9_15 hB (by decide) hW hS (by omega) tl139 wd5_94 dX9_init_331 (fun H locs hW hS => ?_)
  refine lv_aload_n hx hb dX9_init_334 rfl (lv_at hl 0 rfl) ?_
  refine lv_bipush (v := (50 : Int32)) hx hb dX9_init_335 (by decide) ?_
  refine pp9_16 hB (by decide) hW hS (by omega) tl139 wd5_95 dX9_init_337 (fun H locs hW hS => ?_)
  refine lv_aload_n hx hb dX9_init_340 rfl (lv_at hl 0 rfl) ?_
  refine lv_iconst (v := (1 : Int32)) hx hb dX9_init_341 (by decide) ?_
  refine pp9_17 hB (by decide) hW hS (by omega) tl139 wd5_96 dX9_init_342 (fun H locs hW hS => ?_)
  refine p_size (X := G.2.2.1 0 + 169) (by omega) (p_low hL hW) (fun hsz => ?_)
  have hW := p_end (k := 139) (R := R) hW (fun a ha => by rw [ru_ne (by omega), ru_ne (by omega), ru_ne (by omega), ru_ne (by omega), ru_ne (by omega), ru_ne (by omega), ru_ne (by omega), ru_ne (by omega), ru_ne (by omega), ru_ne (by omega), ru_ne (by omega), ru_ne (by omega), ru_ne (by omega), ru_ne (by omega), ru_ne (by omega), ru_ne (by omega), ru_ne (by omega), ru_ne (by omega), ru_ne (by omega), ru_ne (by omega), ru_ne (by omega), ru_ne (by omega), ru_ne (by omega), ru_ne (by omega), ru_ne (by omega), ru_ne (by omega), ru_ne (by omega), ru_ne (by omega), ru_ne (by omega)]) (fun a h1 h2 b hb => ?_)
  · exact p_ret hB hX hW hsz hS hr hlk rfl rfl dX9_init_345
  rcases (show a = 139 ∨ a = 140 ∨ a = 141 ∨ a = 142 ∨ a = 143 ∨ a = 144 ∨ a = 145 ∨ a = 146 ∨ a = 147 ∨ a = 148 ∨ a = 149 ∨ a = 150 ∨ a = 151 ∨ a = 152 ∨ a = 153 ∨ a = 154 ∨ a = 155 ∨ a = 156 ∨ a = 157 ∨ a = 158 ∨ a = 159 ∨ a = 160 ∨ a = 161 ∨ a = 162 ∨ a = 163 ∨ a = 164 ∨ a = 165 ∨ a = 166 ∨ a = 167 ∨ a = 168 by omega) with rfl | rfl | rfl | rfl | rfl | rfl | rfl | rfl | rfl | rfl | rfl | rfl | rfl | rfl | rfl | rfl | rfl | rfl | rfl | rfl | rfl | rfl | rfl | rfl | rfl | rfl | rfl | rfl | rfl | rfl
  · have hc := rsl_o tl139.2 (by decide) hb
    rcases rs_9 b hc with rfl | rfl | rfl | rfl | rfl | rfl | rfl | rfl | rfl | rfl | rfl | rfl | rfl | rfl | rfl | rfl | rfl | rfl | rfl | rfl | rfl | rfl | rfl | rfl | rfl | rfl | rfl | rfl | rfl
    · rw [ru_ne2 (by decide), ru_ne2 (by decide), ru_ne2 (by decide), ru_ne2 (by decide), ru_ne2 (by decide), ru_ne2 (by decide), ru_ne2 (by decide), ru_ne2 (by decide), ru_ne2 (by decide), ru_ne2 (by decide), ru_ne2 (by decide), ru_ne2 (by decide), ru_ne2 (by decide), ru_ne2 (by decide), ru_ne2 (by decide), ru_ne2 (by decide), ru_ne2 (by decide), ru_ne2 (by decide), ru_ne2 (by decide), ru_ne2 (by decide), ru_ne2 (by decide), ru_ne2 (by decide), ru_ne2 (by decide), ru_ne2 (by decide), ru_ne2 (by decide), ru_ne2 (by decide), ru_ne2 (by decide), ru_ne2 (by decide), ru_eq]; unfold fin; rw [tl139.2]; rfl
    · rw [ru_ne2 (by decide), ru_ne2 (by decide), ru_ne2 (by decide), ru_ne2 (by decide), ru_ne2 (by decide), ru_ne2 (by decide), ru_ne2 (by decide), ru_ne2 (by decide), ru_ne2 (by decide), ru_ne2 (by decide), ru_ne2 (by decide), ru_ne2 (by decide), ru_ne2 (by decide), ru_ne2 (by decide), ru_ne2 (by decide), ru_ne2 (by decide), ru_ne2 (by decide), ru_ne2 (by decide), ru_ne2 (by decide), ru_ne2 (by decide), ru_ne2 (by decide), ru_ne2 (by decide), ru_ne2 (by decide), ru_ne2 (by decide), ru_ne2 (by decide), ru_ne2 (by decide), ru_ne2 (by decide), ru_eq]; unfold fin; rw [tl139.2]; rfl
    · rw [ru_ne2 (by decide), ru_ne2 (by decide), ru_ne2 (by decide), ru_ne2 (by decide), ru_ne2 (by decide), ru_ne2 (by decide), ru_ne2 (by decide), ru_ne2 (by decide), ru_ne2 (by decide), ru_ne2 (by decide), ru_ne2 (by decide), ru_ne2 (by decide), ru_ne2 (by decide), ru_ne2 (by decide), ru_ne2 (by decide), ru_ne2 (by decide), ru_ne2 (by decide), ru_ne2 (by decide), ru_ne2 (by decide), ru_ne2 (by decide), ru_ne2 (by decide), ru_ne2 (by decide), ru_ne2 (by decide), ru_ne2 (by decide), ru_ne2 (by decide), ru_ne2 (by decide), ru_eq]; unfold fin; rw [tl139.2]; rfl
    · rw [ru_ne2 (by decide), ru_ne2 (by decide), ru_ne2 (by decide), ru_ne2 (by decide), ru_ne2 (by decide), ru_ne2 (by decide), ru_ne2 (by decide), ru_ne2 (by decide), ru_ne2 (by decide), ru_ne2 (by decide), ru_ne2 (by decide), ru_ne2 (by decide), ru_ne2 (by decide), ru_ne2 (by decide), ru_ne2 (by decide), ru_ne2 (by decide), ru_ne2 (by decide), ru_ne2 (by decide), ru_ne2 (by decide), ru_ne2 (by decide), ru_ne2 (by decide), ru_ne2 (by decide), ru_ne2 (by decide), ru_ne2 (by decide), ru_ne2 (by decide), ru_eq]; unfold fin; rw [tl139.2]; rfl
    · rw [ru_ne2 (by decide), ru_ne2 (by decide), ru_ne2 (by decide), ru_ne2 (by decide), ru_ne2 (by decide), ru_ne2 (by decide), ru_ne2 (by decide), ru_ne2 (by decide), ru_ne2 (by decide), ru_ne2 (by decide), ru_ne2 (by decide), ru_ne2 (by decide), ru_ne2 (by decide), ru_ne2 (by decide), ru_ne2 (by decide), ru_ne2 (by decide), ru_ne2 (by decide), ru_ne2 (by decide), ru_ne2 (by decide), ru_ne2 (by decide), ru_ne2 (by decide), ru_ne2 (by decide), ru_ne2 (by decide), ru_ne2 (by decide), ru_eq]; unfold fin; rw [tl139.2]; rfl
    · rw [ru_ne2 (by decide), ru_ne2 (by decide), ru_ne2 (by decide), ru_ne2 (by decide), ru_ne2 (by decide), ru_ne2 (by decide), ru_ne2 (by decide), ru_ne2 (by decide), ru_ne2 (by decide), ru_ne2 (by decide), ru_ne2 (by decide), ru_ne2 (by decide), ru_ne2 (by decide), ru_ne2 (by decide), ru_ne2 (by decide), ru_ne2 (by decide), ru_ne2 (by decide), ru_ne2 (by decide), ru_ne2 (by decide), ru_ne2 (by decide), ru_ne2 (by decide), ru_ne2 (by decide), ru_ne2 (by decide), ru_eq]; unfold fin; rw [tl139.2]; rfl
    · rw [ru_ne2 (by decide), ru_ne2 (by decide), ru_ne2 (by decide), ru_ne2 (by decide), ru_ne2 (by decide), ru_ne2 (by decide), ru_ne2 (by decide), ru_ne2 (by decide), ru_ne2 (by decide), ru_ne2 (by decide), ru_ne2 (by decide), ru_ne2 (by decide), ru_ne2 (by decide), ru_ne2 (by decide), ru_ne2 (by decide), ru_ne2 (by decide), ru_ne2 (by decide), ru_ne2 (by decide), ru_ne2 (by decide), ru_ne2 (by decide), ru_ne2 (by decide), ru_ne2 (by decide), ru_eq]; unfold fin; rw [tl139.2]; rfl
    · rw [ru_ne2 (by decide), ru_ne2 (by decide), ru_ne2 (by decide), ru_ne2 (by decide), ru_ne2 (by decide), ru_ne2 (by decide), ru_ne2 (by decide), ru_ne2 (by decide), ru_ne2 (by decide), ru_ne2 (by decide), ru_ne2 (by decide), ru_ne2 (by decide), ru_ne2 (by decide), ru_ne2 (by decide), ru_ne2 (by decide), ru_ne2 (by decide), ru_ne2 (by decide), ru_ne2 (by decide), ru_ne2 (by decide), ru_ne2 (by decide), ru_ne2 (by decide), ru_eq]; unfold fin; rw [tl139.2]; rfl
    · rw [ru_ne2 (by decide), ru_ne2 (by decide), ru_ne2 (by decide), ru_ne2 (by decide), ru_ne2 (by decide), ru_ne2 (by decide), ru_ne2 (by decide), ru_ne2 (by decide), ru_ne2 (by decide), ru_ne2 (by decide), ru_ne2 (by decide), ru_ne2 (by decide), ru_ne2 (by decide), ru_ne2 (by decide), ru_ne2 (by decide), ru_ne2 (by decide), ru_ne2 (by decide), ru_ne2 (by decide), ru_ne2 (by decide), ru_ne2 (by decide), ru_eq]; unfold fin; rw [tl139.2]; rfl
    · rw [ru_ne2 (by decide), ru_ne2 (by decide), ru_ne2 (by decide), ru_ne2 (by decide), ru_ne2 (by decide), ru_ne2 (by decide), ru_ne2 (by decide), ru_ne2 (by decide), ru_ne2 (by decide), ru_ne2 (by decide), ru_ne2 (by decide), ru_ne2 (by decide), ru_ne2 (by decide), ru_ne2 (by decide), ru_ne2 (by decide), ru_ne2 (by decide), ru_ne2 (by decide), ru_ne2 (by decide), ru_ne2 (by decide), ru_eq]; unfold fin; rw [tl139.2]; rfl
    · rw [ru_ne2 (by decide), ru_ne2 (by decide), ru_ne2 (by decide), ru_ne2 (by decide), ru_ne2 (by decide), ru_ne2 (by decide), ru_ne2 (by decide), ru_ne2 (by decide), ru_ne2 (by decide), ru_ne2 (by decide), ru_ne2 (by decide), ru_ne2 (by decide), ru_ne2 (by decide), ru_ne2 (by decide), ru_ne2 (by decide), ru_ne2 (by decide), ru_ne2 (by decide), ru_ne2 (by decide), ru_eq]; unfold fin; rw [tl139.2]; rfl
    · rw [ru_ne2 (by decide), ru_ne2 (by decide), ru_ne2 (by decide), ru_ne2 (by decide), ru_ne2 (by decide), ru_ne2 (by decide), ru_ne2 (by decide), ru_ne2 (by decide), ru_ne2 (by decide), ru_ne2 (by decide), ru_ne2 (by decide), ru_ne2 (by decide), ru_ne2 (by decide), ru_ne2 (by decide), ru_ne2 (by decide), ru_ne2 (by decide), ru_ne2 (by decide), ru_eq]; unfold fin; rw [tl139.2]; rfl
    · rw [ru_ne2 (by decide), ru_ne2 (by decide), ru_ne2 (by decide), ru_ne2 (by decide), ru_ne2 (by decide), ru_ne2 (by decide), ru_ne2 (by decide), ru_ne2 (by decide), ru_ne2 (by decide), ru_ne2 (by decide), ru_ne2 (by decide), ru_ne2 (by decide), ru_ne2 (by decide), ru_ne2 (by decide), ru_ne2 (by decide), ru_ne2 (by decide), ru_eq]; unfold fin; rw [tl139.2]; rfl
    · rw [ru_ne2 (by decide), ru_ne2 (by decide), ru_ne2 (by decide), ru_ne2 (by decide), ru_ne2 (by decide), ru_ne2 (by decide), ru_ne2 (by decide), ru_ne2 (by decide), ru_ne2 (by decide), ru_ne2 (by decide), ru_ne2 (by decide), ru_ne2 (by decide), ru_ne2 (by decide), ru_ne2 (by decide), ru_ne2 (by decide), ru_eq]; unfold fin; rw [tl139.2]; rfl
    · rw [ru_ne2 (by decide), ru_ne2 (by decide), ru_ne2 (by decide), ru_ne2 (by decide), ru_ne2 (by decide), ru_ne2 (by decide), ru_ne2 (by decide), ru_ne2 (by decide), ru_ne2 (by decide), ru_ne2 (by decide), ru_ne2 (by decide), ru_ne2 (by decide), ru_ne2 (by decide), ru_ne2 (by decide), ru_eq]; unfold fin; rw [tl139.2]; rfl
    · rw [ru_ne2 (by decide), ru_ne2 (by decide), ru_ne2 (by decide), ru_ne2 (by decide), ru_ne2 (by decide), ru_ne2 (by decide), ru_ne2 (by decide), ru_ne2 (by decide), ru_ne2 (by decide), ru_ne2 (by decide), ru_ne2 (by decide), ru_ne2 (by decide), ru_ne2 (by decide), ru_eq]; unfold fin; rw [tl139.2]; rfl
    · rw [ru_ne2 (by decide), ru_ne2 (by decide), ru_ne2 (by decide), ru_ne2 (by decide), ru_ne2 (by decide), ru_ne2 (by decide), ru_ne2 (by decide), ru_ne2 (by decide), ru_ne2 (by decide), ru_ne2 (by decide), ru_ne2 (by decide), ru_ne2 (by decide), ru_eq]; unfold fin; rw [tl139.2]; rfl
    · rw [ru_ne2 (by decide), ru_ne2 (by decide), ru_ne2 (by decide), ru_ne2 (by decide), ru_ne2 (by decide), ru_ne2 (by decide), ru_ne2 (by decide), ru_ne2 (by decide), ru_ne2 (by decide), ru_ne2 (by decide), ru_ne2 (by decide), ru_eq]; unfold fin; rw [tl139.2]; rfl
    · rw [ru_ne2 (by decide), ru_ne2 (by decide), ru_ne2 (by decide), ru_ne2 (by decide), ru_ne2 (by decide), ru_ne2 (by decide), ru_ne2 (by decide), ru_ne2 (by decide), ru_ne2 (by decide), ru_ne2 (by decide), ru_eq]; unfold fin; rw [tl139.2]; rfl
    · rw [ru_ne2 (by decide), ru_ne2 (by decide), ru_ne2 (by decide), ru_ne2 (by decide), ru_ne2 (by decide), ru_ne2 (by decide), ru_ne2 (by decide), ru_ne2 (by decide), ru_ne2 (by decide), ru_eq]; unfold fin; rw [tl139.2]; rfl
    · rw [ru_ne2 (by decide), ru_ne2 (by decide), ru_ne2 (by decide), ru_ne2 (by decide), ru_ne2 (by decide), ru_ne2 (by decide), ru_ne2 (by decide), ru_ne2 (by decide), ru_eq]; unfold fin; rw [tl139.2]; rfl
    · rw [ru_ne2 (by decide), ru_ne2 (by decide), ru_ne2 (by decide), ru_ne2 (by decide), ru_ne2 (by decide), ru_ne2 (by decide), ru_ne2 (by decide), ru_eq]; unfold fin; rw [tl139.2]; rfl
    · rw [ru_ne2 (by decide), ru_ne2 (by decide), ru_ne2 (by decide), ru_ne2 (by decide), ru_ne2 (by decide), ru_ne2 (by decide), ru_eq]; unfold fin; rw [tl139.2]; rfl
    · rw [ru_ne2 (by decide), ru_ne2 (by decide), ru_ne2 (by decide), ru_ne2 (by decide), ru_ne2 (by decide), ru_eq]; unfold fin; rw [tl139.2]; rfl
    · rw [ru_ne2 (by decide), ru_ne2 (by decide), ru_ne2 (by decide), ru_ne2 (by decide), ru_eq]; unfold fin; rw [tl139.2]; rfl
    · rw [ru_ne2 (by decide), ru_ne2 (by decide), ru_ne2 (by decide), ru_eq]; unfold fin; rw [tl139.2]; rfl
    · rw [ru_ne2 (by decide), ru_ne2 (by decide), ru_eq]; unfold fin; rw [tl139.2]; rfl
    · rw [ru_ne2 (by decide), ru_eq]; unfold fin; rw [tl139.2]; rfl
    · rw [ru_eq]; unfold fin; rw [tl139.2]; rfl
  · exact (rsl_no (Or.inl tl140.2) hb).elim
  · exact (rsl_no (Or.inl tl141.2) hb).elim
  · exact (rsl_no (Or.inl tl142.2) hb).elim
  · exact (rsl_no (Or.inl tl143.2) hb).elim
  · exact (rsl_no (Or.inl tl144.2) hb).elim
  · exact (rsl_no (Or.inl tl145.2) hb).elim
  · exact (rsl_no (Or.inl tl146.2) hb).elim
  · exact (rsl_no (Or.inl tl147.2) hb).elim
  · exact (rsl_no (Or.inl tl148.2) hb).elim
  · exact (rsl_no (Or.inl tl149.2) hb).elim
  · exact (rsl_no (Or.inl tl150.2) hb).elim
  · exact (rsl_no (Or.inl tl151.2) hb).elim
  · exact (rsl_no (Or.inl tl152.2) hb).elim
  · exact (rsl_no (Or.inr (Or.inr tl153.2)) hb).elim
  · exact (rsl_no (Or.inl tl154.2) hb).elim
  · exact (rsl_no (Or.inl tl155.2) hb).elim
  · exact (rsl_no (Or.inl tl156.2) hb).elim
  · exact (rsl_no (Or.inl tl157.2) hb).elim
  · exact (rsl_no (Or.inl tl158.2) hb).elim
  · exact (rsl_no (Or.inl tl159.2) hb).elim
  · exact (rsl_no (Or.inl tl160.2) hb).elim
  · exact (rsl_no (Or.inl tl161.2) hb).elim
  · exact (rsl_no (Or.inl tl162.2) hb).elim
  · exact (rsl_no (Or.inl tl163.2) hb).elim
  · exact (rsl_no (Or.inr (Or.inr tl164.2)) hb).elim
  · exact (rsl_no (Or.inr (Or.inr tl165.2)) hb).elim
  · exact (rsl_no (Or.inl tl166.2) hb).elim
  · exact (rsl_no (Or.inl tl167.2) hb).elim
  · exact (rsl_no (Or.inl tl168.2) hb).elim
