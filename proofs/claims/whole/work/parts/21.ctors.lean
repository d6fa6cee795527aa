/-- the numbers that a paragraph begins with -/
def pin (M : Mem) (k : Nat) : Mem := (si (si (si (si (si (si (si M k 3 (30 : Int32)) k 4 (3 : Int32)) k 5 (2 : Int32)) k 6 (1 : Int32)) k 7 (12 : Int32)) k 8 (50 : Int32)) k 9 (1 : Int32))
theorem iniR_z {i : Nat} (h : (shp (i - 1)).1 ≠ 3) (j : Nat) : iniR i j = 0 := by unfold iniR; rw [if_neg (fun q => h q.2.2)]
theorem iniR_w {k j : Nat} (h : isT 3 k) (hj : j < 8) : Value.int (iniR (k + 1) j) = fwV j := by
  unfold iniR fwV; rw [if_pos ⟨(rf3_0 h).2, Nat.succ_pos _, h.2⟩]
theorem cls_I {p : Program} {s : State} {m : MethodId} {args : Array Value} {c : Code} {cc : ByteArray} {nL : Nat} {own : String} {G : GG} (hB : BX p s m args c cc nL own G) : s.vm.findClass "[I" = some (G.2.1 0) := (hB.k.2 0 _ rfl).2
theorem nf_0 {ad : Nat → Nat} {R : RR} {M : Mem} {n : Nat} (h0 : ∀ j, gi M n j = 0) (h1 : ∀ j, gf M n j = 0) : ∀ j, j < 4 → defaultValue (tyX0 j) = vp_V (fvsP ad (rz R n) M n (fcode 0)) j := by
  intro j hj
  rw [vpV_fvsP (cs := fcode 0) hj]
  rcases (show j = 0 ∨ j = 1 ∨ j = 2 ∨ j = 3 by omega) with rfl | rfl | rfl | rfl <;> first | exact (congrArg Value.int (h0 _)).symm | exact (congrArg Value.float (h1 _)).symm | (unfold fvP rz; rw [if_pos rfl]; rfl)
theorem rs_0 (b : Nat) (h : 2 ≤ (fcode 0).getD b 0) : b = 0 ∨ b = 1 ∨ b = 2 := by
  rcases Nat.lt_or_ge b 4 with q | q
  · exact (by decide : ∀ b, b < 4 → 2 ≤ (fcode 0).getD b 0 → b = 0 ∨ b = 1 ∨ b = 2) b q h
  · rw [List.getD_eq_getElem?_getD, List.getElem?_eq_none (show (fcode 0).length ≤ b from q)] at h; exact absurd h (by decide)
theorem nf_1 {ad : Nat → Nat} {R : RR} {M : Mem} {n : Nat} (h0 : ∀ j, gi M n j = 0) (h1 : ∀ j, gf M n j = 0) : ∀ j, j < 3 → defaultValue (tyX1 j) = vp_V (fvsP ad (rz R n) M n (fcode 1)) j := by
  intro j hj
  rw [vpV_fvsP (cs := fcode 1) hj]
  rcases (show j = 0 ∨ j = 1 ∨ j = 2 by omega) with rfl | rfl | rfl <;> first | exact (congrArg Value.int (h0 _)).symm | exact (congrArg Value.float (h1 _)).symm | (unfold fvP rz; rw [if_pos rfl]; rfl)
theorem rs_1 (b : Nat) (h : 2 ≤ (fcode 1).getD b 0) : b = 0 := by
  rcases Nat.lt_or_ge b 3 with q | q
  · exact (by decide : ∀ b, b < 3 → 2 ≤ (fcode 1).getD b 0 → b = 0) b q h
  · rw [List.getD_eq_getElem?_getD, List.getElem?_eq_none (show (fcode 1).length ≤ b from q)] at h; exact absurd h (by decide)
theorem nf_2 {ad : Nat → Nat} {R : RR} {M : Mem} {n : Nat} (h0 : ∀ j, gi M n j = 0) (h1 : ∀ j, gf M n j = 0) : ∀ j, j < 18 → defaultValue (tyX2 j) = vp_V (fvsP ad (rz R n) M n (fcode 2)) j := by
  intro j hj
  rw [vpV_fvsP (cs := fcode 2) hj]
  rcases (show j = 0 ∨ j = 1 ∨ j = 2 ∨ j = 3 ∨ j = 4 ∨ j = 5 ∨ j = 6 ∨ j = 7 ∨ j = 8 ∨ j = 9 ∨ j = 10 ∨ j = 11 ∨ j = 12 ∨ j = 13 ∨ j = 14 ∨ j = 15 ∨ j = 16 ∨ j = 17 by omega) with rfl | rfl | rfl | rfl | rfl | rfl | rfl | rfl | rfl | rfl | rfl | rfl | rfl | rfl | rfl | rfl | rfl | rfl <;> first | exact (congrArg Value.int (h0 _)).symm | exact (congrArg Value.float (h1 _)).symm | (unfold fvP rz; rw [if_pos rfl]; rfl)
theorem rs_2 (b : Nat) (h : 2 ≤ (fcode 2).getD b 0) : b = 0 := by
  rcases Nat.lt_or_ge b 18 with q | q
  · exact (by decide : ∀ b, b < 18 → 2 ≤ (fcode 2).getD b 0 → b = 0) b q h
  · rw [List.getD_eq_getElem?_getD, List.getElem?_eq_none (show (fcode 2).length ≤ b from q)] at h; exact absurd h (by decide)
theorem nf_3 {ad : Nat → Nat} {R : RR} {M : Mem} {n : Nat} (h0 : ∀ j, gi M n j = 0) (h1 : ∀ j, gf M n j = 0) : ∀ j, j < 13 → defaultValue (tyX3 j) = vp_V (fvsP ad (rz R n) M n (fcode 3)) j := by
  intro j hj
  rw [vpV_fvsP (cs := fcode 3) hj]
  rcases (show j = 0 ∨ j = 1 ∨ j = 2 ∨ j = 3 ∨ j = 4 ∨ j = 5 ∨ j = 6 ∨ j = 7 ∨ j = 8 ∨ j = 9 ∨ j = 10 ∨ j = 11 ∨ j = 12 by omega) with rfl | rfl | rfl | rfl | rfl | rfl | rfl | rfl | rfl | rfl | rfl | rfl | rfl <;> first | exact (congrArg Value.int (h0 _)).symm | exact (congrArg Value.float (h1 _)).symm | (unfold fvP rz; rw [if_pos rfl]; rfl)
theorem rs_3 (b : Nat) (h : 2 ≤ (fcode 3).getD b 0) : b = 0 ∨ b = 1 ∨ b = 2 := by
  rcases Nat.lt_or_ge b 13 with q | q
  · exact (by decide : ∀ b, b < 13 → 2 ≤ (fcode 3).getD b 0 → b = 0 ∨ b = 1 ∨ b = 2) b q h
  · rw [List.getD_eq_getElem?_getD, List.getElem?_eq_none (show (fcode 3).length ≤ b from q)] at h; exact absurd h (by decide)
theorem nf_4 {ad : Nat → Nat} {R : RR} {M : Mem} {n : Nat} (h0 : ∀ j, gi M n j = 0) (h1 : ∀ j, gf M n j = 0) : ∀ j, j < 5 → defaultValue (tyX4 j) = vp_V (fvsP ad (rz R n) M n (fcode 4)) j := by
  intro j hj
  rw [vpV_fvsP (cs := fcode 4) hj]
  rcases (show j = 0 ∨ j = 1 ∨ j = 2 ∨ j = 3 ∨ j = 4 by omega) with rfl | rfl | rfl | rfl | rfl <;> first | exact (congrArg Value.int (h0 _)).symm | exact (congrArg Value.float (h1 _)).symm | (unfold fvP rz; rw [if_pos rfl]; rfl)
theorem rs_4 (b : Nat) (h : 2 ≤ (fcode 4).getD b 0) : b = 0 ∨ b = 1 ∨ b = 2 ∨ b = 3 := by
  rcases Nat.lt_or_ge b 5 with q | q
  · exact (by decide : ∀ b, b < 5 → 2 ≤ (fcode 4).getD b 0 → b = 0 ∨ b = 1 ∨ b = 2 ∨ b = 3) b q h
  · rw [List.getD_eq_getElem?_getD, List.getElem?_eq_none (show (fcode 4).length ≤ b from q)] at h; exact absurd h (by decide)
theorem nf_5 {ad : Nat → Nat} {R : RR} {M : Mem} {n : Nat} (h0 : ∀ j, gi M n j = 0) (h1 : ∀ j, gf M n j = 0) : ∀ j, j < 4 → defaultValue (tyX5 j) = vp_V (fvsP ad (rz R n) M n (fcode 5)) j := by
  intro j hj
  rw [vpV_fvsP (cs := fcode 5) hj]
  rcases (show j = 0 ∨ j = 1 ∨ j = 2 ∨ j = 3 by omega) with rfl | rfl | rfl | rfl <;> first | exact (congrArg Value.int (h0 _)).symm | exact (congrArg Value.float (h1 _)).symm | (unfold fvP rz; rw [if_pos rfl]; rfl)
theorem rs_5 (b : Nat) (h : 2 ≤ (fcode 5).getD b 0) : b = 0 := by
  rcases Nat.lt_or_ge b 4 with q | q
  · exact (by decide : ∀ b, b < 4 → 2 ≤ (fcode 5).getD b 0 → b = 0) b q h
  · rw [List.getD_eq_getElem?_getD, List.getElem?_eq_none (show (fcode 5).length ≤ b from q)] at h; exact absurd h (by decide)
theorem nf_6 {ad : Nat → Nat} {R : RR} {M : Mem} {n : Nat} (h0 : ∀ j, gi M n j = 0) (h1 : ∀ j, gf M n j = 0) : ∀ j, j < 8 → defaultValue (tyX6 j) = vp_V (fvsP ad (rz R n) M n (fcode 6)) j := by
  intro j hj
  rw [vpV_fvsP (cs := fcode 6) hj]
  rcases (show j = 0 ∨ j = 1 ∨ j = 2 ∨ j = 3 ∨ j = 4 ∨ j = 5 ∨ j = 6 ∨ j = 7 by omega) with rfl | rfl | rfl | rfl | rfl | rfl | rfl | rfl <;> first | exact (congrArg Value.int (h0 _)).symm | exact (congrArg Value.float (h1 _)).symm | (unfold fvP rz; rw [if_pos rfl]; rfl)
theorem rs_6 (b : Nat) (h : 2 ≤ (fcode 6).getD b 0) : b = 0 ∨ b = 1 ∨ b = 2 ∨ b = 4 ∨ b = 5 ∨ b = 6 ∨ b = 7 := by
  rcases Nat.lt_or_ge b 8 with q | q
  · exact (by decide : ∀ b, b < 8 → 2 ≤ (fcode 6).getD b 0 → b = 0 ∨ b = 1 ∨ b = 2 ∨ b = 4 ∨ b = 5 ∨ b = 6 ∨ b = 7) b q h
  · rw [List.getD_eq_getElem?_getD, List.getElem?_eq_none (show (fcode 6).length ≤ b from q)] at h; exact absurd h (by decide)
theorem nf_7 {ad : Nat → Nat} {R : RR} {M : Mem} {n : Nat} (h0 : ∀ j, gi M n j = 0) (h1 : ∀ j, gf M n j = 0) : ∀ j, j < 4 → defaultValue (tyX7 j) = vp_V (fvsP ad (rz R n) M n (fcode 7)) j := by
  intro j hj
  rw [vpV_fvsP (cs := fcode 7) hj]
  rcases (show j = 0 ∨ j = 1 ∨ j = 2 ∨ j = 3 by omega) with rfl | rfl | rfl | rfl <;> first | exact (congrArg Value.int (h0 _)).symm | exact (congrArg Value.float (h1 _)).symm | (unfold fvP rz; rw [if_pos rfl]; rfl)
theorem rs_7 (b : Nat) (h : 2 ≤ (fcode 7).getD b 0) : b = 0 ∨ b = 1 ∨ b = 2 := by
  rcases Nat.lt_or_ge b 4 with q | q
  · exact (by decide : ∀ b, b < 4 → 2 ≤ (fcode 7).getD b 0 → b = 0 ∨ b = 1 ∨ b = 2) b q h
  · rw [List.getD_eq_getElem?_getD, List.getElem?_eq_none (show (fcode 7).length ≤ b from q)] at h; exact absurd h (by decide)
theorem nf_8 {ad : Nat → Nat} {R : RR} {M : Mem} {n : Nat} (h0 : ∀ j, gi M n j = 0) (h1 : ∀ j, gf M n j = 0) : ∀ j, j < 11 → defaultValue (tyX8 j) = vp_V (fvsP ad (rz R n) M n (fcode 8)) j := by
  intro j hj
  rw [vpV_fvsP (cs := fcode 8) hj]
  rcases (show j = 0 ∨ j = 1 ∨ j = 2 ∨ j = 3 ∨ j = 4 ∨ j = 5 ∨ j = 6 ∨ j = 7 ∨ j = 8 ∨ j = 9 ∨ j = 10 by omega) with rfl | rfl | rfl | rfl | rfl | rfl | rfl | rfl | rfl | rfl | rfl <;> first | exact (congrArg Value.int (h0 _)).symm | exact (congrArg Value.float (h1 _)).symm | (unfold fvP rz; rw [if_pos rfl]; rfl)
theorem rs_8 (b : Nat) (h : 2 ≤ (fcode 8).getD b 0) : b = 0 ∨ b = 1 ∨ b = 2 ∨ b = 3 ∨ b = 4 ∨ b = 5 ∨ b = 6 ∨ b = 7 := by
  rcases Nat.lt_or_ge b 11 with q | q
  · exact (by decide : ∀ b, b < 11 → 2 ≤ (fcode 8).getD b 0 → b = 0 ∨ b = 1 ∨ b = 2 ∨ b = 3 ∨ b = 4 ∨ b = 5 ∨ b = 6 ∨ b = 7) b q h
  · rw [List.getD_eq_getElem?_getD, List.getElem?_eq_none (show (fcode 8).length ≤ b from q)] at h; exact absurd h (by decide)
theorem nf_9 {ad : Nat → Nat} {R : RR} {M : Mem} {n : Nat} (h0 : ∀ j, gi M n j = 0) (h1 : ∀ j, gf M n j = 0) : ∀ j, j < 54 → defaultValue (tyX9 j) = vp_V (fvsP ad (rz R n) M n (fcode 9)) j := by
  intro j hj
  rw [vpV_fvsP (cs := fcode 9) hj]
  rcases (show j = 0 ∨ j = 1 ∨ j = 2 ∨ j = 3 ∨ j = 4 ∨ j = 5 ∨ j = 6 ∨ j = 7 ∨ j = 8 ∨ j = 9 ∨ j = 10 ∨ j = 11 ∨ j = 12 ∨ j = 13 ∨ j = 14 ∨ j = 15 ∨ j = 16 ∨ j = 17 ∨ j = 18 ∨ j = 19 ∨ j = 20 ∨ j = 21 ∨ j = 22 ∨ j = 23 ∨ j = 24 ∨ j = 25 ∨ j = 26 ∨ j = 27 ∨ j = 28 ∨ j = 29 ∨ j = 30 ∨ j = 31 ∨ j = 32 ∨ j = 33 ∨ j = 34 ∨ j = 35 ∨ j = 36 ∨ j = 37 ∨ j = 38 ∨ j = 39 ∨ j = 40 ∨ j = 41 ∨ j = 42 ∨ j = 43 ∨ j = 44 ∨ j = 45 ∨ j = 46 ∨ j = 47 ∨ j = 48 ∨ j = 49 ∨ j = 50 ∨ j = 51 ∨ j = 52 ∨ j = 53 by omega) with rfl | rfl | rfl | rfl | rfl | rfl | rfl | rfl | rfl | rfl | rfl | rfl | rfl | rfl | rfl | rfl | rfl | rfl | rfl | rfl | rfl | rfl | rfl | rfl | rfl | rfl | rfl | rfl | rfl | rfl | rfl | rfl | rfl | rfl | rfl | rfl | rfl | rfl | rfl | rfl | rfl | rfl | rfl | rfl | rfl | rfl | rfl | rfl | rfl | rfl | rfl | rfl | rfl | rfl <;> first | exact (congrArg Value.int (h0 _)).symm | exact (congrArg Value.float (h1 _)).symm | (unfold fvP rz; rw [if_pos rfl]; rfl)
theorem kb3 {k : Nat} (h : isT 3 k) : k + 11 ≤ 169 := (by decide +kernel : ∀ k, k < 169 → (shp k).1 = 3 → k + 11 ≤ 169) k h.1 h.2
theorem kb4 {k : Nat} (h : isT 4 k) : k + 5 ≤ 169 := (by decide +kernel : ∀ k, k < 169 → (shp k).1 = 4 → k + 5 ≤ 169) k h.1 h.2
theorem kb7 {k : Nat} (h : isT 7 k) : k + 4 ≤ 169 := (by decide +kernel : ∀ k, k < 169 → (shp k).1 = 7 → k + 4 ≤ 169) k h.1 h.2
theorem pp3_3 {p : Program} {l : Launch} {e : Env} {Rm : Room} {s : State} {m : MethodId} {args : Array Value} {below : List Frame} {meth : Method} {c : Code} {H : Heap} {locs : List Loc} {cells slots : Nat} {Q : State → Prop} {cc : ByteArray} {nL : Nat} {own : String} {pc : Nat} {ls : Array Slot} {rest : List Value} {G : GG} {M : Mem} {R : RR} {n : Nat} (hB : BX p s m args c cc nL own G) (hn : n ≤ NN) (hW : WP G R n M H) (hS : va_S (adA G) s.heap H locs) {k index : Nat} (hkn : k < n) (hk : isT 3 k) {x : Int32} (hlink : Cond.fieldLink own index RX3 "line" "I" ∈ lw_all) (hdg : decode cc pc = .ok (.putfield index, 3)) (kk : ∀ (H1 : Heap) (locs1 : List Loc), WP G R n (si M k 3 x) H1 → va_S (adA G) s.heap H1 locs1 → W p l e Rm s m args below meth c H1 locs1 cells slots Q (F0 m (pc + 3) ls rest)) : W p l e Rm s m args below meth c H locs cells slots Q (F0 m pc ls (.int x :: .ref (G.2.2.1 k) :: rest)) := p_put hB hn hW hS inA3 tyX3 tyX3_ok nmX3 rfl (by decide) rfl 3 (by decide) hkn hk hlink rfl rfl (ty := .int) (v := .int x) (by decide +kernel) rfl rfl (M1 := si M k 3 x) (R1 := R) (congrArg Value.int (if_pos ⟨rfl, rfl⟩)) (fun i h => by unfold fvP; rw [show gi (si M k 3 x) k i = gi M k i from if_neg (fun q => h q.2), show gf (si M k 3 x) k i = gf M k i from rfl]) (fun a h => entP_congr (ne_row h) rfl rfl rfl) hdg kk
theorem pp3_4 {p : Program} {l : Launch} {e : Env} {Rm : Room} {s : State} {m : MethodId} {args : Array Value} {below : List Frame} {meth : Method} {c : Code} {H : Heap} {locs : List Loc} {cells slots : Nat} {Q : State → Prop} {cc : ByteArray} {nL : Nat} {own : String} {pc : Nat} {ls : Array Slot} {rest : List Value} {G : GG} {M : Mem} {R : RR} {n : Nat} (hB : BX p s m args c cc nL own G) (hn : n ≤ NN) (hW : WP G R n M H) (hS : va_S (adA G) s.heap H locs) {k index : Nat} (hkn : k < n) (hk : isT 3 k) {x : Int32} (hlink : Cond.fieldLink own index RX3 "wide" "I" ∈ lw_all) (hdg : decode cc pc = .ok (.putfield index, 3)) (kk : ∀ (H1 : Heap) (locs1 : List Loc), WP G R n (si M k 4 x) H1 → va_S (adA G) s.heap H1 locs1 → W p l e Rm s m args below meth c H1 locs1 cells slots Q (F0 m (pc + 3) ls rest)) : W p l e Rm s m args below meth c H locs cells slots Q (F0 m pc ls (.int x :: .ref (G.2.2.1 k) :: rest)) := p_put hB hn hW hS inA3 tyX3 tyX3_ok nmX3 rfl (by decide) rfl 4 (by decide) hkn hk hlink rfl rfl (ty := .int) (v := .int x) (by decide +kernel) rfl rfl (M1 := si M k 4 x) (R1 := R) (congrArg Value.int (if_pos ⟨rfl, rfl⟩)) (fun i h => by unfold fvP; rw [show gi (si M k 4 x) k i = gi M k i from if_neg (fun q => h q.2), show gf (si M k 4 x) k i = gf M k i from rfl]) (fun a h => entP_congr (ne_row h) rfl rfl rfl) hdg kk
theorem pp3_5 {p : Program} {l : Launch} {e : Env} {Rm : Room} {s : State} {m : MethodId} {args : Array Value} {below : List Frame} {meth : Method} {c : Code} {H : Heap} {locs : List Loc} {cells slots : Nat} {Q : State → Prop} {cc : ByteArray} {nL : Nat} {own : String} {pc : Nat} {ls : Array Slot} {rest : List Value} {G : GG} {M : Mem} {R : RR} {n : Nat} (hB : BX p s m args c cc nL own G) (hn : n ≤ NN) (hW : WP G R n M H) (hS : va_S (adA G) s.heap H locs) {k index : Nat} (hkn : k < n) (hk : isT 3 k) {x : Int32} (hlink : Cond.fieldLink own index RX3 "stretch" "I" ∈ lw_all) (hdg : decode cc pc = .ok (.putfield index, 3)) (kk : ∀ (H1 : Heap) (locs1 : List Loc), WP G R n (si M k 5 x) H1 → va_S (adA G) s.heap H1 locs1 → W p l e Rm s m args below meth c H1 locs1 cells slots Q (F0 m (pc + 3) ls rest)) : W p l e Rm s m args below meth c H locs cells slots Q (F0 m pc ls (.int x :: .ref (G.2.2.1 k) :: rest)) := p_put hB hn hW hS inA3 tyX3 tyX3_ok nmX3 rfl (by decide) rfl 5 (by decide) hkn hk hlink rfl rfl (ty := .int) (v := .int x) (by decide +kernel) rfl rfl (M1 := si M k 5 x) (R1 := R) (congrArg Value.int (if_pos ⟨rfl, rfl⟩)) (fun i h => by unfold fvP; rw [show gi (si M k 5 x) k i = gi M k i from if_neg (fun q => h q.2), show gf (si M k 5 x) k i = gf M k i from rfl]) (fun a h => entP_congr (ne_row h) rfl rfl rfl) hdg kk
theorem pp3_6 {p : Program} {l : Launch} {e : Env} {Rm : Room} {s : State} {m : MethodId} {args : Array Value} {below : List Frame} {meth : Method} {c : Code} {H : Heap} {locs : List Loc} {cells slots : Nat} {Q : State → Prop} {cc : ByteArray} {nL : Nat} {own : String} {pc : Nat} {ls : Array Slot} {rest : List Value} {G : GG} {M : Mem} {R : RR} {n : Nat} (hB : BX p s m args c cc nL own G) (hn : n ≤ NN) (hW : WP G R n M H) (hS : va_S (adA G) s.heap H locs) {k index : Nat} (hkn : k < n) (hk : isT 3 k) {x : Int32} (hlink : Cond.fieldLink own index RX3 "shrink" "I" ∈ lw_all) (hdg : decode cc pc = .ok (.putfield index, 3)) (kk : ∀ (H1 : Heap) (locs1 : List Loc), WP G R n (si M k 6 x) H1 → va_S (adA G) s.heap H1 locs1 → W p l e Rm s m args below meth c H1 locs1 cells slots Q (F0 m (pc + 3) ls rest)) : W p l e Rm s m args below meth c H locs cells slots Q (F0 m pc ls (.int x :: .ref (G.2.2.1 k) :: rest)) := p_put hB hn hW hS inA3 tyX3 tyX3_ok nmX3 rfl (by decide) rfl 6 (by decide) hkn hk hlink rfl rfl (ty := .int) (v := .int x) (by decide +kernel) rfl rfl (M1 := si M k 6 x) (R1 := R) (congrArg Value.int (if_pos ⟨rfl, rfl⟩)) (fun i h => by unfold fvP; rw [show gi (si M k 6 x) k i = gi M k i from if_neg (fun q => h q.2), show gf (si M k 6 x) k i = gf M k i from rfl]) (fun a h => entP_congr (ne_row h) rfl rfl rfl) hdg kk
theorem pp3_7 {p : Program} {l : Launch} {e : Env} {Rm : Room} {s : State} {m : MethodId} {args : Array Value} {below : List Frame} {meth : Method} {c : Code} {H : Heap} {locs : List Loc} {cells slots : Nat} {Q : State → Prop} {cc : ByteArray} {nL : Nat} {own : String} {pc : Nat} {ls : Array Slot} {rest : List Value} {G : GG} {M : Mem} {R : RR} {n : Nat} (hB : BX p s m args c cc nL own G) (hn : n ≤ NN) (hW : WP G R n M H) (hS : va_S (adA G) s.heap H locs) {k index : Nat} (hkn : k < n) (hk : isT 3 k) {x : Int32} (hlink : Cond.fieldLink own index RX3 "tolerance" "I" ∈ lw_all) (hdg : decode cc pc = .ok (.putfield index, 3)) (kk : ∀ (H1 : Heap) (locs1 : List Loc), WP G R n (si M k 7 x) H1 → va_S (adA G) s.heap H1 locs1 → W p l e Rm s m args below meth c H1 locs1 cells slots Q (F0 m (pc + 3) ls rest)) : W p l e Rm s m args below meth c H locs cells slots Q (F0 m pc ls (.int x :: .ref (G.2.2.1 k) :: rest)) := p_put hB hn hW hS inA3 tyX3 tyX3_ok nmX3 rfl (by decide) rfl 7 (by decide) hkn hk hlink rfl rfl (ty := .int) (v := .int x) (by decide +kernel) rfl rfl (M1 := si M k 7 x) (R1 := R) (congrArg Value.int (if_pos ⟨rfl, rfl⟩)) (fun i h => by unfold fvP; rw [show gi (si M k 7 x) k i = gi M k i from if_neg (fun q => h q.2), show gf (si M k 7 x) k i = gf M k i from rfl]) (fun a h => entP_congr (ne_row h) rfl rfl rfl) hdg kk
theorem pp3_8 {p : Program} {l : Launch} {e : Env} {Rm : Room} {s : State} {m : MethodId} {args : Array Value} {below : List Frame} {meth : Method} {c : Code} {H : Heap} {locs : List Loc} {cells slots : Nat} {Q : State → Prop} {cc : ByteArray} {nL : Nat} {own : String} {pc : Nat} {ls : Array Slot} {rest : List Value} {G : GG} {M : Mem} {R : RR} {n : Nat} (hB : BX p s m args c cc nL own G) (hn : n ≤ NN) (hW : WP G R n M H) (hS : va_S (adA G) s.heap H locs) {k index : Nat} (hkn : k < n) (hk : isT 3 k) {x : Int32} (hlink : Cond.fieldLink own index RX3 "hyphen" "I" ∈ lw_all) (hdg : decode cc pc = .ok (.putfield index, 3)) (kk : ∀ (H1 : Heap) (locs1 : List Loc), WP G R n (si M k 8 x) H1 → va_S (adA G) s.heap H1 locs1 → W p l e Rm s m args below meth c H1 locs1 cells slots Q (F0 m (pc + 3) ls rest)) : W p l e Rm s m args below meth c H locs cells slots Q (F0 m pc ls (.int x :: .ref (G.2.2.1 k) :: rest)) := p_put hB hn hW hS inA3 tyX3 tyX3_ok nmX3 rfl (by decide) rfl 8 (by decide) hkn hk hlink rfl rfl (ty := .int) (v := .int x) (by decide +kernel) rfl rfl (M1 := si M k 8 x) (R1 := R) (congrArg Value.int (if_pos ⟨rfl, rfl⟩)) (fun i h => by unfold fvP; rw [show gi (si M k 8 x) k i = gi M k i from if_neg (fun q => h q.2), show gf (si M k 8 x) k i = gf M k i from rfl]) (fun a h => entP_congr (ne_row h) rfl rfl rfl) hdg kk
theorem pp3_9 {p : Program} {l : Launch} {e : Env} {Rm : Room} {s : State} {m : MethodId} {args : Array Value} {below : List Frame} {meth : Method} {c : Code} {H : Heap} {locs : List Loc} {cells slots : Nat} {Q : State → Prop} {cc : ByteArray} {nL : Nat} {own : String} {pc : Nat} {ls : Array Slot} {rest : List Value} {G : GG} {M : Mem} {R : RR} {n : Nat} (hB : BX p s m args c cc nL own G) (hn : n ≤ NN) (hW : WP G R n M H) (hS : va_S (adA G) s.heap H locs) {k index : Nat} (hkn : k < n) (hk : isT 3 k) {x : Int32} (hlink : Cond.fieldLink own index RX3 "widow" "I" ∈ lw_all) (hdg : decode cc pc = .ok (.putfield index, 3)) (kk : ∀ (H1 : Heap) (locs1 : List Loc), WP G R n (si M k 9 x) H1 → va_S (adA G) s.heap H1 locs1 → W p l e Rm s m args below meth c H1 locs1 cells slots Q (F0 m (pc + 3) ls rest)) : W p l e Rm s m args below meth c H locs cells slots Q (F0 m pc ls (.int x :: .ref (G.2.2.1 k) :: rest)) := p_put hB hn hW hS inA3 tyX3 tyX3_ok nmX3 rfl (by decide) rfl 9 (by decide) hkn hk hlink rfl rfl (ty := .int) (v := .int x) (by decide +kernel) rfl rfl (M1 := si M k 9 x) (R1 := R) (congrArg Value.int (if_pos ⟨rfl, rfl⟩)) (fun i h => by unfold fvP; rw [show gi (si M k 9 x) k i = gi M k i from if_neg (fun q => h q.2), show gf (si M k 9 x) k i = gf M k i from rfl]) (fun a h => entP_congr (ne_row h) rfl rfl rfl) hdg kk
theorem pp3_10 {p : Program} {l : Launch} {e : Env} {Rm : Room} {s : State} {m : MethodId} {args : Array Value} {below : List Frame} {meth : Method} {c : Code} {H : Heap} {locs : List Loc} {cells slots : Nat} {Q : State → Prop} {cc : ByteArray} {nL : Nat} {own : String} {pc : Nat} {ls : Array Slot} {rest : List Value} {G : GG} {M : Mem} {R : RR} {n : Nat} (hB : BX p s m args c cc nL own G) (hn : n ≤ NN) (hW : WP G R n M H) (hS : va_S (adA G) s.heap H locs) {k index : Nat} (hkn : k < n) (hk : isT 3 k) {x : Int32} (hlink : Cond.fieldLink own index RX3 "manner" "I" ∈ lw_all) (hdg : decode cc pc = .ok (.putfield index, 3)) (kk : ∀ (H1 : Heap) (locs1 : List Loc), WP G R n (si M k 10 x) H1 → va_S (adA G) s.heap H1 locs1 → W p l e Rm s m args below meth c H1 locs1 cells slots Q (F0 m (pc + 3) ls rest)) : W p l e Rm s m args below meth c H locs cells slots Q (F0 m pc ls (.int x :: .ref (G.2.2.1 k) :: rest)) := p_put hB hn hW hS inA3 tyX3 tyX3_ok nmX3 rfl (by decide) rfl 10 (by decide) hkn hk hlink rfl rfl (ty := .int) (v := .int x) (by decide +kernel) rfl rfl (M1 := si M k 10 x) (R1 := R) (congrArg Value.int (if_pos ⟨rfl, rfl⟩)) (fun i h => by unfold fvP; rw [show gi (si M k 10 x) k i = gi M k i from if_neg (fun q => h q.2), show gf (si M k 10 x) k i = gf M k i from rfl]) (fun a h => entP_congr (ne_row h) rfl rfl rfl) hdg kk
theorem pp3_11 {p : Program} {l : Launch} {e : Env} {Rm : Room} {s : State} {m : MethodId} {args : Array Value} {below : List Frame} {meth : Method} {c : Code} {H : Heap} {locs : List Loc} {cells slots : Nat} {Q : State → Prop} {cc : ByteArray} {nL : Nat} {own : String} {pc : Nat} {ls : Array Slot} {rest : List Value} {G : GG} {M : Mem} {R : RR} {n : Nat} (hB : BX p s m args c cc nL own G) (hn : n ≤ NN) (hW : WP G R n M H) (hS : va_S (adA G) s.heap H locs) {k index : Nat} (hkn : k < n) (hk : isT 3 k) {x : Int32} (hlink : Cond.fieldLink own index RX3 "kind" "I" ∈ lw_all) (hdg : decode cc pc = .ok (.putfield index, 3)) (kk : ∀ (H1 : Heap) (locs1 : List Loc), WP G R n (si M k 11 x) H1 → va_S (adA G) s.heap H1 locs1 → W p l e Rm s m args below meth c H1 locs1 cells slots Q (F0 m (pc + 3) ls rest)) : W p l e Rm s m args below meth c H locs cells slots Q (F0 m pc ls (.int x :: .ref (G.2.2.1 k) :: rest)) := p_put hB hn hW hS inA3 tyX3 tyX3_ok nmX3 rfl (by decide) rfl 11 (by decide) hkn hk hlink rfl rfl (ty := .int) (v := .int x) (by decide +kernel) rfl rfl (M1 := si M k 11 x) (R1 := R) (congrArg Value.int (if_pos ⟨rfl, rfl⟩)) (fun i h => by unfold fvP; rw [show gi (si M k 11 x) k i = gi M k i from if_neg (fun q => h q.2), show gf (si M k 11 x) k i = gf M k i from rfl]) (fun a h => entP_congr (ne_row h) rfl rfl rfl) hdg kk
theorem pp3_12 {p : Program} {l : Launch} {e : Env} {Rm : Room} {s : State} {m : MethodId} {args : Array Value} {below : List Frame} {meth : Method} {c : Code} {H : Heap} {locs : List Loc} {cells slots : Nat} {Q : State → Prop} {cc : ByteArray} {nL : Nat} {own : String} {pc : Nat} {ls : Array Slot} {rest : List Value} {G : GG} {M : Mem} {R : RR} {n : Nat} (hB : BX p s m args c cc nL own G) (hn : n ≤ NN) (hW : WP G R n M H) (hS : va_S (adA G) s.heap H locs) {k index : Nat} (hkn : k < n) (hk : isT 3 k) {x : Int32} (hlink : Cond.fieldLink own index RX3 "figure" "I" ∈ lw_all) (hdg : decode cc pc = .ok (.putfield index, 3)) (kk : ∀ (H1 : Heap) (locs1 : List Loc), WP G R n (si M k 12 x) H1 → va_S (adA G) s.heap H1 locs1 → W p l e Rm s m args below meth c H1 locs1 cells slots Q (F0 m (pc + 3) ls rest)) : W p l e Rm s m args below meth c H locs cells slots Q (F0 m pc ls (.int x :: .ref (G.2.2.1 k) :: rest)) := p_put hB hn hW hS inA3 tyX3 tyX3_ok nmX3 rfl (by decide) rfl 12 (by decide) hkn hk hlink rfl rfl (ty := .int) (v := .int x) (by decide +kernel) rfl rfl (M1 := si M k 12 x) (R1 := R) (congrArg Value.int (if_pos ⟨rfl, rfl⟩)) (fun i h => by unfold fvP; rw [show gi (si M k 12 x) k i = gi M k i from if_neg (fun q => h q.2), show gf (si M k 12 x) k i = gf M k i from rfl]) (fun a h => entP_congr (ne_row h) rfl rfl rfl) hdg kk
set_option maxHeartbeats 4000000 in
set_option maxRecDepth 100000 in
theorem cc_X7 (l : Launch) (G : GG) (hL : adL G) {k0 : Nat} (hk0 : isT 7 k0) {R : RR} {M : Mem} (hZ : Zr M k0 (k0 + 4)) : Met l yX7_init (wsq yX7_init cX7_init 1 none) { frames := 1, cells := 3, slots := 48, locals := 16 } (va_Pc [.ref (G.2.2.1 k0)] (WorldP G R (k0 + 1) M)) (va_Qv (fun (_ : Unit) => True) (fun _ => WorldP G (Rf R k0 (k0 + 4)) (k0 + 4) M) (adA G)) 3 48 (adA G) := by
  refine p_start (plainFor_of_name (by decide)) rfl (Nat.le_of_ble_eq_true rfl) ?_
  intro p e s m args below meth c hB hX hin hr hlk hW hs0 hS ls hl
  have hx := hB.x
  have hb := hB.b
  have hkb := kb7 hk0
  have hl : lv_has ls 1 [(0, .ref (G.2.2.1 k0))] := hl
  refine lv_aload_n hx hb dX7_init_0 rfl (lv_at hl 0 rfl) ?_
  refine W.objInit hx hb hB.ow (hB.w wd1_45) (hB.w wd1_23) (hB.w wd1_24) rfl (by rw [hB.ml]; exact hl.1) rfl dX7_init_1 (Nat.le_of_ble_eq_true rfl) (Nat.le_of_ble_eq_true rfl) ?_
  refine W.eq (g2 := F0 m 4 ls []) rfl ?_
  refine lv_aload_n hx hb dX7_init_4 rfl (lv_at hl 0 rfl) ?_
  refine lv_bipush (v := (16 : Int32)) hx hb dX7_init_5 (by decide) ?_
  refine p_size (X := G.2.2.1 0 + (k0 + 1)) (by omega) (p_low hL hW) (fun hsz => ?_)
  refine p_arrL (N := 16) hB hL hW hsz hS (by decide) (by decide) (by decide) (Nat.le_of_ble_eq_true rfl) (Nat.le_of_ble_eq_true rfl) (rf7_0 hk0) (ra7_0 hk0) ((hZ _ (by omega) (by omega)).2.1) dX7_init_7 (fun H hW hS => ?_)
  refine p_putF hB (by have := hkb; show _ ≤ 169; omega) hW hS inA7 tyX7 tyX7_ok nmX7 rfl (by decide) rfl 0 (by decide) (by omega) hk0 wd1_46 rfl rfl rfl hin (ty := .array .long) (by decide +kernel) rfl rfl (by decide) dX7_init_9 (fun H locs hW hS => ?_)
  refine lv_aload_n hx hb dX7_init_12 rfl (lv_at hl 0 rfl) ?_
  refine lv_bipush (v := (16 : Int32)) hx hb dX7_init_13 (by decide) ?_
  refine p_size (X := G.2.2.1 0 + (k0 + 2)) (by omega) (p_low hL hW) (fun hsz => ?_)
  refine p_arrI (N := 16) hB hL hW hsz hS (by decide) (by decide) (by decide) (Nat.le_of_ble_eq_true rfl) (Nat.le_of_ble_eq_true rfl) (rf7_1 hk0) (ra7_1 hk0) (fun j => by rw [(hZ _ (by omega) (by omega)).1 j]; exact (iniR_z (by rw [show (k0 + 2) - 1 = (k0 + 1) from rfl]; rw [(rf7_0 hk0).2]; decide) j)) dX7_init_15 (fun H hW hS => ?_)
  refine p_putF hB (by have := hkb; show _ ≤ 169; omega) hW hS inA7 tyX7 tyX7_ok nmX7 rfl (by decide) rfl 1 (by decide) (by omega) hk0 wd1_47 rfl rfl rfl hin (ty := .array .int) (by decide +kernel) rfl rfl (by decide) dX7_init_17 (fun H locs hW hS => ?_)
  refine lv_aload_n hx hb dX7_init_20 rfl (lv_at hl 0 rfl) ?_
  refine lv_bipush (v := (16 : Int32)) hx hb dX7_init_21 (by decide) ?_
  refine p_size (X := G.2.2.1 0 + (k0 + 3)) (by omega) (p_low hL hW) (fun hsz => ?_)
  refine p_arrI (N := 16) hB hL hW hsz hS (by decide) (by decide) (by decide) (Nat.le_of_ble_eq_true rfl) (Nat.le_of_ble_eq_true rfl) (rf7_2 hk0) (ra7_2 hk0) (fun j => by rw [(hZ _ (by omega) (by omega)).1 j]; exact (iniR_z (by rw [show (k0 + 3) - 1 = (k0 + 2) from rfl]; rw [(rf7_1 hk0).2]; decide) j)) dX7_init_23 (fun H hW hS => ?_)
  refine p_putF hB (by have := hkb; show _ ≤ 169; omega) hW hS inA7 tyX7 tyX7_ok nmX7 rfl (by decide) rfl 2 (by decide) (by omega) hk0 wd1_48 rfl rfl rfl hin (ty := .array .int) (by decide +kernel) rfl rfl (by decide) dX7_init_25 (fun H locs hW hS => ?_)
  refine p_size (X := G.2.2.1 0 + (k0 + 4)) (by omega) (p_low hL hW) (fun hsz => ?_)
  have hW := p_end (k := k0) (R := R) hW (fun a ha => by rw [ru_ne (by omega), ru_ne (by omega), ru_ne (by omega)]) (fun a h1 h2 b hb => ?_)
  · exact p_ret hB hX hW hsz hS hr hlk rfl rfl dX7_init_28
  rcases (show a = k0 ∨ a = (k0 + 1) ∨ a = (k0 + 2) ∨ a = (k0 + 3) by omega) with rfl | rfl | rfl | rfl
  · have hc := rsl_o hk0.2 (by decide) hb
    rcases rs_7 b hc with rfl | rfl | rfl
    · rw [ru_ne2 (by decide), ru_ne2 (by decide), ru_eq]; unfold fin; rw [hk0.2]; rfl
    · rw [ru_ne2 (by decide), ru_eq]; unfold fin; rw [hk0.2]; rfl
    · rw [ru_eq]; unfold fin; rw [hk0.2]; rfl
  · exact (rsl_no (Or.inr (Or.inl (rf7_0 hk0).2)) hb).elim
  · exact (rsl_no (Or.inl (rf7_1 hk0).2) hb).elim
  · exact (rsl_no (Or.inl (rf7_2 hk0).2) hb).elim
set_option maxHeartbeats 4000000 in
set_option maxRecDepth 100000 in
theorem cc_X4 (l : Launch) (G : GG) (hL : adL G) {k0 : Nat} (hk0 : isT 4 k0) {R : RR} {M : Mem} (hZ : Zr M k0 (k0 + 5)) : Met l yX4_init (wsq yX4_init cX4_init 1 none) { frames := 1, cells := 4, slots := 32, locals := 16 } (va_Pc [.ref (G.2.2.1 k0)] (WorldP G R (k0 + 1) M)) (va_Qv (fun (_ : Unit) => True) (fun _ => WorldP G (Rf R k0 (k0 + 5)) (k0 + 5) M) (adA G)) 4 32 (adA G) := by
  refine p_start (plainFor_of_name (by decide)) rfl (Nat.le_of_ble_eq_true rfl) ?_
  intro p e s m args below meth c hB hX hin hr hlk hW hs0 hS ls hl
  have hx := hB.x
  have hb := hB.b
  have hkb := kb4 hk0
  have hl : lv_has ls 1 [(0, .ref (G.2.2.1 k0))] := hl
  refine lv_aload_n hx hb dX4_init_0 rfl (lv_at hl 0 rfl) ?_
  refine W.objInit hx hb hB.ow (hB.w wd1_69) (hB.w wd1_23) (hB.w wd1_24) rfl (by rw [hB.ml]; exact hl.1) rfl dX4_init_1 (Nat.le_of_ble_eq_true rfl) (Nat.le_of_ble_eq_true rfl) ?_
  refine W.eq (g2 := F0 m 4 ls []) rfl ?_
  refine lv_aload_n hx hb dX4_init_4 rfl (lv_at hl 0 rfl) ?_
  refine lv_bipush (v := (8 : Int32)) hx hb dX4_init_5 (by decide) ?_
  refine p_size (X := G.2.2.1 0 + (k0 + 1)) (by omega) (p_low hL hW) (fun hsz => ?_)
  refine p_arrL (N := 8) hB hL hW hsz hS (by decide) (by decide) (by decide) (Nat.le_of_ble_eq_true rfl) (Nat.le_of_ble_eq_true rfl) (rf4_0 hk0) (ra4_0 hk0) ((hZ _ (by omega) (by omega)).2.1) dX4_init_7 (fun H hW hS => ?_)
  refine p_putF hB (by have := hkb; show _ ≤ 169; omega) hW hS inA4 tyX4 tyX4_ok nmX4 rfl (by decide) rfl 0 (by decide) (by omega) hk0 wd1_70 rfl rfl rfl hin (ty := .array .long) (by decide +kernel) rfl rfl (by decide) dX4_init_9 (fun H locs hW hS => ?_)
  refine lv_aload_n hx hb dX4_init_12 rfl (lv_at hl 0 rfl) ?_
  refine lv_bipush (v := (8 : Int32)) hx hb dX4_init_13 (by decide) ?_
  refine p_size (X := G.2.2.1 0 + (k0 + 2)) (by omega) (p_low hL hW) (fun hsz => ?_)
  refine p_arrI (N := 8) hB hL hW hsz hS (by decide) (by decide) (by decide) (Nat.le_of_ble_eq_true rfl) (Nat.le_of_ble_eq_true rfl) (rf4_1 hk0) (ra4_1 hk0) (fun j => by rw [(hZ _ (by omega) (by omega)).1 j]; exact (iniR_z (by rw [show (k0 + 2) - 1 = (k0 + 1) from rfl]; rw [(rf4_0 hk0).2]; decide) j)) dX4_init_15 (fun H hW hS => ?_)
  refine p_putF hB (by have := hkb; show _ ≤ 169; omega) hW hS inA4 tyX4 tyX4_ok nmX4 rfl (by decide) rfl 1 (by decide) (by omega) hk0 wd1_71 rfl rfl rfl hin (ty := .array .int) (by decide +kernel) rfl rfl (by decide) dX4_init_17 (fun H locs hW hS => ?_)
  refine lv_aload_n hx hb dX4_init_20 rfl (lv_at hl 0 rfl) ?_
  refine lv_bipush (v := (8 : Int32)) hx hb dX4_init_21 (by decide) ?_
  refine p_size (X := G.2.2.1 0 + (k0 + 3)) (by omega) (p_low hL hW) (fun hsz => ?_)
  refine p_arrI (N := 8) hB hL hW hsz hS (by decide) (by decide) (by decide) (Nat.le_of_ble_eq_true rfl) (Nat.le_of_ble_eq_true rfl) (rf4_2 hk0) (ra4_2 hk0) (fun j => by rw [(hZ _ (by omega) (by omega)).1 j]; exact (iniR_z (by rw [show (k0 + 3) - 1 = (k0 + 2) from rfl]; rw [(rf4_1 hk0).2]; decide) j)) dX4_init_23 (fun H hW hS => ?_)
  refine p_putF hB (by have := hkb; show _ ≤ 169; omega) hW hS inA4 tyX4 tyX4_ok nmX4 rfl (by decide) rfl 2 (by decide) (by omega) hk0 wd1_73 rfl rfl rfl hin (ty := .array .int) (by decide +kernel) rfl rfl (by decide) dX4_init_25 (fun H locs hW hS => ?_)
  refine lv_aload_n hx hb dX4_init_28 rfl (lv_at hl 0 rfl) ?_
  refine lv_bipush (v := (8 : Int32)) hx hb dX4_init_29 (by decide) ?_
  refine p_size (X := G.2.2.1 0 + (k0 + 4)) (by omega) (p_low hL hW) (fun hsz => ?_)
  refine p_arrI (N := 8) hB hL hW hsz hS (by decide) (by decide) (by decide) (Nat.le_of_ble_eq_true rfl) (Nat.le_of_ble_eq_true rfl) (rf4_3 hk0) (ra4_3 hk0) (fun j => by rw [(hZ _ (by omega) (by omega)).1 j]; exact (iniR_z (by rw [show (k0 + 4) - 1 = (k0 + 3) from rfl]; rw [(rf4_2 hk0).2]; decide) j)) dX4_init_31 (fun H hW hS => ?_)
  refine p_putF hB (by have := hkb; show _ ≤ 169; omega) hW hS inA4 tyX4 tyX4_ok nmX4 rfl (by decide) rfl 3 (by decide) (by omega) hk0 wd1_75 rfl rfl rfl hin (ty := .array .int) (by decide +kernel) rfl rfl (by decide) dX4_init_33 (fun H locs hW hS => ?_)
  refine p_size (X := G.2.2.1 0 + (k0 + 5)) (by omega) (p_low hL hW) (fun hsz => ?_)
  have hW := p_end (k := k0) (R := R) hW (fun a ha => by rw [ru_ne (by omega), ru_ne (by omega), ru_ne (by omega), ru_ne (by omega)]) (fun a h1 h2 b hb => ?_)
  · exact p_ret hB hX hW hsz hS hr hlk rfl rfl dX4_init_36
  rcases (show a = k0 ∨ a = (k0 + 1) ∨ a = (k0 + 2) ∨ a = (k0 + 3) ∨ a = (k0 + 4) by omega) with rfl | rfl | rfl | rfl | rfl
  · have hc := rsl_o hk0.2 (by decide) hb
    rcases rs_4 b hc with rfl | rfl | rfl | rfl
    · rw [ru_ne2 (by decide), ru_ne2 (by decide), ru_ne2 (by decide), ru_eq]; unfold fin; rw [hk0.2]; rfl
    · rw [ru_ne2 (by decide), ru_ne2 (by decide), ru_eq]; unfold fin; rw [hk0.2]; rfl
    · rw [ru_ne2 (by decide), ru_eq]; unfold fin; rw [hk0.2]; rfl
    · rw [ru_eq]; unfold fin; rw [hk0.2]; rfl
  · exact (rsl_no (Or.inr (Or.inl (rf4_0 hk0).2)) hb).elim
  · exact (rsl_no (Or.inl (rf4_1 hk0).2) hb).elim
  · exact (rsl_no (Or.inl (rf4_2 hk0).2) hb).elim
  · exact (rsl_no (Or.inl (rf4_3 hk0).2) hb).elim
theorem cl_RX3_25 {R : Room} {s : State} {args : Array Value} (ht : ∀ w ∈ lw_all, w.before args s = true) (hR : 1 + 1 ≤ R.frames ∧ 8 + (1 + 11) + 16 ≤ R.locals) : CallB R s args RX3 25 yX7_init cX7_init 1 none (wsq yX7_init cX7_init 1 none) { frames := 1, cells := 3, slots := 48, locals := 16 } 3 48 0 ∧ yX7_init.name = "<init>" ∧ (Cond.instanceMethod yX7_init).before args s = true := cwI 0 ht (goodC wd1_44) rfl rfl rfl (ht _ wd1_3) (ht _ wd1_42) (ht _ wd1_43) rfl (by decide +kernel) hR
theorem cl_RX3_32 {R : Room} {s : State} {args : Array Value} (ht : ∀ w ∈ lw_all, w.before args s = true) (hR : 1 + 1 ≤ R.frames ∧ 8 + (1 + 11) + 16 ≤ R.locals) : CallB R s args RX3 32 yX4_init cX4_init 1 none (wsq yX4_init cX4_init 1 none) { frames := 1, cells := 4, slots := 32, locals := 16 } 4 32 0 ∧ yX4_init.name = "<init>" ∧ (Cond.instanceMethod yX4_init).before args s = true := cwI 0 ht (goodC wd1_68) rfl rfl rfl (ht _ wd1_4) (ht _ wd1_66) (ht _ wd1_67) rfl (by decide +kernel) hR
set_option maxHeartbeats 4000000 in
set_option maxRecDepth 100000 in
theorem cc_X3 (l : Launch) (G : GG) (hL : adL G) {k0 : Nat} (hk0 : isT 3 k0) {R : RR} {M : Mem} (hZ : Zr M k0 (k0 + 11)) : Met l yX3_init (wsq yX3_init cX3_init 1 none) { frames := 2, cells := 10, slots := 97, locals := 36 } (va_Pc [.ref (G.2.2.1 k0)] (WorldP G R (k0 + 1) M)) (va_Qv (fun (_ : Unit) => True) (fun _ => WorldP G (Rf R k0 (k0 + 11)) (k0 + 11) (pin M k0)) (adA G)) 10 97 (adA G) := by
  refine p_start (plainFor_of_name (by decide)) rfl (Nat.le_of_ble_eq_true rfl) ?_
  intro p e s m args below meth c hB hX hin hr hlk hW hs0 hS ls hl
  have hx := hB.x
  have hb := hB.b
  have hkb := kb3 hk0
  have hl : lv_has ls 1 [(0, .ref (G.2.2.1 k0))] := hl
  refine lv_aload_n hx hb dX3_init_0 rfl (lv_at hl 0 rfl) ?_
  refine W.objInit hx hb hB.ow (hB.w wd1_30) (hB.w wd1_23) (hB.w wd1_24) rfl (by rw [hB.ml]; exact hl.1) rfl dX3_init_1 (Nat.le_of_ble_eq_true rfl) (Nat.le_of_ble_eq_true rfl) ?_
  refine W.eq (g2 := F0 m 4 ls []) rfl ?_
  refine lv_aload_n hx hb dX3_init_4 rfl (lv_at hl 0 rfl) ?_
  refine p_fwget hB hX.2 rfl hS dX3_init_5 ?_
  refine p_size (X := G.2.2.1 0 + (k0 + 1)) (by omega) (p_low hL hW) (fun hsz => ?_)
  refine p_clone hB hX hL hW hsz hS hl.1 wd1_33 wd1_35 wd1_36 wd1_37 (rf3_0 hk0) (ra3_0 hk0) (fun j hj => by rw [(hZ _ (by omega) (by omega)).1 j]; exact iniR_w hk0 hj) (Nat.le_of_ble_eq_true rfl) (Nat.le_of_ble_eq_true rfl) (Nat.le_of_ble_eq_true rfl) (Nat.le_of_ble_eq_true rfl) dX3_init_8 (fun H hW hS => ?_)
  refine va_castA hx hb hB.ow (hB.w wd1_39) hW (k0 + 1) (by rw [wslP_at (by omega), entP_I (rf3_0 hk0).2]) (cls_I hB) dX3_init_11 ?_
  refine p_putF hB (by have := hkb; show _ ≤ 169; omega) hW hS inA3 tyX3 tyX3_ok nmX3 rfl (by decide) rfl 0 (by decide) (by omega) hk0 wd1_90 rfl rfl rfl hin (ty := .array .int) (by decide +kernel) rfl rfl (by decide) dX3_init_14 (fun H locs hW hS => ?_)
  refine lv_aload_n hx hb dX3_init_17 rfl (lv_at hl 0 rfl) ?_
  refine p_size (X := G.2.2.1 0 + (k0 + 2)) (by omega) (p_low hL hW) (fun hsz => ?_)
  refine p_new hB hL hW hsz hS inA7 tyX7 tyX7_ok wd1_40 wd1_41 wd1_3 rfl (by decide) (rf3_1 hk0) (nf_7 (fun j => by rw [(hZ _ (by omega) (by omega)).1 j]; exact iniR_o (by rw [(rf3_1 hk0).2]; decide)) ((hZ _ (by omega) (by omega)).2.2)) (Nat.le_of_ble_eq_true rfl) (Nat.le_of_ble_eq_true rfl) dX3_init_18 (fun H hW hS => ?_)
  refine lv_dup hx hb dX3_init_21 rfl ?_
  refine p_size (X := G.2.2.1 0 + (k0 + 3)) (by omega) (p_low hL hW) (fun hsz => ?_)
  refine p_call hB hX hW hsz hS (cc_X7 l G hL (rf3_1 hk0) (hZ.sub (by omega) (by omega))) (cl_RX3_25 hB.2.2.2.2.1 ⟨Nat.le_of_ble_eq_true rfl, Nat.le_of_ble_eq_true rfl⟩) hl.1 (Nat.le_of_ble_eq_true rfl) dX3_init_22 ⟨Nat.le_of_ble_eq_true rfl, Nat.le_of_ble_eq_true rfl⟩ (fun H locs hW hS => ?_)
  refine p_putF hB (by have := hkb; show _ ≤ 169; omega) hW hS inA3 tyX3 tyX3_ok nmX3 rfl (by decide) rfl 1 (by decide) (by omega) hk0 wd1_93 rfl rfl rfl hin (ty := .object "LinesOfFragments$Words") (by decide +kernel) rfl rfl (by decide) dX3_init_25 (fun H locs hW hS => ?_)
  refine lv_aload_n hx hb dX3_init_28 rfl (lv_at hl 0 rfl) ?_
  refine p_size (X := G.2.2.1 0 + (k0 + 6)) (by omega) (p_low hL hW) (fun hsz => ?_)
  refine p_new hB hL hW hsz hS inA4 tyX4 tyX4_ok wd1_64 wd1_65 wd1_4 rfl (by decide) (rf3_2 hk0) (nf_4 (fun j => by rw [(hZ _ (by omega) (by omega)).1 j]; exact iniR_o (by rw [(rf3_2 hk0).2]; decide)) ((hZ _ (by omega) (by omega)).2.2)) (Nat.le_of_ble_eq_true rfl) (Nat.le_of_ble_eq_true rfl) dX3_init_29 (fun H hW hS => ?_)
  refine lv_dup hx hb dX3_init_32 rfl ?_
  refine p_size (X := G.2.2.1 0 + (k0 + 7)) (by omega) (p_low hL hW) (fun hsz => ?_)
  refine p_call hB hX hW hsz hS (cc_X4 l G hL (rf3_2 hk0) (hZ.sub (by omega) (by omega))) (cl_RX3_32 hB.2.2.2.2.1 ⟨Nat.le_of_ble_eq_true rfl, Nat.le_of_ble_eq_true rfl⟩) hl.1 (Nat.le_of_ble_eq_true rfl) dX3_init_33 ⟨Nat.le_of_ble_eq_true rfl, Nat.le_of_ble_eq_true rfl⟩ (fun H locs hW hS => ?_)
  refine p_putF hB (by have := hkb; show _ ≤ 169; omega) hW hS inA3 tyX3 tyX3_ok nmX3 rfl (by decide) rfl 2 (by decide) (by omega) hk0 wd1_97 rfl rfl rfl hin (ty := .object "LinesOfFragments$Patterns") (by decide +kernel) rfl rfl (by decide) dX3_init_36 (fun H locs hW hS => ?_)
  refine lv_aload_n hx hb dX3_init_39 rfl (lv_at hl 0 rfl) ?_
  refine lv_bipush (v := (30 : Int32)) hx hb dX3_init_40 (by decide) ?_
  refine pp3_3 hB (by have := hkb; show _ ≤ 169; omega) hW hS (by omega) hk0 wd1_100 dX3_init_42 (fun H locs hW hS => ?_)
  refine lv_aload_n hx hb dX3_init_45 rfl (lv_at hl 0 rfl) ?_
  refine lv_iconst (v := (3 : Int32)) hx hb dX3_init_46 (by decide) ?_
  refine pp3_4 hB (by have := hkb; show _ ≤ 169; omega) hW hS (by omega) hk0 wd1_104 dX3_init_47 (fun H locs hW hS => ?_)
  refine lv_aload_n hx hb dX3_init_50 rfl (lv_at hl 0 rfl) ?_
  refine lv_iconst (v := (2 : Int32)) hx hb dX3_init_51 (by decide) ?_
  refine pp3_5 hB (by have := hkb; show _ ≤ 169; omega) hW hS (by omega) hk0 wd1_107 dX3_init_52 (fun H locs hW hS => ?_)
  refine lv_aload_n hx hb dX3_init_55 rfl (lv_at hl 0 rfl) ?_
  refine lv_iconst (v := (1 : Int32)) hx hb dX3_init_56 (by decide) ?_
  refine pp3_6 hB (by have := hkb; show _ ≤ 169; omega) hW hS (by omega) hk0 wd1_109 dX3_init_57 (fun H locs hW hS => ?_)
  refine lv_aload_n hx hb dX3_init_60 rfl (lv_at hl 0 rfl) ?_
  refine lv_bipush (v := (12 : Int32)) hx hb dX3_init_61 (by decide) ?_
  refine pp3_7 hB (by have := hkb; show _ ≤ 169; omega) hW hS (by omega) hk0 wd1_111 dX3_init_63 (fun H locs hW hS => ?_)
  refine lv_aload_n hx hb dX3_init_66 rfl (lv_at hl 0 rfl) ?_
  refine lv_bipush (v := (50 : Int32)) hx hb dX3_init_67 (by decide) ?_
  refine pp3_8 hB (by have := hkb; show _ ≤ 169; omega) hW hS (by omega) hk0 wd1_115 dX3_init_69 (fun H locs hW hS => ?_)
  refine lv_aload_n hx hb dX3_init_72 rfl (lv_at hl 0 rfl) ?_
  refine lv_iconst (v := (1 : Int32)) hx hb dX3_init_73 (by decide) ?_
  refine pp3_9 hB (by have := hkb; show _ ≤ 169; omega) hW hS (by omega) hk0 wd1_118 dX3_init_74 (fun H locs hW hS => ?_)
  refine p_size (X := G.2.2.1 0 + (k0 + 11)) (by omega) (p_low hL hW) (fun hsz => ?_)
  have hW := p_end (k := k0) (R := R) hW (fun a ha => by rw [ru_ne (by omega), Rf_out (by omega), rz_ne (by omega), ru_ne (by omega), Rf_out (by omega), rz_ne (by omega), ru_ne (by omega)]) (fun a h1 h2 b hb => ?_)
  · exact p_ret hB hX hW hsz hS hr hlk rfl rfl dX3_init_77
  rcases (show a = k0 ∨ a = (k0 + 1) ∨ ((k0 + 2) ≤ a ∧ a < (k0 + 6)) ∨ ((k0 + 6) ≤ a ∧ a < (k0 + 11)) by omega) with rfl | rfl | hq | hq
  · have hc := rsl_o hk0.2 (by decide) hb
    rcases rs_3 b hc with rfl | rfl | rfl
    · rw [ru_ne2 (by decide), Rf_out (by omega), rz_ne (by omega), ru_ne2 (by decide), Rf_out (by omega), rz_ne (by omega), ru_eq]; unfold fin; rw [hk0.2]; rfl
    · rw [ru_ne2 (by decide), Rf_out (by omega), rz_ne (by omega), ru_eq]; unfold fin; rw [hk0.2]; rfl
    · rw [ru_eq]; unfold fin; rw [hk0.2]; rfl
  · exact (rsl_no (Or.inl (rf3_0 hk0).2) hb).elim
  · rw [ru_ne (by omega), Rf_out (by omega), rz_ne (by omega), ru_ne (by omega), Rf_in ⟨by omega, by omega⟩]
  · rw [ru_ne (by omega), Rf_in ⟨by omega, by omega⟩]
set_option maxHeartbeats 4000000 in
set_option maxRecDepth 100000 in
theorem cc_X0 (l : Launch) (G : GG) (hL : adL G) {R : RR} {M : Mem} (hZ : Zr M 128 132) : Met l yX0_init (wsq yX0_init cX0_init 1 none) { frames := 1, cells := 3, slots := 576, locals := 16 } (va_Pc [.ref (G.2.2.1 128)] (WorldP G R 129 M)) (va_Qv (fun (_ : Unit) => True) (fun _ => WorldP G (Rf R 128 132) 132 M) (adA G)) 3 576 (adA G) := by
  refine p_start (plainFor_of_name (by decide)) rfl (Nat.le_of_ble_eq_true rfl) ?_
  intro p e s m args below meth c hB hX hin hr hlk hW hs0 hS ls hl
  have hx := hB.x
  have hb := hB.b
  have hl : lv_has ls 1 [(0, .ref (G.2.2.1 128))] := hl
  refine lv_aload_n hx hb dX0_init_0 rfl (lv_at hl 0 rfl) ?_
  refine W.objInit hx hb hB.ow (hB.w wd1_217) (hB.w wd1_23) (hB.w wd1_24) rfl (by rw [hB.ml]; exact hl.1) rfl dX0_init_1 (Nat.le_of_ble_eq_true rfl) (Nat.le_of_ble_eq_true rfl) ?_
  refine W.eq (g2 := F0 m 4 ls []) rfl ?_
  refine lv_aload_n hx hb dX0_init_4 rfl (lv_at hl 0 rfl) ?_
  refine lv_sipush (v := (192 : Int32)) hx hb dX0_init_5 (by decide) ?_
  refine p_size (X := G.2.2.1 0 + 129) (by omega) (p_low hL hW) (fun hsz => ?_)
  refine p_arrI (N := 192) hB hL hW hsz hS (by decide) (by decide) (by decide) (Nat.le_of_ble_eq_true rfl) (Nat.le_of_ble_eq_true rfl) tl129 al129 (fun j => by rw [(hZ _ (by omega) (by omega)).1 j]; exact (iniR_z (by decide) j)) dX0_init_8 (fun H hW hS => ?_)
  refine p_putF hB (by decide) hW hS inA0 tyX0 tyX0_ok nmX0 rfl (by decide) rfl 0 (by decide) (by omega) tl128 wd1_218 rfl rfl rfl hin (ty := .array .int) (by decide +kernel) rfl rfl (by decide) dX0_init_10 (fun H locs hW hS => ?_)
  refine lv_aload_n hx hb dX0_init_13 rfl (lv_at hl 0 rfl) ?_
  refine lv_sipush (v := (192 : Int32)) hx hb dX0_init_14 (by decide) ?_
  refine p_size (X := G.2.2.1 0 + 130) (by omega) (p_low hL hW) (fun hsz => ?_)
  refine p_arrI (N := 192) hB hL hW hsz hS (by decide) (by decide) (by decide) (Nat.le_of_ble_eq_true rfl) (Nat.le_of_ble_eq_true rfl) tl130 al130 (fun j => by rw [(hZ _ (by omega) (by omega)).1 j]; exact (iniR_z (by decide) j)) dX0_init_17 (fun H hW hS => ?_)
  refine p_putF hB (by decide) hW hS inA0 tyX0 tyX0_ok nmX0 rfl (by decide) rfl 1 (by decide) (by omega) tl128 wd1_220 rfl rfl rfl hin (ty := .array .int) (by decide +kernel) rfl rfl (by decide) dX0_init_19 (fun H locs hW hS => ?_)
  refine lv_aload_n hx hb dX0_init_22 rfl (lv_at hl 0 rfl) ?_
  refine lv_sipush (v := (192 : Int32)) hx hb dX0_init_23 (by decide) ?_
  refine p_size (X := G.2.2.1 0 + 131) (by omega) (p_low hL hW) (fun hsz => ?_)
  refine p_arrI (N := 192) hB hL hW hsz hS (by decide) (by decide) (by decide) (Nat.le_of_ble_eq_true rfl) (Nat.le_of_ble_eq_true rfl) tl131 al131 (fun j => by rw [(hZ _ (by omega) (by omega)).1 j]; exact (iniR_z (by decide) j)) dX0_init_26 (fun H hW hS => ?_)
  refine p_putF hB (by decide) hW hS inA0 tyX0 tyX0_ok nmX0 rfl (by decide) rfl 2 (by decide) (by omega) tl128 wd1_222 rfl rfl rfl hin (ty := .array .int) (by decide +kernel) rfl rfl (by decide) dX0_init_28 (fun H locs hW hS => ?_)
  refine p_size (X := G.2.2.1 0 + 132) (by omega) (p_low hL hW) (fun hsz => ?_)
  have hW := p_end (k := 128) (R := R) hW (fun a ha => by rw [ru_ne (by omega), ru_ne (by omega), ru_ne (by omega)]) (fun a h1 h2 b hb => ?_)
  · exact p_ret hB hX hW hsz hS hr hlk rfl rfl dX0_init_31
  rcases (show a = 128 ∨ a = 129 ∨ a = 130 ∨ a = 131 by omega) with rfl | rfl | rfl | rfl
  · have hc := rsl_o tl128.2 (by decide) hb
    rcases rs_0 b hc with rfl | rfl | rfl
    · rw [ru_ne2 (by decide), ru_ne2 (by decide), ru_eq]; unfold fin; rw [tl128.2]; rfl
    · rw [ru_ne2 (by decide), ru_eq]; unfold fin; rw [tl128.2]; rfl
    · rw [ru_eq]; unfold fin; rw [tl128.2]; rfl
  · exact (rsl_no (Or.inl tl129.2) hb).elim
  · exact (rsl_no (Or.inl tl130.2) hb).elim
  · exact (rsl_no (Or.inl tl131.2) hb).elim
theorem cl_RX2_11 {R : Room} {s : State} {args : Array Value} (ht : ∀ w ∈ lw_all, w.before args s = true) (hR : 1 + 1 ≤ R.frames ∧ 8 + (1 + 11) + 16 ≤ R.locals) : CallB R s args RX2 11 yX0_init cX0_init 1 none (wsq yX0_init cX0_init 1 none) { frames := 1, cells := 3, slots := 576, locals := 16 } 3 576 0 ∧ yX0_init.name = "<init>" ∧ (Cond.instanceMethod yX0_init).before args s = true := cwI 0 ht (goodC wd1_216) rfl rfl rfl (ht _ wd1_9) (ht _ wd1_214) (ht _ wd1_215) rfl (by decide +kernel) hR
set_option maxHeartbeats 4000000 in
set_option maxRecDepth 100000 in
theorem cc_X2 (l : Launch) (G : GG) (hL : adL G) {R : RR} {M : Mem} (hZ : Zr M 127 132) : Met l yX2_init (wsq yX2_init cX2_init 1 none) { frames := 2, cells := 4, slots := 580, locals := 36 } (va_Pc [.ref (G.2.2.1 127)] (WorldP G R 128 M)) (va_Qv (fun (_ : Unit) => True) (fun _ => WorldP G (Rf R 127 132) 132 M) (adA G)) 4 580 (adA G) := by
  refine p_start (plainFor_of_name (by decide)) rfl (Nat.le_of_ble_eq_true rfl) ?_
  intro p e s m args below meth c hB hX hin hr hlk hW hs0 hS ls hl
  have hx := hB.x
  have hb := hB.b
  have hl : lv_has ls 1 [(0, .ref (G.2.2.1 127))] := hl
  refine lv_aload_n hx hb dX2_init_0 rfl (lv_at hl 0 rfl) ?_
  refine W.objInit hx hb hB.ow (hB.w wd1_211) (hB.w wd1_23) (hB.w wd1_24) rfl (by rw [hB.ml]; exact hl.1) rfl dX2_init_1 (Nat.le_of_ble_eq_true rfl) (Nat.le_of_ble_eq_true rfl) ?_
  refine W.eq (g2 := F0 m 4 ls []) rfl ?_
  refine lv_aload_n hx hb dX2_init_4 rfl (lv_at hl 0 rfl) ?_
  refine p_size (X := G.2.2.1 0 + 128) (by omega) (p_low hL hW) (fun hsz => ?_)
  refine p_new hB hL hW hsz hS inA0 tyX0 tyX0_ok wd1_212 wd1_213 wd1_9 rfl (by decide) tl128 (nf_0 (fun j => by rw [(hZ _ (by omega) (by omega)).1 j]; exact iniR_o (by rw [tl128.2]; decide)) ((hZ _ (by omega) (by omega)).2.2)) (Nat.le_of_ble_eq_true rfl) (Nat.le_of_ble_eq_true rfl) dX2_init_5 (fun H hW hS => ?_)
  refine lv_dup hx hb dX2_init_8 rfl ?_
  refine p_size (X := G.2.2.1 0 + 129) (by omega) (p_low hL hW) (fun hsz => ?_)
  refine p_call hB hX hW hsz hS (cc_X0 l G hL (hZ.sub (by omega) (by omega))) (cl_RX2_11 hB.2.2.2.2.1 ⟨Nat.le_of_ble_eq_true rfl, Nat.le_of_ble_eq_true rfl⟩) hl.1 (Nat.le_of_ble_eq_true rfl) dX2_init_9 ⟨Nat.le_of_ble_eq_true rfl, Nat.le_of_ble_eq_true rfl⟩ (fun H locs hW hS => ?_)
  refine p_putF hB (by decide) hW hS inA2 tyX2 tyX2_ok nmX2 rfl (by decide) rfl 0 (by decide) (by omega) tl127 wd1_236 rfl rfl rfl hin (ty := .object "LinesOfFragments$Fragments") (by decide +kernel) rfl rfl (by decide) dX2_init_12 (fun H locs hW hS => ?_)
  refine p_size (X := G.2.2.1 0 + 132) (by omega) (p_low hL hW) (fun hsz => ?_)
  have hW := p_end (k := 127) (R := R) hW (fun a ha => by rw [ru_ne (by omega), Rf_out (by omega), rz_ne (by omega)]) (fun a h1 h2 b hb => ?_)
  · exact p_ret hB hX hW hsz hS hr hlk rfl rfl dX2_init_15
  rcases (show a = 127 ∨ (128 ≤ a ∧ a < 132) by omega) with rfl | hq
  · have hc := rsl_o tl127.2 (by decide) hb
    rcases rs_2 b hc with rfl
    · rw [ru_eq]; unfold fin; rw [tl127.2]; rfl
  · rw [ru_ne (by omega), Rf_in ⟨by omega, by omega⟩]
set_option maxHeartbeats 4000000 in
set_option maxRecDepth 100000 in
theorem cc_X5 (l : Launch) (G : GG) (hL : adL G) {R : RR} {M : Mem} (hZ : Zr M 124 126) : Met l yX5_init (wsq yX5_init cX5_init 1 none) { frames := 1, cells := 1, slots := 96, locals := 16 } (va_Pc [.ref (G.2.2.1 124)] (WorldP G R 125 M)) (va_Qv (fun (_ : Unit) => True) (fun _ => WorldP G (Rf R 124 126) 126 M) (adA G)) 1 96 (adA G) := by
  refine p_start (plainFor_of_name (by decide)) rfl (Nat.le_of_ble_eq_true rfl) ?_
  intro p e s m args below meth c hB hX hin hr hlk hW hs0 hS ls hl
  have hx := hB.x
  have hb := hB.b
  have hl : lv_has ls 1 [(0, .ref (G.2.2.1 124))] := hl
  refine lv_aload_n hx hb dX5_init_0 rfl (lv_at hl 0 rfl) ?_
  refine W.objInit hx hb hB.ow (hB.w wd1_184) (hB.w wd1_23) (hB.w wd1_24) rfl (by rw [hB.ml]; exact hl.1) rfl dX5_init_1 (Nat.le_of_ble_eq_true rfl) (Nat.le_of_ble_eq_true rfl) ?_
  refine W.eq (g2 := F0 m 4 ls []) rfl ?_
  refine lv_aload_n hx hb dX5_init_4 rfl (lv_at hl 0 rfl) ?_
  refine lv_bipush (v := (96 : Int32)) hx hb dX5_init_5 (by decide) ?_
  refine p_size (X := G.2.2.1 0 + 125) (by omega) (p_low hL hW) (fun hsz => ?_)
  refine p_arrI (N := 96) hB hL hW hsz hS (by decide) (by decide) (by decide) (Nat.le_of_ble_eq_true rfl) (Nat.le_of_ble_eq_true rfl) tl125 al125 (fun j => by rw [(hZ _ (by omega) (by omega)).1 j]; exact (iniR_z (by decide) j)) dX5_init_7 (fun H hW hS => ?_)
  refine p_putF hB (by decide) hW hS inA5 tyX5 tyX5_ok nmX5 rfl (by decide) rfl 0 (by decide) (by omega) tl124 wd1_185 rfl rfl rfl hin (ty := .array .int) (by decide +kernel) rfl rfl (by decide) dX5_init_9 (fun H locs hW hS => ?_)
  refine p_size (X := G.2.2.1 0 + 126) (by omega) (p_low hL hW) (fun hsz => ?_)
  have hW := p_end (k := 124) (R := R) hW (fun a ha => by rw [ru_ne (by omega)]) (fun a h1 h2 b hb => ?_)
  · exact p_ret hB hX hW hsz hS hr hlk rfl rfl dX5_init_12
  rcases (show a = 124 ∨ a = 125 by omega) with rfl | rfl
  · have hc := rsl_o tl124.2 (by decide) hb
    rcases rs_5 b hc with rfl
    · rw [ru_eq]; unfold fin; rw [tl124.2]; rfl
  · exact (rsl_no (Or.inl tl125.2) hb).elim
theorem cl_RX6_11 {R : Room} {s : State} {args : Array Value} (ht : ∀ w ∈ lw_all, w.before args s = true) (hR : 2 + 1 ≤ R.frames ∧ 8 + (1 + 11) + 36 ≤ R.locals) : CallB R s args RX6 11 yX2_init cX2_init 1 none (wsq yX2_init cX2_init 1 none) { frames := 2, cells := 4, slots := 580, locals := 36 } 4 580 0 ∧ yX2_init.name = "<init>" ∧ (Cond.instanceMethod yX2_init).before args s = true := cwI 0 ht (goodC wd1_210) rfl rfl rfl (ht _ wd1_8) (ht _ wd1_208) (ht _ wd1_209) rfl (by decide +kernel) hR
set_option maxHeartbeats 4000000 in
set_option maxRecDepth 100000 in
theorem cc_X6 (l : Launch) (G : GG) (hL : adL G) {R : RR} {M : Mem} (hZ : Zr M 126 137) : Met l yX6_init (wsq yX6_init cX6_init 1 none) { frames := 3, cells := 10, slots := 1562, locals := 56 } (va_Pc [.ref (G.2.2.1 126)] (WorldP G R 127 M)) (va_Qv (fun (_ : Unit) => True) (fun _ => WorldP G (Rf R 126 137) 137 M) (adA G)) 10 1562 (adA G) := by
  refine p_start (plainFor_of_name (by decide)) rfl (Nat.le_of_ble_eq_true rfl) ?_
  intro p e s m args below meth c hB hX hin hr hlk hW hs0 hS ls hl
  have hx := hB.x
  have hb := hB.b
  have hl : lv_has ls 1 [(0, .ref (G.2.2.1 126))] := hl
  refine lv_aload_n hx hb dX6_init_0 rfl (lv_at hl 0 rfl) ?_
  refine W.objInit hx hb hB.ow (hB.w wd1_205) (hB.w wd1_23) (hB.w wd1_24) rfl (by rw [hB.ml]; exact hl.1) rfl dX6_init_1 (Nat.le_of_ble_eq_true rfl) (Nat.le_of_ble_eq_true rfl) ?_
  refine W.eq (g2 := F0 m 4 ls []) rfl ?_
  refine lv_aload_n hx hb dX6_init_4 rfl (lv_at hl 0 rfl) ?_
  refine p_size (X := G.2.2.1 0 + 127) (by omega) (p_low hL hW) (fun hsz => ?_)
  refine p_new hB hL hW hsz hS inA2 tyX2 tyX2_ok wd1_206 wd1_207 wd1_8 rfl (by decide) tl127 (nf_2 (fun j => by rw [(hZ _ (by omega) (by omega)).1 j]; exact iniR_o (by rw [tl127.2]; decide)) ((hZ _ (by omega) (by omega)).2.2)) (Nat.le_of_ble_eq_true rfl) (Nat.le_of_ble_eq_true rfl) dX6_init_5 (fun H hW hS => ?_)
  refine lv_dup hx hb dX6_init_8 rfl ?_
  refine p_size (X := G.2.2.1 0 + 128) (by omega) (p_low hL hW) (fun hsz => ?_)
  refine p_call hB hX hW hsz hS (cc_X2 l G hL (hZ.sub (by omega) (by omega))) (cl_RX6_11 hB.2.2.2.2.1 ⟨Nat.le_of_ble_eq_true rfl, Nat.le_of_ble_eq_true rfl⟩) hl.1 (Nat.le_of_ble_eq_true rfl) dX6_init_9 ⟨Nat.le_of_ble_eq_true rfl, Nat.le_of_ble_eq_true rfl⟩ (fun H locs hW hS => ?_)
  refine p_putF hB (by decide) hW hS inA6 tyX6 tyX6_ok nmX6 rfl (by decide) rfl 1 (by decide) (by omega) tl126 wd2_63 rfl rfl rfl hin (ty := .object "LinesOfFragments$Line") (by decide +kernel) rfl rfl (by decide) dX6_init_12 (fun H locs hW hS => ?_)
  refine lv_aload_n hx hb dX6_init_15 rfl (lv_at hl 0 rfl) ?_
  refine lv_aload_n hx hb dX6_init_16 rfl (lv_at hl 0 rfl) ?_
  refine p_get hB hW inA6 rfl (by decide) rfl 1 (by decide) (by omega) tl126 wd2_63 rfl (v := .ref (G.2.2.1 127)) (by unfold fvP; rw [if_neg (by decide), if_neg (by decide), ru_eq]; rfl) dX6_init_17 ?_
  refine p_get hB hW inA2 rfl (by decide) rfl 0 (by decide) (by omega) tl127 wd1_237 rfl (v := .ref (G.2.2.1 128)) (by unfold fvP; rw [if_neg (by decide), if_neg (by decide), ru_ne (by omega), Rf_in ⟨by omega, by omega⟩, show fin 127 0 = some 128 from by unfold fin; rw [tl127.2]; rfl]; rfl) dX6_init_20 ?_
  refine p_putF hB (by decide) hW hS inA6 tyX6 tyX6_ok nmX6 rfl (by decide) rfl 0 (by decide) (by omega) tl126 wd2_61 rfl rfl rfl hin (ty := .object "LinesOfFragments$Fragments") (by decide +kernel) rfl rfl (by decide) dX6_init_23 (fun H locs hW hS => ?_)
  refine lv_aload_n hx hb dX6_init_26 rfl (lv_at hl 0 rfl) ?_
  refine lv_sipush (v := (192 : Int32)) hx hb dX6_init_27 (by decide) ?_
  refine p_size (X := G.2.2.1 0 + 132) (by omega) (p_low hL hW) (fun hsz => ?_)
  refine p_arrI (N := 192) hB hL hW hsz hS (by decide) (by decide) (by decide) (Nat.le_of_ble_eq_true rfl) (Nat.le_of_ble_eq_true rfl) tl132 al132 (fun j => by rw [(hZ _ (by omega) (by omega)).1 j]; exact (iniR_z (by decide) j)) dX6_init_30 (fun H hW hS => ?_)
  refine p_putF hB (by decide) hW hS inA6 tyX6 tyX6_ok nmX6 rfl (by decide) rfl 2 (by decide) (by omega) tl126 wd2_65 rfl rfl rfl hin (ty := .array .int) (by decide +kernel) rfl rfl (by decide) dX6_init_32 (fun H locs hW hS => ?_)
  refine lv_aload_n hx hb dX6_init_35 rfl (lv_at hl 0 rfl) ?_
  refine lv_sipush (v := (193 : Int32)) hx hb dX6_init_36 (by decide) ?_
  refine p_size (X := G.2.2.1 0 + 133) (by omega) (p_low hL hW) (fun hsz => ?_)
  refine p_arrF (N := 193) hB hL hW hsz hS (by decide) (by decide) (by decide) (Nat.le_of_ble_eq_true rfl) (Nat.le_of_ble_eq_true rfl) tl133 al133 ((hZ _ (by omega) (by omega)).2.2) dX6_init_39 (fun H hW hS => ?_)
  refine p_putF hB (by decide) hW hS inA6 tyX6 tyX6_ok nmX6 rfl (by decide) rfl 4 (by decide) (by omega) tl126 wd2_69 rfl rfl rfl hin (ty := .array .float) (by decide +kernel) rfl rfl (by decide) dX6_init_41 (fun H locs hW hS => ?_)
  refine lv_aload_n hx hb dX6_init_44 rfl (lv_at hl 0 rfl) ?_
  refine lv_sipush (v := (193 : Int32)) hx hb dX6_init_45 (by decide) ?_
  refine p_size (X := G.2.2.1 0 + 134) (by omega) (p_low hL hW) (fun hsz => ?_)
  refine p_arrF (N := 193) hB hL hW hsz hS (by decide) (by decide) (by decide) (Nat.le_of_ble_eq_true rfl) (Nat.le_of_ble_eq_true rfl) tl134 al134 ((hZ _ (by omega) (by omega)).2.2) dX6_init_48 (fun H hW hS => ?_)
  refine p_putF hB (by decide) hW hS inA6 tyX6 tyX6_ok nmX6 rfl (by decide) rfl 5 (by decide) (by omega) tl126 wd2_70 rfl rfl rfl hin (ty := .array .float) (by decide +kernel) rfl rfl (by decide) dX6_init_50 (fun H locs hW hS => ?_)
  refine lv_aload_n hx hb dX6_init_53 rfl (lv_at hl 0 rfl) ?_
  refine lv_sipush (v := (193 : Int32)) hx hb dX6_init_54 (by decide) ?_
  refine p_size (X := G.2.2.1 0 + 135) (by omega) (p_low hL hW) (fun hsz => ?_)
  refine p_arrF (N := 193) hB hL hW hsz hS (by decide) (by decide) (by decide) (Nat.le_of_ble_eq_true rfl) (Nat.le_of_ble_eq_true rfl) tl135 al135 ((hZ _ (by omega) (by omega)).2.2) dX6_init_57 (fun H hW hS => ?_)
  refine p_putF hB (by decide) hW hS inA6 tyX6 tyX6_ok nmX6 rfl (by decide) rfl 6 (by decide) (by omega) tl126 wd2_71 rfl rfl rfl hin (ty := .array .float) (by decide +kernel) rfl rfl (by decide) dX6_init_59 (fun H locs hW hS => ?_)
  refine lv_aload_n hx hb dX6_init_62 rfl (lv_at hl 0 rfl) ?_
  refine lv_sipush (v := (193 : Int32)) hx hb dX6_init_63 (by decide) ?_
  refine p_size (X := G.2.2.1 0 + 136) (by omega) (p_low hL hW) (fun hsz => ?_)
  refine p_arrI (N := 193) hB hL hW hsz hS (by decide) (by decide) (by decide) (Nat.le_of_ble_eq_true rfl) (Nat.le_of_ble_eq_true rfl) tl136 al136 (fun j => by rw [(hZ _ (by omega) (by omega)).1 j]; exact (iniR_z (by decide) j)) dX6_init_66 (fun H hW hS => ?_)
  refine p_putF hB (by decide) hW hS inA6 tyX6 tyX6_ok nmX6 rfl (by decide) rfl 7 (by decide) (by omega) tl126 wd2_72 rfl rfl rfl hin (ty := .array .int) (by decide +kernel) rfl rfl (by decide) dX6_init_68 (fun H locs hW hS => ?_)
  refine p_size (X := G.2.2.1 0 + 137) (by omega) (p_low hL hW) (fun hsz => ?_)
  have hW := p_end (k := 126) (R := R) hW (fun a ha => by rw [ru_ne (by omega), ru_ne (by omega), ru_ne (by omega), ru_ne (by omega), ru_ne (by omega), ru_ne (by omega), ru_ne (by omega), Rf_out (by omega), rz_ne (by omega)]) (fun a h1 h2 b hb => ?_)
  · exact p_ret hB hX hW hsz hS hr hlk rfl rfl dX6_init_71
  rcases (show a = 126 ∨ (127 ≤ a ∧ a < 132) ∨ a = 132 ∨ a = 133 ∨ a = 134 ∨ a = 135 ∨ a = 136 by omega) with rfl | hq | rfl | rfl | rfl | rfl | rfl
  · have hc := rsl_o tl126.2 (by decide) hb
    rcases rs_6 b hc with rfl | rfl | rfl | rfl | rfl | rfl | rfl
    · rw [ru_ne2 (by decide), ru_ne2 (by decide), ru_ne2 (by decide), ru_ne2 (by decide), ru_ne2 (by decide), ru_eq]; unfold fin; rw [tl126.2]; rfl
    · rw [ru_ne2 (by decide), ru_ne2 (by decide), ru_ne2 (by decide), ru_ne2 (by decide), ru_ne2 (by decide), ru_ne2 (by decide), ru_eq]; unfold fin; rw [tl126.2]; rfl
    · rw [ru_ne2 (by decide), ru_ne2 (by decide), ru_ne2 (by decide), ru_ne2 (by decide), ru_eq]; unfold fin; rw [tl126.2]; rfl
    · rw [ru_ne2 (by decide), ru_ne2 (by decide), ru_ne2 (by decide), ru_eq]; unfold fin; rw [tl126.2]; rfl
    · rw [ru_ne2 (by decide), ru_ne2 (by decide), ru_eq]; unfold fin; rw [tl126.2]; rfl
    · rw [ru_ne2 (by decide), ru_eq]; unfold fin; rw [tl126.2]; rfl
    · rw [ru_eq]; unfold fin; rw [tl126.2]; rfl
  · rw [ru_ne (by omega), ru_ne (by omega), ru_ne (by omega), ru_ne (by omega), ru_ne (by omega), ru_ne (by omega), ru_ne (by omega), Rf_in ⟨by omega, by omega⟩]
  · exact (rsl_no (Or.inl tl132.2) hb).elim
  · exact (rsl_no (Or.inr (Or.inr tl133.2)) hb).elim
  · exact (rsl_no (Or.inr (Or.inr tl134.2)) hb).elim
  · exact (rsl_no (Or.inr (Or.inr tl135.2)) hb).elim
  · exact (rsl_no (Or.inl tl136.2) hb).elim
