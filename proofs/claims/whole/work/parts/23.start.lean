theorem cl_RL_9 {R : Room} {s : State} {args : Array Value} (ht : ∀ w ∈ lw_all, w.before args s = true) (hR : 4 + 1 ≤ R.frames ∧ 8 + (1 + 11) + 77 ≤ R.locals) : CallB R s args RL 9 yX8_init cX8_init 1 none (wsq yX8_init cX8_init 1 none) { frames := 4, cells := 138, slots := 2914, locals := 77 } 138 2914 0 ∧ yX8_init.name = "<init>" ∧ (Cond.instanceMethod yX8_init).before args s = true := cwI 0 ht (goodC wd1_21) rfl rfl rfl (ht _ wd1_1) (ht _ wd1_19) (ht _ wd1_20) rfl (by decide +kernel) hR
theorem cl_RL_12 {R : Room} {s : State} {args : Array Value} (ht : ∀ w ∈ lw_all, w.before args s = true) (hR : 1 + 1 ≤ R.frames ∧ 8 + (1 + 11) + 16 ≤ R.locals) : CallB R s args RL 12 yX9_init cX9_init 1 none (wsq yX9_init cX9_init 1 none) { frames := 1, cells := 29, slots := 5769, locals := 16 } 29 5769 0 ∧ yX9_init.name = "<init>" ∧ (Cond.instanceMethod yX9_init).before args s = true := cwI 0 ht (goodC wd5_77) rfl rfl rfl (ht _ wd1_10) (ht _ wd5_75) (ht _ wd5_76) rfl (by decide +kernel) hR
theorem lw_nest {s : State} {args : Array Value} (hts : ∀ w ∈ lw_tbl, w.before args s = true) : ∀ q ∈ nestL, (Cond.methodLinkNest q.1 q.2.1 q.2.2 "LinesOfFragments").before args s = true := by
  unfold nestL
  exact (List.forall_mem_cons.mpr ⟨hts _ (mem_t2 (List.mem_of_getElem? (i := 147) rfl)), (List.forall_mem_cons.mpr ⟨hts _ (mem_t2 (List.mem_of_getElem? (i := 164) rfl)), (List.forall_mem_cons.mpr ⟨hts _ (mem_t2 (List.mem_of_getElem? (i := 188) rfl)), (List.forall_mem_cons.mpr ⟨hts _ (mem_t2 (List.mem_of_getElem? (i := 201) rfl)), (List.forall_mem_cons.mpr ⟨hts _ (mem_t2 (List.mem_of_getElem? (i := 204) rfl)), (List.forall_mem_cons.mpr ⟨hts _ (mem_t2 (List.mem_of_getElem? (i := 209) rfl)), (List.forall_mem_cons.mpr ⟨hts _ (mem_t2 (List.mem_of_getElem? (i := 210) rfl)), (List.forall_mem_cons.mpr ⟨hts _ (mem_t2 (List.mem_of_getElem? (i := 227) rfl)), (List.forall_mem_cons.mpr ⟨hts _ (mem_t3 (List.mem_of_getElem? (i := 2) rfl)), (List.forall_mem_cons.mpr ⟨hts _ (mem_t3 (List.mem_of_getElem? (i := 11) rfl)), (List.forall_mem_cons.mpr ⟨hts _ (mem_t3 (List.mem_of_getElem? (i := 32) rfl)), (List.forall_mem_cons.mpr ⟨hts _ (mem_t3 (List.mem_of_getElem? (i := 37) rfl)), (List.forall_mem_cons.mpr ⟨hts _ (mem_t3 (List.mem_of_getElem? (i := 45) rfl)), (List.forall_mem_cons.mpr ⟨hts _ (mem_t3 (List.mem_of_getElem? (i := 53) rfl)), (List.forall_mem_cons.mpr ⟨hts _ (mem_t3 (List.mem_of_getElem? (i := 60) rfl)), (List.forall_mem_cons.mpr ⟨hts _ (mem_t3 (List.mem_of_getElem? (i := 182) rfl)), (List.forall_mem_cons.mpr ⟨hts _ (mem_t3 (List.mem_of_getElem? (i := 186) rfl)), (List.forall_mem_cons.mpr ⟨hts _ (mem_t3 (List.mem_of_getElem? (i := 232) rfl)), (List.forall_mem_cons.mpr ⟨hts _ (mem_t4 (List.mem_of_getElem? (i := 19) rfl)), (List.forall_mem_cons.mpr ⟨hts _ (mem_t4 (List.mem_of_getElem? (i := 20) rfl)), (List.forall_mem_cons.mpr ⟨hts _ (mem_t4 (List.mem_of_getElem? (i := 25) rfl)), (List.forall_mem_cons.mpr ⟨hts _ (mem_t4 (List.mem_of_getElem? (i := 70) rfl)), (List.forall_mem_cons.mpr ⟨hts _ (mem_t4 (List.mem_of_getElem? (i := 109) rfl)), (List.forall_mem_cons.mpr ⟨hts _ (mem_t4 (List.mem_of_getElem? (i := 122) rfl)), (fun _ h => absurd h List.not_mem_nil)⟩)⟩)⟩)⟩)⟩)⟩)⟩)⟩)⟩)⟩)⟩)⟩)⟩)⟩)⟩)⟩)⟩)⟩)⟩)⟩)⟩)⟩)⟩)⟩)
/-- the memory that the making begins with: all zero, the paragraphs' widths apart -/
def Mz : Mem := (fun i j => iniR i j, fun _ _ => 0, fun _ _ => 0)
theorem Zr_z (a b : Nat) : Zr Mz a b := fun i _ _ => ⟨fun _ => rfl, fun _ => rfl, fun _ => rfl⟩
def mk8 (M : Mem) : Mem := (pins (pin (pin (pin M 1) 12) 23))
def mk9 (M : Mem) : Mem := (si (si (si (si (si (si (si (si (si (si (si (si (si (si (si M 141 0 (3 : Int32)) 141 1 (4 : Int32)) 141 2 (3 : Int32)) 141 3 (4 : Int32)) 141 4 (3 : Int32)) 141 5 (2 : Int32)) 141 6 (4 : Int32)) 141 7 (4 : Int32)) 139 11 (30 : Int32)) 139 12 (3 : Int32)) 139 13 (2 : Int32)) 139 14 (1 : Int32)) 139 15 (12 : Int32)) 139 16 (50 : Int32)) 139 17 (1 : Int32))
def Mini : Mem := mk9 (mk8 Mz)
theorem Zr_mk8 : Zr (mk8 Mz) 139 169 := by
  intro i q1 q2
  have := Zr_z 139 169 i q1 q2
  refine ⟨fun j => ?_, fun j => this.2.1 j, fun j => this.2.2 j⟩
  rw [← this.1 j]
  unfold mk8 pins
  simp only [gi_pin (show i ≠ 1 by omega), gi_pin (show i ≠ 12 by omega), gi_pin (show i ≠ 23 by omega), gi_pin (show i ≠ 36 by omega), gi_pin (show i ≠ 47 by omega), gi_pin (show i ≠ 58 by omega), gi_pin (show i ≠ 69 by omega), gi_pin (show i ≠ 80 by omega), gi_pin (show i ≠ 91 by omega), gi_pin (show i ≠ 102 by omega), gi_pin (show i ≠ 113 by omega)]
/-- made whole, the world is the one that the methods speak of -/
theorem p_done {G : GG} {R : RR} {M : Mem} {H : Heap} (hW : WP G R 169 M H) (hR : ∀ a, a < 169 → ∀ b, rsl a b → R a b = fin a b) : Wd G M H := by
  intro k q hq
  have hk : k < NN := by
    have := (List.getElem?_eq_some_iff.mp hq).1
    rwa [wsl_len] at this
  rw [wsl_at hk] at hq
  cases hq
  have h := hW k _ (wslP_at hk)
  by_cases h13 : (shp k).1 = 13
  · rw [entP_P h13] at h
    rw [ent_P h13]
    have h8 : alen k = 8 := (by decide +kernel : ∀ k, k < 169 → (shp k).1 = 13 → alen k = 8) k hk h13
    show H[G.2.2.1 k]? = some (vp_cell (G.2.1 3) _)
    have h' : H[G.2.2.1 k]? = some (vp_cell (G.2.1 3) (alen k, .inr (.inr (.inr (.inr (fun j => (R k j).map G.2.2.1)))))) := h
    rw [h', h8, vp_cell_q, vp_cell_q]
    unfold arrV
    congr 3
    funext j
    have hj := j.isLt
    have := hR k hk j.val (Or.inl h13)
    simp only [this]
    unfold fin
    rw [if_pos h13, if_pos hj]
    rfl
  · have he : ent G M k = entP G R M k := by
      have e2 : entP G R M k = entP G fin M k := (entP_ref (fun b hb => (hR k hk b hb).symm)).symm
      rw [e2]
      unfold ent entP
      rw [if_neg h13, if_neg h13]
      by_cases h0 : (shp k).1 = 10
      · rw [if_pos h0, if_pos h0]
      rw [if_neg h0, if_neg h0]
      by_cases h1 : (shp k).1 = 11
      · rw [if_pos h1, if_pos h1]
      rw [if_neg h1, if_neg h1]
      by_cases h2 : (shp k).1 = 12
      · rw [if_pos h2, if_pos h2]
      rw [if_neg h2, if_neg h2]
      congr 2
      unfold fvs fvsP
      refine List.map_congr_left (fun j _ => ?_)
      unfold fv fvP
      by_cases c0 : (fcode (shp k).1).getD j 0 = 0
      · rw [if_pos c0, if_pos c0]
      rw [if_neg c0, if_neg c0]
      by_cases c1 : (fcode (shp k).1).getD j 0 = 1
      · rw [if_pos c1, if_pos c1]
      rw [if_neg c1, if_neg c1]
      unfold fin
      rw [if_neg h13]
      rfl
    rw [he]
    exact h
/-! THE CLAIM OUT OF ONE WALK OF THE LAW'S BODY. Your part is whole_start (and what it stands on); all else here is the same for every law, but numbers. -/
def R_law : String := "LinesOfFragmentsLaw"
def lw_P (b : Addr) (xs : List Int32) (args : Array Value) (s : State) : Prop := args = #[.ref b] ∧ s.IntsAt b xs ∧ xs.length ≤ 2560 ∧ (Jvm.Cond.and given_1 narrow_1).before args s = true
/-- what a walk over the start with the record d0 says of its end, said of the start itself -/
theorem lw_closed {s t : State} {o : Outcome} {d0 : Drawn} {L : List Loc} {k n : Nat} (hd0 : s.drawn.sameBut d0 lw_cs) (hv : ∃ v, o = .returned v) (hW : (s.setDrawn d0).WarmedH t.vm) (hs : (s.setDrawn d0).sameButNew ({ t with vm := s.vm } : State) L k n) : State.butDraws s t lw_cs (fun t1 => Framed s o t1 L k n) := by
  have h2 : t.drawn = d0 := congrArg State.drawn hs.1
  refine ⟨⟨hv, hW, State.sameButNew.setDrawn hs s.drawn⟩, ?_, by decide⟩
  rw [h2]
  exact hd0
def lw_Q (_ : Array Value) (s : State) (o : Outcome) (t : State) : Prop := o = .returned (some (.int 1)) ∧ State.butDraws s t lw_cs (fun t1 => Framed s o t1 [] 600000 7302250)
def lw_Z (below : List Frame) (a : Array Value) (s : State) : State → Prop := fun t => ∃ o, t.status = .running ∧ Ended t below o ∧ lw_Q a s o t
/-- the law's own end, with 1 on the stack, nothing written that was there before, its room as the claim has it; d0: the record of draws at this point (at the entry s.drawn: begin with 'refine W.base ?_' and 'have hd0 := Drawn.sameBut.refl s.drawn lw_cs') -/
theorem lw_ret {p : Program} {l : Launch} {e : Env} {s : State} {m : MethodId} {below : List Frame} {meth : Method} {c : Code} {b : Nat} {d0 : Drawn} (hd0 : s.drawn.sameBut d0 lw_cs) (hx : p.tables.exec = Jvm.exec) (hb : c.code = code) (hr : meth.sig.returnType = ret) (hlocks : meth.locks = false) {pc : Nat} {H : Heap} {ls : Array Slot} (hdg : decode code pc = .ok (.ireturn, 1)) : W p l e room_1 (s.setDrawn d0) m #[Value.ref b] below meth c H [] 600000 7302250 (lw_Z below #[Value.ref b] s) (F0 m pc ls [.int 1]) := by
  intro T hT X
  obtain ⟨fs, hret, hrun, hended, hW, hframe⟩ := X.leave (v := some (.int 1)) (hlocks := hlocks) (fun h => by rw [hr] at h; cases h)
  have hmeth' : T.vm.method? m = some meth := X.method'
  refine ⟨T.setFrames fs, ?_, .returned (some (.int 1)), hrun, hended, rfl, lw_closed hd0 ⟨_, rfl⟩ hW hframe⟩
  jvm_step X.here [X.here.top, hx, hb, hdg, hmeth', hr, ret, narrow_b1]
  (try refine ⟨rfl, ?_⟩); (try refine ⟨rfl, ?_⟩)
  first | (intro acts; rw [hret _ acts rfl rfl rfl]) | rw [hret _ _ rfl rfl rfl]
  exact Steps.refl _
/-- what holds at the law's entry: the machine, the code, the tables' words (any of lw_tbl by 'hts w (by decide +kernel)'), the script of L ints xs at the cell b, what the Statement gives of the start (any of its parts by flat_of_before) -/
def lw_At (p : Program) (s : State) (m : MethodId) (meth : Method) (c : Code) (b L : Nat) (xs : Nat → Int32) : Prop :=
  p.tables.exec = Jvm.exec ∧ c.code = code ∧ meth.sig.returnType = ret ∧ c.maxLocals = 4 ∧ s.vm.findClass R_law = some m.cls ∧ (∀ w ∈ lw_tbl, w.before #[Value.ref b] s = true) ∧ va_X b L xs s s.heap ∧ b < s.heap.size ∧ meth.locks = false ∧ (Jvm.Cond.and given_1 narrow_1).before #[Value.ref b] s = true

theorem len_lt {args : Array Value} {s : State} {tm : Term} {a : Addr} {cell : Cell} {v : Value} (ht : tm.eval args s none [] s = some (.ref a)) (hc : s.arrayAt? a = some cell) (hv : (Term.length tm).eval args s none [] s = some v) : cell.slots.size < 2147483648 := by
  simp only [Term.eval, ht, hc, Option.bind_eq_bind, Option.bind_some] at hv
  by_cases hlt : cell.slots.size < 2147483648
  · exact hlt
  · simp [hlt] at hv
/-- what the statics give at the law's entry -/
theorem lw_sta {s : State} {args : Array Value} {A : Nat → Prop} (hts : ∀ w ∈ lw_tbl, w.before args s = true) (hgv : (Jvm.Cond.and given_1 narrow_1).before args s = true) (hA : ∀ a : Nat, a < s.heap.size → ¬ A a) : ∃ t : Nat, va_Z RX8 "FIRST_WIDTHS" "[I" (.ref t) A s s.heap ∧ va_T .int t 8 fwV A s s.heap ∧ ∃ (cell : Cell) (cI : ClassId), s.heap[t]? = some cell ∧ ((∀ k, cell.vm ≠ .statics k) ∧ cell.vm ≠ .unknown) ∧ cell.cls = cI ∧ s.vm.findClass "[I" = some cI ∧ cell.slots = (arrV cI 8 fwV).slots := by
  have hs := flat_of_before _ hgv
  have harr : (Cond.arrayOf (.static "LinesOfFragments" "FIRST_WIDTHS" "[I") .int).before args s = true := hs _ (by decide +kernel)
  have hlen : (Term.length (.static "LinesOfFragments" "FIRST_WIDTHS" "[I")).eval args s none [] s = some (.int (Int32.ofNat 8)) := va_eqt (hs _ (by decide +kernel : Cond.eq (.length (.static "LinesOfFragments" "FIRST_WIDTHS" "[I")) (.int 8) ∈ flatC (Cond.and given_1 narrow_1)))
  have hel : ∀ j : Nat, j < 8 → (Term.elem (.static "LinesOfFragments" "FIRST_WIDTHS" "[I") (.int (Int32.ofNat j))).eval args s none [] s = some (fwV j) := by
    intro j hj
    match j, hj with
    | 0, _ => exact va_eqt (hs _ (by decide +kernel : Cond.eq (.elem (.static "LinesOfFragments" "FIRST_WIDTHS" "[I") (.int 0)) (.int 3) ∈ flatC (Cond.and given_1 narrow_1)))
    | 1, _ => exact va_eqt (hs _ (by decide +kernel : Cond.eq (.elem (.static "LinesOfFragments" "FIRST_WIDTHS" "[I") (.int 1)) (.int 4) ∈ flatC (Cond.and given_1 narrow_1)))
    | 2, _ => exact va_eqt (hs _ (by decide +kernel : Cond.eq (.elem (.static "LinesOfFragments" "FIRST_WIDTHS" "[I") (.int 2)) (.int 3) ∈ flatC (Cond.and given_1 narrow_1)))
    | 3, _ => exact va_eqt (hs _ (by decide +kernel : Cond.eq (.elem (.static "LinesOfFragments" "FIRST_WIDTHS" "[I") (.int 3)) (.int 4) ∈ flatC (Cond.and given_1 narrow_1)))
    | 4, _ => exact va_eqt (hs _ (by decide +kernel : Cond.eq (.elem (.static "LinesOfFragments" "FIRST_WIDTHS" "[I") (.int 4)) (.int 3) ∈ flatC (Cond.and given_1 narrow_1)))
    | 5, _ => exact va_eqt (hs _ (by decide +kernel : Cond.eq (.elem (.static "LinesOfFragments" "FIRST_WIDTHS" "[I") (.int 5)) (.int 2) ∈ flatC (Cond.and given_1 narrow_1)))
    | 6, _ => exact va_eqt (hs _ (by decide +kernel : Cond.eq (.elem (.static "LinesOfFragments" "FIRST_WIDTHS" "[I") (.int 6)) (.int 4) ∈ flatC (Cond.and given_1 narrow_1)))
    | 7, _ => exact va_eqt (hs _ (by decide +kernel : Cond.eq (.elem (.static "LinesOfFragments" "FIRST_WIDTHS" "[I") (.int 7)) (.int 4) ∈ flatC (Cond.and given_1 narrow_1)))
  obtain ⟨t, ht, hT⟩ := va_Tof (A := A) (by decide) harr hlen hel hA
  refine ⟨t, va_Zref (hts _ (mem_t1 (List.mem_of_getElem? (i := 32) rfl))) (hts _ (lw_all_in wd1_1)) ht hA, hT, ?_⟩
  obtain ⟨a, c, cell, k, e1, e2, e3, e4, e5, e6, -⟩ := Cond.exactly_spec (hs _ (by decide +kernel : Cond.exactly (.static "LinesOfFragments" "FIRST_WIDTHS" "[I") "[I" ∈ flatC (Cond.and given_1 narrow_1)))
  cases ht.symm.trans e1
  obtain ⟨a2, cell2, l1, l2, l3⟩ := Term.length_spec hlen
  cases ht.symm.trans l1
  obtain ⟨m1, m2, m3, -⟩ := State.arrayAt?_spec l2
  cases e3.symm.trans m1
  obtain ⟨hof, -⟩ := Cond.arrayOf_spec harr ht e3
  have hsz : cell.slots.size = 8 := by
    have hlt : cell.slots.size < 2147483648 := len_lt ht l2 hlen
    have h8 : cell.slots.size.toInt32 = Int32.ofNat 8 := (Value.int.inj l3).symm
    have h9 := congrArg Int32.toInt h8
    have h10 : (Int32.ofNat cell.slots.size).toInt = (cell.slots.size : Int) := Int32.toInt_ofNat_of_lt hlt
    have h11 : (cell.slots.size.toInt32).toInt = (cell.slots.size : Int) := h10
    rw [h11] at h9
    have h12 : (Int32.ofNat 8).toInt = 8 := by decide
    rw [h12] at h9
    omega
  refine ⟨cell, c, e3, ⟨hof.1, m2⟩, e6, e2, ?_⟩
  obtain ⟨cell3, g1, g2, g3, g4, g5, g6, g7⟩ := hT
  cases e3.symm.trans g1
  apply Array.ext_getElem?
  intro i
  by_cases hi : i < 8
  · rw [g6 i hi, arrV_read c fwV hi]
  · rw [Array.getElem?_eq_none (by omega), Array.getElem?_eq_none (by rw [arrV_size]; omega)]
set_option maxHeartbeats 4000000 in
set_option maxRecDepth 100000 in
/-- THE LAW, from its entry, out of what its functional reading answers -/
theorem whole_start_open (hmain : ∀ (xs : Nat → Int32) (L : Nat), L ≤ 2560 → ∃ Mr : Mem, lq2 (f_law_L xs L) FU (0 : Int32) Mini = some ((1 : Int32), Mr)) {p : Program} {e : Env} {s : State} {m : MethodId} {below : List Frame} {meth : Method} {c : Code} (l : Launch) {b L : Nat} {xs : Nat → Int32} (hL : L ≤ 2560) (C0 : lw_At p s m meth c b L xs) : W p l e room_1 s m #[Value.ref b] below meth c s.heap [] 0 0 (lw_Z below #[Value.ref b] s) (entryFrame m ([Value.ref b] : List Value).toArray 4) := by
  obtain ⟨hx, hb, hr, hml, hown, hts, hX, hbl, hlocks, hgv⟩ := id C0
  have hA : ∀ w ∈ lw_all, w.before #[Value.ref b] s = true := fun w h => hts w (lw_all_in h)
  obtain ⟨c0, iS0, hKn0⟩ := u_known (C := RX0) (T := TX0) (N := 4) (n := 4) hA inA0 (hA _ wd1_213)
  obtain ⟨c1, iS1, hKn1⟩ := u_known (C := RX1) (T := TX1) (N := 3) (n := 3) hA inA1 (hA _ wd1_160)
  obtain ⟨c2, iS2, hKn2⟩ := u_known (C := RX2) (T := TX2) (N := 18) (n := 18) hA inA2 (hA _ wd1_207)
  obtain ⟨c3, iS3, hKn3⟩ := u_known (C := RX3) (T := TX3) (N := 13) (n := 13) hA inA3 (hA _ wd1_26)
  obtain ⟨c4, iS4, hKn4⟩ := u_known (C := RX4) (T := TX4) (N := 5) (n := 5) hA inA4 (hA _ wd1_65)
  obtain ⟨c5, iS5, hKn5⟩ := u_known (C := RX5) (T := TX5) (N := 4) (n := 4) hA inA5 (hA _ wd1_180)
  obtain ⟨c6, iS6, hKn6⟩ := u_known (C := RX6) (T := TX6) (N := 8) (n := 8) hA inA6 (hA _ wd1_201)
  obtain ⟨c7, iS7, hKn7⟩ := u_known (C := RX7) (T := TX7) (N := 4) (n := 4) hA inA7 (hA _ wd1_41)
  obtain ⟨c8, iS8, hKn8⟩ := u_known (C := RX8) (T := TX8) (N := 11) (n := 11) hA inA8 (hA _ wd1_18)
  obtain ⟨c9, iS9, hKn9⟩ := u_known (C := RX9) (T := TX9) (N := 54) (n := 54) hA inA9 (hA _ wd5_74)
  obtain ⟨dC, dI, hKc⟩ : ∃ (dC : Nat → ClassId) (dI : Nat → Nat → Nat), ∀ (k : Nat) (q : vw_C), vwCl[k]? = some q → u_Kn s q.1 q.2.1 q.2.2 (dC k) (dI k) := by
    refine ⟨fun k => if k = 0 then c0 else if k = 1 then c1 else if k = 2 then c2 else if k = 3 then c3 else if k = 4 then c4 else if k = 5 then c5 else if k = 6 then c6 else if k = 7 then c7 else if k = 8 then c8 else c9, fun k => if k = 0 then iS0 else if k = 1 then iS1 else if k = 2 then iS2 else if k = 3 then iS3 else if k = 4 then iS4 else if k = 5 then iS5 else if k = 6 then iS6 else if k = 7 then iS7 else if k = 8 then iS8 else iS9, ?_⟩
    intro k q hq
    match k, hq with
    | 0, hq => cases hq; exact hKn0
    | 1, hq => cases hq; exact hKn1
    | 2, hq => cases hq; exact hKn2
    | 3, hq => cases hq; exact hKn3
    | 4, hq => cases hq; exact hKn4
    | 5, hq => cases hq; exact hKn5
    | 6, hq => cases hq; exact hKn6
    | 7, hq => cases hq; exact hKn7
    | 8, hq => cases hq; exact hKn8
    | 9, hq => cases hq; exact hKn9
    | k + 10, hq => simp [vwCl] at hq
  obtain ⟨aI, kI, oI, fI1, fI2, fI3⟩ := Cond.arrayClass_spec (hA _ wdA_I)
  obtain ⟨aJ, kJ, oJ, fJ1, fJ2, fJ3⟩ := Cond.arrayClass_spec (hA _ wdA_L)
  obtain ⟨aF, kF, oF, fF1, fF2, fF3⟩ := Cond.arrayClass_spec (hA _ wdA_F)
  have hover : (Cond.arrayOver (.object RX3)).before #[Value.ref b] s = true := hts _ (mem_t1 (List.mem_of_getElem? (i := 166) rfl))
  obtain ⟨oP, aP, kP, fP0, fP1, fP2, fP3, fP4⟩ := Cond.arrayOver_spec hover
  obtain ⟨t, hZ, hT, cell, cI, g1, g2, g3, g4, g5⟩ := lw_sta (A := fun q => ∃ k, k < NN ∧ q = s.heap.size + k) hts hgv (fun a h ⟨k, _, h2⟩ => by omega)
  obtain ⟨G, eG⟩ : ∃ G : GG, G = ((dC, dI), (fun k => if k = 0 then aI else if k = 1 then aJ else if k = 2 then aF else aP), (fun k => s.heap.size + k), t) := ⟨_, rfl⟩
  have hcI : cI = aI := Option.some.inj (g4.symm.trans fI1)
  subst hcI
  have hAd : ∀ k, G.2.2.1 k = s.heap.size + k := fun k => by rw [eG]
  have hLG : adL G := fun k => by rw [hAd k, hAd 0]; omega
  have hAq : ∀ q : Nat, adA G q → s.heap.size ≤ q := by
    rintro q ⟨k, -, rfl⟩
    rw [hAd k]; omega
  have hbA : ¬ adA G b := fun h => by have := hAq b h; omega
  have hd0 := Drawn.sameBut.refl s.drawn lw_cs
  refine W.base ?_
  have hK : va_K G.1 vwCl (tysl G) (s.setDrawn s.drawn) := by
    rw [eG]
    refine va_K.moved (u := s) (Vm.Alike.refl _) ⟨hKc, fun k q h => ?_⟩
    match k, h with
    | 0, h => cases h; exact ⟨fun n z => ⟨fun k h => (by cases h), kI, fI2, oI, fI3⟩, fI1⟩
    | 1, h => cases h; exact ⟨fun n z => ⟨fun k h => (by cases h), kJ, fJ2, oJ, fJ3⟩, fJ1⟩
    | 2, h => cases h; exact ⟨fun n z => ⟨fun k h => (by cases h), kF, fF2, oF, fF3⟩, fF1⟩
    | 3, h => cases h; exact ⟨fun n z => ⟨fun k h => (by cases h), kP, fP2, oP, fP3⟩, kP, oP, fP2, fP3, fP0, fP4⟩
    | k + 4, h => simp at h
  have hadA : adA G = fun q => ∃ k, k < NN ∧ q = s.heap.size + k := by
    funext q; unfold adA; rw [eG]
  have hSta : Sta G (s.setDrawn s.drawn) (s.setDrawn s.drawn).heap := by
    refine Sta.moved (u := s) (Vm.Alike.refl _) ?_
    unfold Sta
    rw [hadA]
    have e2 : G.2.2.2 = t := by rw [eG]
    rw [e2]
    exact ⟨hZ, hT⟩
  have hNst : Nst (s.setDrawn s.drawn) := Nst.same (u := s) rfl (fun q hq => va_Nw.of rfl (lw_nest hts q hq))
  have hXT : XT (s.setDrawn s.drawn) := XT.same (u := s) rfl ⟨va_Nw.of rfl (hts _ (mem_t1 (List.mem_of_getElem? (i := 38) rfl))), va_AO.of hover, va_Nw.of rfl (hts _ (mem_t1 (List.mem_of_getElem? (i := 31) rfl)))⟩
  have hStX : StX G (s.setDrawn s.drawn) (s.setDrawn s.drawn).heap := by
    refine ⟨⟨cell, ?_, g2, ?_, ?_, ?_, ?_⟩, hXT⟩
    · rw [eG]; exact g1
    · rw [eG]; exact g3
    · rw [eG]; exact g5
    · rw [hadA, eG]; rintro ⟨k, -, h2⟩; have h2 : t = s.heap.size + k := h2; have := (Array.getElem?_eq_some_iff.mp g1).1; omega
    · rw [eG]; exact g4
  have hB : BX p (s.setDrawn s.drawn) m #[Value.ref b] c cL_law 4 RL G := ⟨hx, hb, hml, hown, dr_words hA _, hK, hLG.inj, hSta, hNst⟩
  have hX' : va_X b L xs (s.setDrawn s.drawn) (s.setDrawn s.drawn).heap := va_X.moved (u := s) (Vm.Alike.refl _) hX
  have hS : va_S (adA G) (s.setDrawn s.drawn).heap s.heap [] := va_S.rf
  have hW : WP G (fun _ _ => none) 0 Mz s.heap := fun k q h => by simp [wslP] at h
  have hl := lv_entry ([.ref b]) (n := 4) (Nat.le_of_ble_eq_true rfl)
  rw [lg_entry_eq]
  generalize (lg_sl ([.ref b]) ++ List.replicate (4 - (lg_sl ([.ref b])).length) Slot.unset).toArray = ls at hl ⊢
  have hl : lv_has ls 4 [(0, .ref b)] := hl
  have hs0 : (s.setDrawn s.drawn).heap.size = G.2.2.1 0 + 0 := by rw [hAd 0]; rfl
  have hsz : s.heap.size = G.2.2.1 0 + 0 := hs0
  refine p_new hB hLG hW hsz hS inA8 tyX8 tyX8_ok wd1_17 wd1_18 wd1_1 rfl (by decide) tl0 (nf_8 (fun j => by rw [(Zr_z 0 169 _ (by omega) (by omega)).1 j]; exact iniR_o (by rw [tl0.2]; decide)) ((Zr_z 0 169 _ (by omega) (by omega)).2.2)) (Nat.le_of_ble_eq_true rfl) (Nat.le_of_ble_eq_true rfl) dL_law_0 (fun H hW hS => ?_)
  refine lv_dup hx hb dL_law_3 rfl ?_
  refine p_size (X := G.2.2.1 0 + 1) (by omega) (p_low hLG hW) (fun hsz => ?_)
  refine p_call hB hStX hW hsz hS (cc_X8 l G hLG (Zr_z 0 139)) (cl_RL_9 hB.2.2.2.2.1 ⟨Nat.le_of_ble_eq_true rfl, Nat.le_of_ble_eq_true rfl⟩) hl.1 (Nat.le_of_ble_eq_true rfl) dL_law_4 ⟨Nat.le_of_ble_eq_true rfl, Nat.le_of_ble_eq_true rfl⟩ (fun H locs hW hS => ?_)
  have hW : WP G (Rf (rz (fun _ _ => none) 0) 0 139) 139 (mk8 Mz) H := hW
  refine lv_astore_n (lv' := [(1, .ref (G.2.2.1 0)), (0, .ref b)]) hx hb dL_law_7 rfl hl (by decide) rfl (fun ls hl => ?_)
  refine p_size (X := G.2.2.1 0 + 139) (by omega) (p_low hLG hW) (fun hsz => ?_)
  refine p_new hB hLG hW hsz hS inA9 tyX9 tyX9_ok wd5_73 wd5_74 wd1_10 rfl (by decide) tl139 (nf_9 (fun j => by rw [(Zr_mk8 _ (by omega) (by omega)).1 j]; exact iniR_o (by rw [tl139.2]; decide)) ((Zr_mk8 _ (by omega) (by omega)).2.2)) (Nat.le_of_ble_eq_true rfl) (Nat.le_of_ble_eq_true rfl) dL_law_8 (fun H hW hS => ?_)
  refine lv_dup hx hb dL_law_11 rfl ?_
  refine p_size (X := G.2.2.1 0 + 140) (by omega) (p_low hLG hW) (fun hsz => ?_)
  refine p_call hB hStX hW hsz hS (cc_X9 l G hLG Zr_mk8) (cl_RL_12 hB.2.2.2.2.1 ⟨Nat.le_of_ble_eq_true rfl, Nat.le_of_ble_eq_true rfl⟩) hl.1 (Nat.le_of_ble_eq_true rfl) dL_law_12 ⟨Nat.le_of_ble_eq_true rfl, Nat.le_of_ble_eq_true rfl⟩ (fun H locs hW hS => ?_)
  have hW : WP G (Rf (rz (Rf (rz (fun _ _ => none) 0) 0 139) 139) 139 169) 169 Mini H := hW
  have hW : Wd G Mini H := p_done hW (fun a ha bb hbb => by
    rcases Nat.lt_or_ge a 139 with q | q
    · rw [Rf_out (by omega), rz_ne (by omega), Rf_in ⟨by omega, by omega⟩]
    · rw [Rf_in ⟨by omega, by omega⟩])
  refine lv_astore_n (lv' := [(2, .ref (G.2.2.1 139)), (1, .ref (G.2.2.1 0)), (0, .ref b)]) hx hb dL_law_15 rfl hl (by decide) rfl (fun ls hl => ?_)
  refine lv_iconst (v := (0 : Int32)) hx hb dL_law_16 (by decide) ?_
  refine lv_istore_n (lv' := [(3, .int (0 : Int32)), (2, .ref (G.2.2.1 139)), (1, .ref (G.2.2.1 0)), (0, .ref b)]) hx hb dL_law_17 rfl hl (by decide) rfl (fun ls hl => ?_)
  obtain ⟨Mr, hM⟩ := hmain xs L hL
  refine law_loop (cells := _) (slots := _) (Mr := Mr) hB ⟨Nat.le_of_ble_eq_true rfl, Nat.le_of_ble_eq_true rfl⟩ hX' hbl hbA (fun H locs ls hW hS => ?_) FU (0 : Int32) Mini _ _ ls hW hS (lv_sub hl [3, 2, 1, 0] rfl) hM
  refine va_forget (fun q hq => hAq _ (hS.2.2 q hq)) ?_
  refine W.widen (k := 600000) (n := 7302250) (Nat.le_of_ble_eq_true rfl) (Nat.le_of_ble_eq_true rfl) ?_
  exact lw_ret hd0 hx hb hr hlocks dL_law_1301
