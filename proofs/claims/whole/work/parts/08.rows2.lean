def irm (x y : Int32) : Int32 := x - x / y * y
def lrm (x y : Int64) : Int64 := x - x / y * y
def ishl_ (x y : Int32) : Int32 := x <<< (y &&& 31)
def ishr_ (x y : Int32) : Int32 := x >>> (y &&& 31)
abbrev cpB (sp dp n : Int32) (n0 n1 : Nat) : Prop := ¬ sp < 0 ∧ ¬ dp < 0 ∧ ¬ n < 0 ∧ sp.toNatClampNeg + n.toNatClampNeg ≤ n0 ∧ dp.toNatClampNeg + n.toNatClampNeg ≤ n1
theorem s_1 {α β : Type} {a x : α} {b y : β} (h : some (a, b) = some (x, y)) : a = x := congrArg Prod.fst (Option.some.inj h)
theorem s_2 {α β : Type} {a x : α} {b y : β} (h : some (a, b) = some (x, y)) : b = y := congrArg Prod.snd (Option.some.inj h)
theorem o_n {α : Type} {a : Option α} {b : Nat → Option α} {r : Option α} (h : oq none a b = r) : a = r := h
theorem o_s {α : Type} {k : Nat} {a : Option α} {b : Nat → Option α} {r : Option α} (h : oq (some k) a b = r) : b k = r := h
theorem sw_out {x : Int32} {lo hi : Int} (h : ∀ v : Int, lo ≤ v → v ≤ hi → x = Int32.ofInt v → False) : x.toInt < lo ∨ hi < x.toInt := by
  rcases Int.lt_or_le x.toInt lo with h1 | h1
  · exact Or.inl h1
  rcases Int.lt_or_le hi x.toInt with h2 | h2
  · exact Or.inr h2
  exact (h x.toInt h1 h2 (Int32.ofInt_toInt x).symm).elim
theorem sw_ne {x : Int32} {v : Int32} (h : ¬ x = v) : v.toInt ≠ x.toInt := fun e => h (Int32.toInt_inj.mp e).symm
theorem lk_out {ps : List (Int × Int)} {d k : Int} (h : ∀ q ∈ ps, q.1 ≠ k) : Op.lookupswitch.offset ps d k = d := by
  induction ps with
  | nil => rfl
  | cons a l ih =>
    unfold Op.lookupswitch.offset
    obtain ⟨x, o⟩ := a
    show (if x = k then o else Op.lookupswitch.offset l d k) = d
    rw [if_neg (h (x, o) List.mem_cons_self)]
    exact ih (fun q hq => h q (List.mem_cons_of_mem _ hq))
theorem row_sri (M : Mem) (k : Nat) (r : Nat → Int32) : gi (sri M k r) k = r := by funext j; rw [gi_sri, if_pos rfl]
theorem row_srl (M : Mem) (k : Nat) (r : Nat → Int64) : gl (srl M k r) k = r := by funext j; rw [gl_srl, if_pos rfl]
theorem row_srf (M : Mem) (k : Nat) (r : Nat → UInt32) : gf (srf M k r) k = r := by funext j; rw [gf_srf, if_pos rfl]
section WK3
variable {p : Program} {l : Launch} {e : Env} {R : Room} {s : State} {m : MethodId} {args : Array Value} {below : List Frame} {meth : Method} {c : Code} {H : Heap} {locs : List Loc} {cells slots : Nat} {Q : State → Prop}
variable {cc : ByteArray} {nL : Nat} {own : String} {pc : Nat} {ls : Array Slot} {rest : List Value} {G : GG} {M : Mem}
theorem y_fadd (hB : BX p s m args c cc nL own G) {x y z : UInt32} (ez : z = FP.fadd x y) (hz : nN z) (hdg : decode cc pc = .ok (.fadd, 1)) (k : W p l e R s m args below meth c H locs cells slots Q (F0 m (pc + 1) ls (.float z :: rest))) : W p l e R s m args below meth c H locs cells slots Q (F0 m pc ls (.float y :: .float x :: rest)) := by
  subst ez; exact lv_fadd hB.x hB.b hdg hz k
theorem y_fmul (hB : BX p s m args c cc nL own G) {x y z : UInt32} (ez : z = FP.fmul x y) (hz : nN z) (hdg : decode cc pc = .ok (.fmul, 1)) (k : W p l e R s m args below meth c H locs cells slots Q (F0 m (pc + 1) ls (.float z :: rest))) : W p l e R s m args below meth c H locs cells slots Q (F0 m pc ls (.float y :: .float x :: rest)) := by
  subst ez; exact lv_fmul hB.x hB.b hdg hz k
theorem y_fdiv (hB : BX p s m args c cc nL own G) {x y z : UInt32} (ez : z = FP.fdiv x y) (hz : nN z) (hdg : decode cc pc = .ok (.fdiv, 1)) (k : W p l e R s m args below meth c H locs cells slots Q (F0 m (pc + 1) ls (.float z :: rest))) : W p l e R s m args below meth c H locs cells slots Q (F0 m pc ls (.float y :: .float x :: rest)) := by
  subst ez; exact lv_fdiv hB.x hB.b hdg hz k
theorem x_copyi (hB : BX p s m args c cc nL own G) (hW : Wd G M H) (hS : va_S (adA G) s.heap H locs) {k0 k1 n0 n1 : Nat} (hk0 : isT 10 k0) (hn0 : alen k0 = n0) (hk1 : isT 10 k1) (hn1 : alen k1 = n1) {sp dp n : Int32} (hc : cpB sp dp n n0 n1) (hls : ls.size = nL) {index : Nat} (hlink : Cond.methodLink own index arraycopyName ∈ lw_all) (hfr : 1 ≤ R.frames) (hlo : (rest.map fun v => v.category).sum + 18 ≤ R.locals) (hdg : decode cc pc = .ok (.invokestatic index, 3))
    (kk : ∀ (H1 : Heap) (locs1 : List Loc) (M1 : Mem), M1 = sri M k1 (va_cpy (gi M k0) (gi M k1) sp.toNatClampNeg dp.toNatClampNeg n.toNatClampNeg) → Wd G M1 H1 → va_S (adA G) s.heap H1 locs1 → W p l e R s m args below meth c H1 locs1 cells slots Q (F0 m (pc + 3) ls rest)) : W p l e R s m args below meth c H locs cells slots Q (F0 m pc ls (.int n :: .int dp :: .ref (G.2.2.1 k1) :: .int sp :: .ref (G.2.2.1 k0) :: rest)) := by
  refine va_copyi (D := G.1) (cl := vwCl) (tys := tysl G) (ty := .int) hB.x hB.b (by rw [hB.ml, hls]) hB.ow (hB.w hlink) (hB.w wd2_196) (hB.w wd2_195) (hB.w wd1_12) hB.k hW (wsl_D M hB.inj) hS k0 k1 0 0 (by rw [wsl_at hk0.1, ent_I hk0.2, hn0]) (by rw [wsl_at hk1.1, ent_I hk1.2, hn1]) rfl rfl rfl hc.1 hc.2.1 hc.2.2.1 hc.2.2.2.1 hc.2.2.2.2 (fun i _ => rfl) hfr hlo hdg (fun H1 locs1 hP1 _ hS1 => kk H1 locs1 _ rfl ?_ hS1)
  rw [wsl_set (M' := sri M k1 (va_cpy (gi M k0) (gi M k1) sp.toNatClampNeg dp.toNatClampNeg n.toNatClampNeg)) hk1.1 (by rw [ent_I hk1.2, hn1, row_sri]) (fun a h => ent_sri h)] at hP1
  exact hP1
theorem x_copyl (hB : BX p s m args c cc nL own G) (hW : Wd G M H) (hS : va_S (adA G) s.heap H locs) {k0 k1 n0 n1 : Nat} (hk0 : isT 11 k0) (hn0 : alen k0 = n0) (hk1 : isT 11 k1) (hn1 : alen k1 = n1) {sp dp n : Int32} (hc : cpB sp dp n n0 n1) (hls : ls.size = nL) {index : Nat} (hlink : Cond.methodLink own index arraycopyName ∈ lw_all) (hfr : 1 ≤ R.frames) (hlo : (rest.map fun v => v.category).sum + 18 ≤ R.locals) (hdg : decode cc pc = .ok (.invokestatic index, 3))
    (kk : ∀ (H1 : Heap) (locs1 : List Loc) (M1 : Mem), M1 = srl M k1 (va_cpy (gl M k0) (gl M k1) sp.toNatClampNeg dp.toNatClampNeg n.toNatClampNeg) → Wd G M1 H1 → va_S (adA G) s.heap H1 locs1 → W p l e R s m args below meth c H1 locs1 cells slots Q (F0 m (pc + 3) ls rest)) : W p l e R s m args below meth c H locs cells slots Q (F0 m pc ls (.int n :: .int dp :: .ref (G.2.2.1 k1) :: .int sp :: .ref (G.2.2.1 k0) :: rest)) := by
  refine va_copyl (D := G.1) (cl := vwCl) (tys := tysl G) (ty := .long) hB.x hB.b (by rw [hB.ml, hls]) hB.ow (hB.w hlink) (hB.w wd2_196) (hB.w wd2_195) (hB.w wd1_12) hB.k hW (wsl_D M hB.inj) hS k0 k1 1 1 (by rw [wsl_at hk0.1, ent_L hk0.2, hn0]) (by rw [wsl_at hk1.1, ent_L hk1.2, hn1]) rfl rfl rfl hc.1 hc.2.1 hc.2.2.1 hc.2.2.2.1 hc.2.2.2.2 (fun i _ => rfl) hfr hlo hdg (fun H1 locs1 hP1 _ hS1 => kk H1 locs1 _ rfl ?_ hS1)
  rw [wsl_set (M' := srl M k1 (va_cpy (gl M k0) (gl M k1) sp.toNatClampNeg dp.toNatClampNeg n.toNatClampNeg)) hk1.1 (by rw [ent_L hk1.2, hn1, row_srl]) (fun a h => ent_srl h)] at hP1
  exact hP1
theorem x_copyf (hB : BX p s m args c cc nL own G) (hW : Wd G M H) (hS : va_S (adA G) s.heap H locs) {k0 k1 n0 n1 : Nat} (hk0 : isT 12 k0) (hn0 : alen k0 = n0) (hk1 : isT 12 k1) (hn1 : alen k1 = n1) {sp dp n : Int32} (hc : cpB sp dp n n0 n1) (hls : ls.size = nL) {index : Nat} (hlink : Cond.methodLink own index arraycopyName ∈ lw_all) (hfr : 1 ≤ R.frames) (hlo : (rest.map fun v => v.category).sum + 18 ≤ R.locals) (hdg : decode cc pc = .ok (.invokestatic index, 3))
    (kk : ∀ (H1 : Heap) (locs1 : List Loc) (M1 : Mem), M1 = srf M k1 (va_cpy (gf M k0) (gf M k1) sp.toNatClampNeg dp.toNatClampNeg n.toNatClampNeg) → Wd G M1 H1 → va_S (adA G) s.heap H1 locs1 → W p l e R s m args below meth c H1 locs1 cells slots Q (F0 m (pc + 3) ls rest)) : W p l e R s m args below meth c H locs cells slots Q (F0 m pc ls (.int n :: .int dp :: .ref (G.2.2.1 k1) :: .int sp :: .ref (G.2.2.1 k0) :: rest)) := by
  refine va_copyf (D := G.1) (cl := vwCl) (tys := tysl G) (ty := .float) hB.x hB.b (by rw [hB.ml, hls]) hB.ow (hB.w hlink) (hB.w wd2_196) (hB.w wd2_195) (hB.w wd1_12) hB.k hW (wsl_D M hB.inj) hS k0 k1 2 2 (by rw [wsl_at hk0.1, ent_F hk0.2, hn0]) (by rw [wsl_at hk1.1, ent_F hk1.2, hn1]) rfl rfl rfl hc.1 hc.2.1 hc.2.2.1 hc.2.2.2.1 hc.2.2.2.2 (fun i _ => rfl) hfr hlo hdg (fun H1 locs1 hP1 _ hS1 => kk H1 locs1 _ rfl ?_ hS1)
  rw [wsl_set (M' := srf M k1 (va_cpy (gf M k0) (gf M k1) sp.toNatClampNeg dp.toNatClampNeg n.toNatClampNeg)) hk1.1 (by rw [ent_F hk1.2, hn1, row_srf]) (fun a h => ent_srf h)] at hP1
  exact hP1
theorem x_rawbits (hB : BX p s m args c cc nL own G) (hls : ls.size = nL) {index : Nat} (hlink : Cond.methodLink own index ⟨"java/lang/Float", "floatToRawIntBits", "(F)I"⟩ ∈ lw_all) {b : UInt32} (hfr : 1 ≤ R.frames) (hlo : (rest.map fun v => v.category).sum + 15 ≤ R.locals) (hdg : decode cc pc = .ok (.invokestatic index, 3))
    (k : W p l e R s m args below meth c H locs cells slots Q (F0 m (pc + 3) ls (.int b.toInt32 :: rest))) : W p l e R s m args below meth c H locs cells slots Q (F0 m pc ls (.float b :: rest)) :=
  vn_f2i hB.x hB.b (by rw [hB.ml, hls]) hB.ow (hB.w hlink) (hB.w wd7_83) (hB.w wd7_82) (hB.w wd1_16) hfr hlo hdg k
theorem e_n (x : Option Nat) {r : Option Nat} {C : String} (hB : BX p s m args c cc nL own G) (hW : Wd G M H) (hS : va_S (adA G) s.heap H locs) (hr : meth.sig.returnType = some (.object C)) (hlk : meth.locks = false) (he : x = r) (hdg : decode cc pc = .ok (.areturn, 1)) : W p l e R s m args below meth c H locs cells slots (MQ below (Qn G r M) args s cells slots (adA G)) (F0 m pc ls [va_rf (x.map G.2.2.1)]) := by
  subst he
  exact W.aret hB.x hB.b hr (Or.inl ⟨_, rfl⟩) (by cases x with | none => exact Or.inl rfl | some k => exact Or.inr ⟨_, rfl⟩) (fun t ht hw => ⟨⟨_, (), rfl, rfl, hB.world hW hS ht hw⟩, hS.F ht⟩) hS.2.2 hdg
end WK3
