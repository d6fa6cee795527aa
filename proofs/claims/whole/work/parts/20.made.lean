/-! the world while it is made: its first n cells, one behind the other; R: what the fields that hold cells hold so far -/
abbrev RR : Type := Nat → Nat → Option Nat
def fvP (ad : Nat → Nat) (R : RR) (M : Mem) (k j c : Nat) : Value := if c = 0 then .int (gi M k j) else if c = 1 then .float (gf M k j) else va_rf ((R k j).map ad)
def fvsP (ad : Nat → Nat) (R : RR) (M : Mem) (k : Nat) (cs : List Nat) : List Value := (List.range cs.length).map (fun j => fvP ad R M k j (cs.getD j 0))
def entP (G : GG) (R : RR) (M : Mem) (k : Nat) : va_E :=
  if (shp k).1 = 10 then .inl (G.2.1 0, alen k, .inl (gi M k))
  else if (shp k).1 = 11 then .inl (G.2.1 1, alen k, .inr (.inl (gl M k)))
  else if (shp k).1 = 12 then .inl (G.2.1 2, alen k, .inr (.inr (.inl (gf M k))))
  else if (shp k).1 = 13 then .inl (G.2.1 3, alen k, .inr (.inr (.inr (.inr (fun j => (R k j).map G.2.2.1)))))
  else .inr ((shp k).1, fvsP G.2.2.1 R M k (fcode (shp k).1))
def wslP (G : GG) (R : RR) (n : Nat) (M : Mem) : va_W := (List.range n).map (fun k => (G.2.2.1 k, entP G R M k))
def adL (G : GG) : Prop := ∀ k, G.2.2.1 k = G.2.2.1 0 + k
def WP (G : GG) (R : RR) (n : Nat) (M : Mem) (H : Heap) : Prop := va_P G.1 vwCl (wslP G R n M) H
/-- the array that the widths are taken from, as it is -/
def XT (U : State) : Prop := va_Nw (.castable "[I" "java/lang/Cloneable") U ∧ va_AO RX3 U ∧ va_Nw (.fieldLinkNest RX3 9 RX8 "FIRST_WIDTHS" "[I" "LinesOfFragments") U
theorem XT.warm {s U : State} (hW : s.WarmedH U.vm) (h : XT s) : XT U := ⟨va_Nw.warmC hW h.1, va_AO.moved hW.alike h.2.1, va_Nw.warmF hW h.2.2⟩
theorem XT.same {u U : State} (h : u.vm = U.vm) (hN : XT u) : XT U := ⟨va_Nw.same rfl h hN.1, va_AO.moved (by rw [h]; exact Vm.Alike.refl _) hN.2.1, va_Nw.same rfl h hN.2.2⟩
def StX (G : GG) (U : State) (H : Heap) : Prop := (∃ cell : Cell, H[G.2.2.2]? = some cell ∧ ((∀ k, cell.vm ≠ .statics k) ∧ cell.vm ≠ .unknown) ∧ cell.cls = G.2.1 0 ∧ cell.slots = (arrV (G.2.1 0) 8 fwV).slots ∧ ¬ adA G G.2.2.2 ∧ U.vm.findClass "[I" = some (G.2.1 0)) ∧ XT U
def WorldP (G : GG) (R : RR) (n : Nat) (M : Mem) (U : State) : Prop := (WP G R n M U.heap ∧ U.heap.size = G.2.2.1 0 + n) ∧ va_K G.1 vwCl (tysl G) U ∧ adInj G ∧ Sta G U U.heap ∧ Nst U ∧ StX G U U.heap
theorem adL.inj {G : GG} (h : adL G) : adInj G := fun i j _ _ e => by rw [h i, h j] at e; omega
theorem wslP_at {G : GG} {R : RR} {M : Mem} {n k : Nat} (h : k < n) : (wslP G R n M)[k]? = some (G.2.2.1 k, entP G R M k) := by
  simp [wslP, List.getElem?_map, List.getElem?_range h]
theorem wslP_len (G : GG) (R : RR) (n : Nat) (M : Mem) : (wslP G R n M).length = n := by simp [wslP]
theorem wslP_D {G : GG} (R : RR) {n : Nat} (M : Mem) (h : adInj G) (hn : n ≤ NN) : va_D (adA G) (wslP G R n M) := by
  have key : ∀ (k : Nat) (q : Nat × va_E), (wslP G R n M)[k]? = some q → k < n ∧ q.1 = G.2.2.1 k := by
    intro k q hq
    have hk : k < n := by
      have := (List.getElem?_eq_some_iff.mp hq).1
      rwa [wslP_len] at this
    rw [wslP_at hk] at hq
    exact ⟨hk, by rw [← Option.some.inj hq]⟩
  refine ⟨fun i j p q hp hq e => ?_, fun k q hq => ?_⟩
  · obtain ⟨a1, a2⟩ := key i p hp
    obtain ⟨b1, b2⟩ := key j q hq
    exact h i j (Nat.lt_of_lt_of_le a1 hn) (Nat.lt_of_lt_of_le b1 hn) (by rw [← a2, ← b2, e])
  · obtain ⟨a1, a2⟩ := key k q hq
    exact ⟨k, Nat.lt_of_lt_of_le a1 hn, a2⟩
theorem wslP_set {G : GG} {R R' : RR} {M M' : Mem} {n k : Nat} {e : va_E} (h : k < n) (h1 : entP G R' M' k = e) (h2 : ∀ j, j < n → j ≠ k → entP G R' M' j = entP G R M j) : (wslP G R n M).set k (G.2.2.1 k, e) = wslP G R' n M' := by
  apply List.ext_getElem?
  intro i
  rw [List.getElem?_set]
  by_cases hi : i < n
  · rw [wslP_at hi]
    by_cases hik : k = i
    · subst hik
      rw [if_pos rfl, if_pos (by rw [wslP_len]; exact h), wslP_at hi, h1]
    · rw [if_neg hik, wslP_at hi, h2 i hi (Ne.symm hik)]
  · have hl : (wslP G R' n M').length ≤ i := by rw [wslP_len]; omega
    have hl2 : (wslP G R n M).length ≤ i := by rw [wslP_len]; omega
    rw [List.getElem?_eq_none hl, List.getElem?_eq_none hl2]
    rw [if_neg (by omega)]
theorem wslP_push {G : GG} {R R' : RR} {M : Mem} {n : Nat} {e : va_E} (h1 : entP G R' M n = e) (h2 : ∀ j, j < n → entP G R' M j = entP G R M j) : wslP G R n M ++ [(G.2.2.1 n, e)] = wslP G R' (n + 1) M := by
  apply List.ext_getElem?
  intro i
  by_cases hi : i < n
  · rw [List.getElem?_append_left (by rw [wslP_len]; exact hi), wslP_at hi, wslP_at (by omega), h2 i hi]
  · by_cases hin : i = n
    · subst hin
      rw [List.getElem?_append_right (by rw [wslP_len]; exact Nat.le_refl _), wslP_len, wslP_at (Nat.lt_succ_self _), h1]
      simp
    · rw [List.getElem?_eq_none (by simp [wslP_len]; omega), List.getElem?_eq_none (by rw [wslP_len]; omega)]
theorem wslP_congr {G : GG} {R R' : RR} {M M' : Mem} {n : Nat} (h : ∀ j, j < n → entP G R' M' j = entP G R M j) : wslP G R n M = wslP G R' n M' := by
  unfold wslP
  exact List.map_congr_left (fun j hj => by rw [h j (List.mem_range.mp hj)])
theorem entP_o {G : GG} {R : RR} {M : Mem} {k t : Nat} (h : (shp k).1 = t) (ht : t < 10) : entP G R M k = .inr (t, fvsP G.2.2.1 R M k (fcode t)) := by
  unfold entP; rw [h, if_neg (by omega), if_neg (by omega), if_neg (by omega), if_neg (by omega)]
theorem entP_I {G : GG} {R : RR} {M : Mem} {k : Nat} (h : (shp k).1 = 10) : entP G R M k = .inl (G.2.1 0, alen k, .inl (gi M k)) := by
  unfold entP; rw [if_pos h]
theorem entP_L {G : GG} {R : RR} {M : Mem} {k : Nat} (h : (shp k).1 = 11) : entP G R M k = .inl (G.2.1 1, alen k, .inr (.inl (gl M k))) := by
  unfold entP; rw [if_neg (by omega), if_pos h]
theorem entP_F {G : GG} {R : RR} {M : Mem} {k : Nat} (h : (shp k).1 = 12) : entP G R M k = .inl (G.2.1 2, alen k, .inr (.inr (.inl (gf M k)))) := by
  unfold entP; rw [if_neg (by omega), if_neg (by omega), if_pos h]
theorem entP_P {G : GG} {R : RR} {M : Mem} {k : Nat} (h : (shp k).1 = 13) : entP G R M k = .inl (G.2.1 3, alen k, .inr (.inr (.inr (.inr (fun j => (R k j).map G.2.2.1))))) := by
  unfold entP; rw [if_neg (by omega), if_neg (by omega), if_neg (by omega), if_pos h]
theorem fvsP_at {ad : Nat → Nat} {R : RR} {M : Mem} {k : Nat} {cs : List Nat} {j : Nat} (h : j < cs.length) : (fvsP ad R M k cs)[j]? = some (fvP ad R M k j (cs.getD j 0)) := by
  simp [fvsP, List.getElem?_map, List.getElem?_range h]
theorem fvsP_len (ad : Nat → Nat) (R : RR) (M : Mem) (k : Nat) (cs : List Nat) : (fvsP ad R M k cs).length = cs.length := by simp [fvsP]
theorem fvsP_set {ad : Nat → Nat} {R R' : RR} {M M' : Mem} {k : Nat} {cs : List Nat} {j : Nat} {v : Value} (h : j < cs.length) (h1 : fvP ad R' M' k j (cs.getD j 0) = v) (h2 : ∀ i, i ≠ j → fvP ad R' M' k i (cs.getD i 0) = fvP ad R M k i (cs.getD i 0)) : (fvsP ad R M k cs).set j v = fvsP ad R' M' k cs := by
  apply List.ext_getElem?
  intro i
  rw [List.getElem?_set]
  by_cases hi : i < cs.length
  · rw [fvsP_at hi]
    by_cases hij : j = i
    · subst hij
      rw [if_pos rfl, if_pos (by rw [fvsP_len]; exact h), fvsP_at hi, h1]
    · rw [if_neg hij, fvsP_at hi, h2 i (Ne.symm hij)]
  · have hl : (fvsP ad R' M' k cs).length ≤ i := by rw [fvsP_len]; omega
    have hl2 : (fvsP ad R M k cs).length ≤ i := by rw [fvsP_len]; omega
    rw [List.getElem?_eq_none hl, List.getElem?_eq_none hl2, if_neg (by omega)]
/-- an entry depends on its own row alone -/
theorem entP_congr {G : GG} {R R' : RR} {M M' : Mem} {k : Nat} (h1 : gi M' k = gi M k) (h2 : gl M' k = gl M k) (h3 : gf M' k = gf M k) (h4 : R' k = R k) : entP G R' M' k = entP G R M k := by
  unfold entP fvsP fvP; rw [h1, h2, h3, h4]
def ru (R : RR) (k j t : Nat) : RR := fun a b => if a = k ∧ b = j then some t else R a b
def rz (R : RR) (n : Nat) : RR := fun a => if a = n then fun _ => none else R a
theorem ru_ne {R : RR} {k j t a : Nat} (h : a ≠ k) : ru R k j t a = R a := by funext b; unfold ru; rw [if_neg (fun q => h q.1)]
theorem ru_ne2 {R : RR} {k j t a b : Nat} (h : b ≠ j) : ru R k j t a b = R a b := by unfold ru; rw [if_neg (fun q => h q.2)]
theorem rz_ne {R : RR} {n a : Nat} (h : a ≠ n) : rz R n a = R a := by unfold rz; rw [if_neg h]
/-- what the fields hold in the end -/
def fin (a b : Nat) : Option Nat := if (shp a).1 = 13 then (if b < 8 then some (a + 1 + 11 * b) else none) else some (a + ((fcode (shp a).1).getD b 0 - 2))
def Rf (R : RR) (k n : Nat) : RR := fun a => if k ≤ a ∧ a < n then fin a else R a
theorem WorldP.blind {G : GG} {R : RR} {n : Nat} {M : Mem} {av : List Value} : FrameBlind (va_Pc av (WorldP G R n M)) := by
  intro a U g mk h
  obtain ⟨h1, hP, hK, hi, hs, hn, hx, hxt⟩ := h
  exact ⟨h1, hP, va_K.moved (u := U) (U := U.calling g mk a) (Vm.Alike.refl U.vm) hK, hi, Sta.moved (u := U) (U := U.calling g mk a) (Vm.Alike.refl U.vm) hs, Nst.same (u := U) (U := U.calling g mk a) rfl hn, hx, XT.same (u := U) (U := U.calling g mk a) rfl hxt⟩
section MADE
variable {p : Program} {l : Launch} {e : Env} {Rm : Room} {s : State} {m : MethodId} {args : Array Value} {below : List Frame} {meth : Method} {c : Code} {H : Heap} {locs : List Loc} {cells slots : Nat} {Q : State → Prop}
variable {cc : ByteArray} {nL : Nat} {own : String} {pc : Nat} {ls : Array Slot} {rest : List Value} {G : GG} {M : Mem} {R : RR} {n : Nat}
theorem StX.at {G : GG} {s : State} {H H1 : Heap} {locs : List Loc} {U : State} (h : StX G s H) (hw : s.WarmedH U.vm) (hS : va_S (adA G) H H1 locs) : StX G U H1 := by
  obtain ⟨⟨cell, h1, h2, h3, h4, h5, h6⟩, hxt⟩ := h
  exact ⟨⟨cell, by rw [hS.2.1 _ (Array.getElem?_eq_some_iff.mp h1).1 h5]; exact h1, h2, h3, h4, h5, by rw [hw.alike.findClass]; exact h6⟩, hxt.warm hw⟩
theorem p_world (hB : BX p s m args c cc nL own G) (hX : StX G s s.heap) (hW : WP G R n M H) (hsz : H.size = G.2.2.1 0 + n) (hS : va_S (adA G) s.heap H locs) {U : State} (hU : U.heap = H) (hw : s.WarmedH U.vm) : WorldP G R n M U :=
  ⟨by rw [hU]; exact ⟨hW, hsz⟩, va_K.moved hw.alike hB.k, hB.inj, Sta.moved hw.alike (Sta.kept hB.sta (fun a h1 h2 => by rw [hU]; exact hS.2.1 a h1 h2)), Nst.warm hw hB.nst, by rw [hU]; exact hX.at hw hS⟩
theorem p_congr {R' : RR} {M' : Mem} (hW : WP G R n M H) (h : ∀ j, j < n → entP G R' M' j = entP G R M j) : WP G R' n M' H := by unfold WP; rw [← wslP_congr h]; exact hW
theorem p_get (hB : BX p s m args c cc nL own G) (hW : WP G R n M H) {C : String} {T : u_T} {N ci index : Nat} (hin : ∀ w ∈ u_ws C T N, w ∈ lw_all) (hc : vwCl[ci]? = some (C, T, N)) (hci : ci < 10) (hlen : (fcode ci).length = N) (j : Nat) (hj : j < N) {k : Nat} (hkn : k < n) (hk : isT ci k)
    (hlink : Cond.fieldLink own index C (T j).2.1 (T j).2.2.1 ∈ lw_all) (hcl : (T j).1 = C) {v : Value} (hv : fvP G.2.2.1 R M k j ((fcode ci).getD j 0) = v) (hdg : decode cc pc = .ok (.getfield index, 3))
    (kk : W p l e Rm s m args below meth c H locs cells slots Q (F0 m (pc + 3) ls (v :: rest))) : W p l e Rm s m args below meth c H locs cells slots Q (F0 m pc ls (.ref (G.2.2.1 k) :: rest)) := by
  refine va_get (D := G.1) (cl := vwCl) (ci := ci) (ws := wslP G R n M) (tys := tysl G) (C := C) (T := T) (N := N) (ref := C) (v := v) hB.x hB.b hB.2.2.2.2.1 hin hB.ow hB.k hW k (fs := fvsP G.2.2.1 R M k (fcode ci)) ?_ hc j hj (hB.w hlink) (fun x h => by rw [hcl] at h; exact h) ?_ hdg kk
  · rw [wslP_at hkn, entP_o hk.2 hci]
  · rw [fvsP_at (by omega), hv]
/-- how large the heap is: no more cells than have been counted, no fewer than are known -/
theorem p_size {X : Nat} {g : JFrame} (hz : s.heap.size + cells = X) (hlow : X ≤ H.size) (k : H.size = X → W p l e Rm s m args below meth c H locs cells slots Q g) : W p l e Rm s m args below meth c H locs cells slots Q g := by
  intro T hT X
  have h := X.heapSize
  rw [hT] at h
  exact k (by omega) T hT X
theorem p_low (hL : adL G) (hW : WP G R (n + 1) M H) : G.2.2.1 0 + (n + 1) ≤ H.size := by
  have h := (hW n _ (wslP_at (Nat.lt_succ_self n))).lt
  have := hL n
  simp only [this] at h
  omega
theorem p_put (hB : BX p s m args c cc nL own G) (hn : n ≤ NN) (hW : WP G R n M H) (hS : va_S (adA G) s.heap H locs) {C : String} {T : u_T} {N ci index : Nat} (hin : ∀ w ∈ u_ws C T N, w ∈ lw_all) (ty0 : Nat → FieldType) (hty : ∀ k, k < N → parseFieldDescriptor (T k).2.2.1 = some (ty0 k)) (hnm : ∀ a, a < N → ∀ b, b < N → a ≠ b → (T a).2.1 ≠ (T b).2.1) (hc : vwCl[ci]? = some (C, T, N)) (hci : ci < 10) (hlen : (fcode ci).length = N) (j : Nat) (hj : j < N) {k : Nat} (hkn : k < n) (hk : isT ci k)
    (hlink : Cond.fieldLink own index C (T j).2.1 (T j).2.2.1 ∈ lw_all) (hcl : (T j).1 = C) (hfin : (T j).2.2.2 = false) {ty : FieldType} {v : Value} (hd : parseFieldDescriptor (T j).2.2.1 = some ty) (hnr : narrow ty v = v) (hfit : fits ty v = true) {M1 : Mem} {R1 : RR} (hv : fvP G.2.2.1 R1 M1 k j ((fcode ci).getD j 0) = v) (hoth : ∀ i, i ≠ j → fvP G.2.2.1 R1 M1 k i ((fcode ci).getD i 0) = fvP G.2.2.1 R M k i ((fcode ci).getD i 0)) (hent : ∀ a, a ≠ k → entP G R1 M1 a = entP G R M a) (hdg : decode cc pc = .ok (.putfield index, 3))
    (kk : ∀ (H1 : Heap) (locs1 : List Loc), WP G R1 n M1 H1 → va_S (adA G) s.heap H1 locs1 → W p l e Rm s m args below meth c H1 locs1 cells slots Q (F0 m (pc + 3) ls rest)) : W p l e Rm s m args below meth c H locs cells slots Q (F0 m pc ls (v :: .ref (G.2.2.1 k) :: rest)) := by
  refine va_put (D := G.1) (cl := vwCl) (ci := ci) (ws := wslP G R n M) (tys := tysl G) (C := C) (T := T) (N := N) (ref := C) (v := v) hB.x hB.b hB.2.2.2.2.1 hin ty0 hty hnm hB.ow hB.k hW (wslP_D R M hB.inj hn) hS k (fs := fvsP G.2.2.1 R M k (fcode ci)) ?_ hc j hj (hB.w hlink) (fun x h => by rw [hcl] at h; exact h) hfin hd hnr hfit (by rw [fvsP_len]; omega) hdg (fun H1 locs1 hP1 _ hS1 => ?_)
  · rw [wslP_at hkn, entP_o hk.2 hci]
  · refine kk H1 locs1 ?_ hS1
    rw [fvsP_set (by omega) hv hoth, wslP_set hkn (entP_o hk.2 hci) (fun a _ h => hent a h)] at hP1
    exact hP1
theorem p_putF (hB : BX p s m args c cc nL own G) (hn : n ≤ NN) (hW : WP G R n M H) (hS : va_S (adA G) s.heap H locs) {C : String} {T : u_T} {N ci index : Nat} (hin : ∀ w ∈ u_ws C T N, w ∈ lw_all) (ty0 : Nat → FieldType) (hty : ∀ k, k < N → parseFieldDescriptor (T k).2.2.1 = some (ty0 k)) (hnm : ∀ a, a < N → ∀ b, b < N → a ≠ b → (T a).2.1 ≠ (T b).2.1) (hc : vwCl[ci]? = some (C, T, N)) (hci : ci < 10) (hlen : (fcode ci).length = N) (j : Nat) (hj : j < N) {k : Nat} (hkn : k < n) (hk : isT ci k)
    (hlink : Cond.fieldLink own index C (T j).2.1 (T j).2.2.1 ∈ lw_all) (hcl : (T j).1 = C) (hown2 : C = own) (hfin : (T j).2.2.2 = true) (hin2 : meth.name = "<init>") {ty : FieldType} {t : Nat} (hd : parseFieldDescriptor (T j).2.2.1 = some ty) (hnr : narrow ty (.ref (G.2.2.1 t)) = .ref (G.2.2.1 t)) (hfit : fits ty (.ref (G.2.2.1 t)) = true) (hcode : 2 ≤ (fcode ci).getD j 0) (hdg : decode cc pc = .ok (.putfield index, 3))
    (kk : ∀ (H1 : Heap) (locs1 : List Loc), WP G (ru R k j t) n M H1 → va_S (adA G) s.heap H1 locs1 → W p l e Rm s m args below meth c H1 locs1 cells slots Q (F0 m (pc + 3) ls rest)) : W p l e Rm s m args below meth c H locs cells slots Q (F0 m pc ls (.ref (G.2.2.1 t) :: .ref (G.2.2.1 k) :: rest)) := by
  refine va_putF (D := G.1) (cl := vwCl) (ci := ci) (ws := wslP G R n M) (tys := tysl G) (C := C) (T := T) (N := N) (ref := C) (v := .ref (G.2.2.1 t)) hB.x hB.b hB.2.2.2.2.1 hin ty0 hty hnm hB.ow hB.k hW (wslP_D R M hB.inj hn) hS k (fs := fvsP G.2.2.1 R M k (fcode ci)) ?_ hc j hj (hB.w hlink) (fun x h => by rw [hcl] at h; exact h) hfin hin2 (hcl.trans hown2) hd hnr hfit (by rw [fvsP_len]; omega) hdg (fun H1 locs1 hP1 _ hS1 => ?_)
  · rw [wslP_at hkn, entP_o hk.2 hci]
  · refine kk H1 locs1 ?_ hS1
    rw [fvsP_set (R' := ru R k j t) (M' := M) (by omega) (by unfold fvP; rw [if_neg (by omega), if_neg (by omega)]; unfold ru; rw [if_pos ⟨rfl, rfl⟩]; rfl) (fun i h => by unfold fvP; rw [ru_ne2 h]), wslP_set hkn (entP_o hk.2 hci) (fun a _ h => entP_congr rfl rfl rfl (ru_ne h))] at hP1
    exact hP1
/-- a new object: the next cell -/
theorem p_new (hB : BX p s m args c cc nL own G) (hL : adL G) (hW : WP G R n M H) (hsz : H.size = G.2.2.1 0 + n) (hS : va_S (adA G) s.heap H locs) {C : String} {T : u_T} {N ci index : Nat} (hin : ∀ w ∈ u_ws C T N, w ∈ lw_all) (ty : Nat → FieldType) (hty : ∀ k, k < N → parseFieldDescriptor (T k).2.2.1 = some (ty k)) (hcl : Cond.classLink own index C ∈ lw_all) (hinst : Cond.instantiable C N ∈ lw_all) (hini : Cond.initialized C ∈ lw_all) (hc : vwCl[ci]? = some (C, T, N)) (hci : ci < 10) (hk : isT ci n)
    (hfs : ∀ j, j < N → defaultValue (ty j) = vp_V (fvsP G.2.2.1 (rz R n) M n (fcode ci)) j) (hcells : cells + 1 ≤ Rm.cells) (hslots : slots + N ≤ Rm.slots) (hdg : decode cc pc = .ok (.new index, 3))
    (kk : ∀ H1 : Heap, WP G (rz R n) (n + 1) M H1 → va_S (adA G) s.heap H1 locs → W p l e Rm s m args below meth c H1 locs (cells + 1) (slots + N) Q (F0 m (pc + 3) ls (.ref (G.2.2.1 n) :: rest))) : W p l e Rm s m args below meth c H locs cells slots Q (F0 m pc ls rest) := by
  have hKn := hB.k.1 ci _ hc
  refine W.newcK hB.x hB.b hB.ow (hB.w hcl) (hB.w hinst) (hB.w hini) rfl hdg hcells hslots hKn.2.1 (h := G.2.2.1 n) (by rw [hsz, hL n]) fun H1 kC hkC e1 z1 o1 => ?_
  have hkp : ∀ (k : Nat) (x : Nat × va_E), (wslP G R n M)[k]? = some x → H1[x.1]? = H[x.1]? := fun k x hx => o1 x.1 (by have := (hW k x hx).lt; rw [hsz] at this; rw [hL n]; exact this)
  refine kk H1 ?_ ⟨by rw [z1, hL n]; have := hS.1; omega, fun x h1 h2 => (o1 x (by rw [hL n, ← hsz]; exact Nat.lt_of_lt_of_le h1 hS.1)).trans (hS.2.1 x h1 h2), hS.2.2⟩
  unfold WP
  rw [← wslP_push (R := R) (e := .inr (ci, fvsP G.2.2.1 (rz R n) M n (fcode ci))) (entP_o hk.2 hci) (fun j hj => entP_congr rfl rfl rfl (rz_ne (Nat.ne_of_lt hj)))]
  refine va_P.app (va_P.kept hW hkp) (fun k x hx => ?_)
  have hz : k < 1 := (List.getElem?_eq_some_iff.mp hx).1
  rw [show k = 0 by omega] at hx
  cases hx
  exact ⟨_, hc, (u_born ty hB.2.2.2.2.1 hin hKn hkC e1 hty).to hfs⟩
/-- a new array of numbers: the next cell -/
theorem p_arr (hB : BX p s m args c cc nL own G) (hL : adL G) (hW : WP G R n M H) (hsz : H.size = G.2.2.1 0 + n) (hS : va_S (adA G) s.heap H locs) {atype : ArrayType} (harr : (Cond.arrayClass (newarray.typeOf atype)).before args s = true) {x : Int32} {N : Nat} (hx0 : ¬ x < 0) (hN : x.toNatClampNeg = N) (hbytes : N * componentBytes (newarray.typeOf atype) ≤ 536870912) (hcells : cells + 1 ≤ Rm.cells) (hslots : slots + N ≤ Rm.slots) (hdg : decode cc pc = .ok (.newarray atype, 2))
    (hcell : ∀ cA : ClassId, s.vm.findClass ("[" ++ (newarray.typeOf atype).toString) = some cA → ∃ cy a, entP G R M n = .inl (cy, a) ∧ arrV cA N (fun _ => defaultValue (newarray.typeOf atype)) = vp_cell cy a)
    (kk : ∀ H1 : Heap, WP G R (n + 1) M H1 → va_S (adA G) s.heap H1 locs → W p l e Rm s m args below meth c H1 locs (cells + 1) (slots + N) Q (F0 m (pc + 2) ls (.ref (G.2.2.1 n) :: rest))) : W p l e Rm s m args below meth c H locs cells slots Q (F0 m pc ls (.int x :: rest)) := by
  refine va_newaK hB.x hB.b harr rfl hdg rfl hx0 hN hbytes hcells hslots (h := G.2.2.1 n) (by rw [hsz, hL n]) fun H1 cA e1 z1 o1 hAr hNm => ?_
  obtain ⟨cy, a, q1, q2⟩ := hcell cA hNm
  have hkp : ∀ (k : Nat) (x : Nat × va_E), (wslP G R n M)[k]? = some x → H1[x.1]? = H[x.1]? := fun k x hx => o1 x.1 (by have := (hW k x hx).lt; rw [hsz] at this; rw [hL n]; exact this)
  refine kk H1 ?_ ⟨by rw [z1, hL n]; have := hS.1; omega, fun x h1 h2 => (o1 x (by rw [hL n, ← hsz]; exact Nat.lt_of_lt_of_le h1 hS.1)).trans (hS.2.1 x h1 h2), hS.2.2⟩
  unfold WP
  rw [← wslP_push (R := R) (e := .inl (cy, a)) q1 (fun j hj => rfl)]
  refine va_P.app (va_P.kept hW hkp) (fun k x hx => ?_)
  have hz : k < 1 := (List.getElem?_eq_some_iff.mp hx).1
  rw [show k = 0 by omega] at hx
  cases hx
  show H1[G.2.2.1 n]? = some (vp_cell cy a)
  rw [e1, q2]
theorem p_cls (hB : BX p s m args c cc nL own G) {cA : ClassId} : (s.vm.findClass ("[" ++ (newarray.typeOf .int).toString) = some cA → cA = G.2.1 0) ∧ (s.vm.findClass ("[" ++ (newarray.typeOf .long).toString) = some cA → cA = G.2.1 1) ∧ (s.vm.findClass ("[" ++ (newarray.typeOf .float).toString) = some cA → cA = G.2.1 2) := by
  refine ⟨fun h => ?_, fun h => ?_, fun h => ?_⟩
  · have h2 : s.vm.findClass ("[" ++ (FieldType.int).toString) = some (G.2.1 0) := (hB.k.2 0 _ rfl).2
    exact Option.some.inj (h.symm.trans h2)
  · have h2 : s.vm.findClass ("[" ++ (FieldType.long).toString) = some (G.2.1 1) := (hB.k.2 1 _ rfl).2
    exact Option.some.inj (h.symm.trans h2)
  · have h2 : s.vm.findClass ("[" ++ (FieldType.float).toString) = some (G.2.1 2) := (hB.k.2 2 _ rfl).2
    exact Option.some.inj (h.symm.trans h2)
theorem wdA_I : Cond.arrayClass .int ∈ lw_all := lw_all_of (mem_t1 (List.mem_of_getElem? (i := 62) rfl)) rfl
theorem wdA_L : Cond.arrayClass .long ∈ lw_all := lw_all_of (mem_t1 (List.mem_of_getElem? (i := 63) rfl)) rfl
theorem wdA_F : Cond.arrayClass .float ∈ lw_all := lw_all_of (mem_t2 (List.mem_of_getElem? (i := 90) rfl)) rfl
theorem wdSame : Cond.sameMethod "[I" "java/lang/Object" "clone" "()Ljava/lang/Object;" ∈ lw_all := lw_all_of (mem_t1 (List.mem_of_getElem? (i := 34) rfl)) rfl
theorem p_arrI (hB : BX p s m args c cc nL own G) (hL : adL G) (hW : WP G R n M H) (hsz : H.size = G.2.2.1 0 + n) (hS : va_S (adA G) s.heap H locs) {x : Int32} {N : Nat} (hx0 : ¬ x < 0) (hN : x.toNatClampNeg = N) (hb : N ≤ 100000) (hcells : cells + 1 ≤ Rm.cells) (hslots : slots + N ≤ Rm.slots) (hk : isT 10 n) (hn : alen n = N) (h0 : ∀ j, gi M n j = 0) (hdg : decode cc pc = .ok (.newarray .int, 2))
    (kk : ∀ H1 : Heap, WP G R (n + 1) M H1 → va_S (adA G) s.heap H1 locs → W p l e Rm s m args below meth c H1 locs (cells + 1) (slots + N) Q (F0 m (pc + 2) ls (.ref (G.2.2.1 n) :: rest))) : W p l e Rm s m args below meth c H locs cells slots Q (F0 m pc ls (.int x :: rest)) := by
  refine p_arr (atype := .int) hB hL hW hsz hS (hB.w wdA_I) hx0 hN (by show N * 4 ≤ _; omega) hcells hslots hdg (fun cA hc => ⟨_, _, entP_I hk.2, ?_⟩) kk
  obtain rfl := (p_cls hB).1 hc
  rw [hn, show gi M n = fun _ => 0 from funext h0]; rfl
theorem p_arrL (hB : BX p s m args c cc nL own G) (hL : adL G) (hW : WP G R n M H) (hsz : H.size = G.2.2.1 0 + n) (hS : va_S (adA G) s.heap H locs) {x : Int32} {N : Nat} (hx0 : ¬ x < 0) (hN : x.toNatClampNeg = N) (hb : N ≤ 100000) (hcells : cells + 1 ≤ Rm.cells) (hslots : slots + N ≤ Rm.slots) (hk : isT 11 n) (hn : alen n = N) (h0 : ∀ j, gl M n j = 0) (hdg : decode cc pc = .ok (.newarray .long, 2))
    (kk : ∀ H1 : Heap, WP G R (n + 1) M H1 → va_S (adA G) s.heap H1 locs → W p l e Rm s m args below meth c H1 locs (cells + 1) (slots + N) Q (F0 m (pc + 2) ls (.ref (G.2.2.1 n) :: rest))) : W p l e Rm s m args below meth c H locs cells slots Q (F0 m pc ls (.int x :: rest)) := by
  refine p_arr (atype := .long) hB hL hW hsz hS (hB.w wdA_L) hx0 hN (by show N * 8 ≤ _; omega) hcells hslots hdg (fun cA hc => ⟨_, _, entP_L hk.2, ?_⟩) kk
  obtain rfl := (p_cls hB).2.1 hc
  rw [hn, show gl M n = fun _ => 0 from funext h0]; rfl
theorem p_arrF (hB : BX p s m args c cc nL own G) (hL : adL G) (hW : WP G R n M H) (hsz : H.size = G.2.2.1 0 + n) (hS : va_S (adA G) s.heap H locs) {x : Int32} {N : Nat} (hx0 : ¬ x < 0) (hN : x.toNatClampNeg = N) (hb : N ≤ 100000) (hcells : cells + 1 ≤ Rm.cells) (hslots : slots + N ≤ Rm.slots) (hk : isT 12 n) (hn : alen n = N) (h0 : ∀ j, gf M n j = 0) (hdg : decode cc pc = .ok (.newarray .float, 2))
    (kk : ∀ H1 : Heap, WP G R (n + 1) M H1 → va_S (adA G) s.heap H1 locs → W p l e Rm s m args below meth c H1 locs (cells + 1) (slots + N) Q (F0 m (pc + 2) ls (.ref (G.2.2.1 n) :: rest))) : W p l e Rm s m args below meth c H locs cells slots Q (F0 m pc ls (.int x :: rest)) := by
  refine p_arr (atype := .float) hB hL hW hsz hS (hB.w wdA_F) hx0 hN (by show N * 4 ≤ _; omega) hcells hslots hdg (fun cA hc => ⟨_, _, entP_F hk.2, ?_⟩) kk
  obtain rfl := (p_cls hB).2.2 hc
  rw [hn, show gf M n = fun _ => 0 from funext h0]; rfl
/-- a new array of paragraphs -/
theorem p_anew (hB : BX p s m args c cc nL own G) (hX : XT s) (hL : adL G) (hW : WP G R n M H) (hsz : H.size = G.2.2.1 0 + n) (hS : va_S (adA G) s.heap H locs) {x : Int32} {N index : Nat} (hclink : Cond.classLink own index RX3 ∈ lw_all) (hx0 : ¬ x < 0) (hN : x.toNatClampNeg = N) (hb : N ≤ 100000) (hcells : cells + 1 ≤ Rm.cells) (hslots : slots + N ≤ Rm.slots) (hk : isT 13 n) (hn : alen n = N) (hdg : decode cc pc = .ok (.anewarray index, 3))
    (kk : ∀ H1 : Heap, WP G (rz R n) (n + 1) M H1 → va_S (adA G) s.heap H1 locs → W p l e Rm s m args below meth c H1 locs (cells + 1) (slots + N) Q (F0 m (pc + 3) ls (.ref (G.2.2.1 n) :: rest))) : W p l e Rm s m args below meth c H locs cells slots Q (F0 m pc ls (.int x :: rest)) := by
  subst hN
  refine W.anew hB.x hB.b hB.ow (hB.w hclink) (va_AO.use hX.2.1) rfl hdg rfl hx0 (by omega) hcells hslots fun cA kA comp f1 f2 f3 f4 => ?_
  have hcA : cA = G.2.1 3 := by
    obtain ⟨kA', comp', q1, q2, q3, q4⟩ := (hB.k.2 3 _ rfl).2
    exact Option.some.inj (f1.symm.trans q4)
  subst hcA
  generalize hH1 : H.push ({ cls := G.2.1 3, slots := Array.replicate x.toNatClampNeg .null, vm := .none } : Cell) = H1
  have z1 : H1.size = H.size + 1 := by rw [← hH1, Array.size_push]
  have e1 : H1[H.size]? = some (arrV (G.2.1 3) x.toNatClampNeg (fun _ => .null)) := by rw [← hH1, Array.getElem?_push_size, ← arrV_new]
  have o1 : ∀ q : Nat, q < H.size → H1[q]? = H[q]? := fun q hq => by rw [← hH1, Array.getElem?_push, if_neg (Nat.ne_of_lt hq)]
  have ha : H.size = G.2.2.1 n := by rw [hsz, hL n]
  rw [ha] at e1
  have hgo := kk H1 ?_ ⟨Nat.le_trans hS.1 (by omega), fun y h1 h2 => (o1 y (Nat.lt_of_lt_of_le h1 hS.1)).trans (hS.2.1 y h1 h2), hS.2.2⟩
  · rw [← ha] at hgo; exact hgo
  unfold WP
  rw [← wslP_push (R := R) (e := .inl (G.2.1 3, x.toNatClampNeg, .inr (.inr (.inr (.inr (fun _ => none)))))) (by rw [entP_P hk.2, hn]; unfold rz; rw [if_pos rfl]; rfl) (fun j hj => entP_congr rfl rfl rfl (rz_ne (Nat.ne_of_lt hj)))]
  refine va_P.app (va_P.kept hW (fun k y hy => o1 y.1 ((hW k y hy).lt))) (fun k y hy => ?_)
  have hz : k < 1 := (List.getElem?_eq_some_iff.mp hy).1
  rw [show k = 0 by omega] at hy
  cases hy
  show H1[G.2.2.1 n]? = some (vp_cell _ _)
  rw [vp_cell_q]
  exact e1
theorem p_aast (hB : BX p s m args c cc nL own G) (hn : n ≤ NN) (hW : WP G R n M H) (hS : va_S (adA G) s.heap H locs) {k t N : Nat} (hkn : k < n) (htn : t < n) (hk : isT 13 k) (ht : isT 3 t) (hl : alen k = N) {i : Int32} (hin : inB i N) (hdg : decode cc pc = .ok (.aastore, 1))
    (kk : ∀ (H1 : Heap) (locs1 : List Loc), WP G (ru R k i.toNatClampNeg t) n M H1 → va_S (adA G) s.heap H1 locs1 → W p l e Rm s m args below meth c H1 locs1 cells slots Q (F0 m (pc + 1) ls rest)) : W p l e Rm s m args below meth c H locs cells slots Q (F0 m pc ls (.ref (G.2.2.1 t) :: .int i :: .ref (G.2.2.1 k) :: rest)) := by
  refine va_astq (D := G.1) (cl := vwCl) (tys := tysl G) (r := (RX3, TX3, 13)) (ci := 3) (f := fun j => (R k j).map G.2.2.1) hB.x hB.b hB.k hW (wslP_D R M hB.inj hn) hS k 3 t (vs := fvsP G.2.2.1 R M t (fcode 3)) (by rw [wslP_at hkn, entP_P hk.2, hl]) rfl (by rw [wslP_at htn, entP_o ht.2 (by decide)]) rfl hin hdg (fun H1 locs1 hP1 _ hS1 => kk H1 locs1 ?_ hS1)
  rw [wslP_set (R' := ru R k i.toNatClampNeg t) (M' := M) hkn (by
    rw [entP_P hk.2, hl]
    congr 7
    funext j
    unfold ru va_up
    by_cases hj : j = i.toNatClampNeg
    · subst hj; rw [if_pos ⟨rfl, rfl⟩, if_pos rfl]; rfl
    · rw [if_neg (fun q => hj q.2), if_neg hj]) (fun a _ h => entP_congr rfl rfl rfl (ru_ne h))] at hP1
  exact hP1
theorem p_fwget (hB : BX p s m args c cc nL own G) (hX : XT s) (hown : own = RX3) (hS : va_S (adA G) s.heap H locs) (hdg : decode cc pc = .ok (.getstatic 9, 3))
    (kk : W p l e Rm s m args below meth c H locs cells slots Q (F0 m (pc + 3) ls (.ref G.2.2.2 :: rest))) : W p l e Rm s m args below meth c H locs cells slots Q (F0 m pc ls rest) := by
  subst hown
  exact va_getsN hB.x hB.b hB.sta.1 hS hB.ow (va_Nw.use rfl hX.2.2) (fun _ h => h) hdg kk
/-- the widths' own copy of the static row -/
theorem p_clone (hB : BX p s m args c cc nL own G) (hX : StX G s s.heap) (hL : adL G) (hW : WP G R n M H) (hsz : H.size = G.2.2.1 0 + n) (hS : va_S (adA G) s.heap H locs) (hls : ls.size = nL) {index : Nat} (hlink : Cond.methodLink own index ⟨"[I", "clone", "()Ljava/lang/Object;"⟩ ∈ lw_all) (hnat : Cond.native ⟨"java/lang/Object", "clone", "()Ljava/lang/Object;"⟩ ∈ lw_all) (hinst : Cond.instanceMethod ⟨"java/lang/Object", "clone", "()Ljava/lang/Object;"⟩ ∈ lw_all) (hsel : Cond.selects "[I" ⟨"[I", "clone", "()Ljava/lang/Object;"⟩ ⟨"java/lang/Object", "clone", "()Ljava/lang/Object;"⟩ ∈ lw_all)
    (hk : isT 10 n) (hn : alen n = 8) (hrow : ∀ j, j < 8 → Value.int (gi M n j) = fwV j) (hframes : 1 ≤ Rm.frames) (hlocals : (rest.map fun v => v.category).sum + 14 ≤ Rm.locals) (hcells : cells + 1 ≤ Rm.cells) (hslots : slots + 8 ≤ Rm.slots) (hdg : decode cc pc = .ok (.invokevirtual index, 3))
    (kk : ∀ H1 : Heap, WP G R (n + 1) M H1 → va_S (adA G) s.heap H1 locs → W p l e Rm s m args below meth c H1 locs (cells + 1) (slots + 8) Q (F0 m (pc + 3) ls (.ref (G.2.2.1 n) :: rest))) : W p l e Rm s m args below meth c H locs cells slots Q (F0 m pc ls (.ref G.2.2.2 :: rest)) := by
  obtain ⟨⟨cell, h1, h2, h3, h4, h5, h6⟩, hxt⟩ := hX
  have hH : H[G.2.2.2]? = some cell := by rw [hS.2.1 _ (Array.getElem?_eq_some_iff.mp h1).1 h5]; exact h1
  have hsz8 : cell.slots.size = 8 := by rw [h4]; exact arrV_size _ _ _
  have hcellE : ({ cls := cell.cls, slots := cell.slots } : Cell) = arrV (G.2.1 0) 8 fwV := by rw [h3, h4]; rfl
  obtain ⟨c0, t0', f1, f2, f3⟩ := Cond.castable_spec (va_Nw.use (A := args) rfl hxt.1)
  cases h6.symm.trans f1
  intro T hT X
  have hcellT : T.heap[G.2.2.2]? = some cell := by rw [hT]; exact hH
  have hAr : ArrOfT s (G.2.1 0) .int := (hB.k.2 0 _ rfl).1
  obtain ⟨-, kA, hkA, comp, hkind⟩ := State.isArrayOf_alike X.warmed.alike (hAr 0 (fun _ => .null))
  obtain ⟨-, kS, hkS, compS, hkindS⟩ := hAr 0 (fun _ => .null)
  obtain ⟨vm', X', st⟩ := X.cloneArray hB.x hB.ow (hB.w hlink) (hB.w wdSame) (hB.w hnat) (hB.w hinst) (hB.w hsel) (a := G.2.2.2) (cell := cell) hcellT h2.1 h2.2 (by rw [h3]; exact h6) f2 (by rw [h3]; exact f3)
    (fun i v hv => by
      rw [h3]
      have hk' : T.vm.classes[G.2.1 0]? = some kA := hkA
      have hf : fits .int v = true := by
        have hi : i < 8 := by
          have := (Array.getElem?_eq_some_iff.mp hv).1
          rwa [hsz8] at this
        rw [h4] at hv
        have hq := arrV_read (G.2.1 0) fwV hi
        rw [hq] at hv
        cases hv
        rfl
      simpa [State.fitsSlot, State.slotType?, hk', hkind] using hf)
    (g := F0 m pc ls (.ref G.2.2.2 :: rest)) rfl (by rw [hB.ml]; exact hls) rfl (by rw [hB.b]; exact hdg) hframes (by show 2 * 0 + _ + 14 ≤ _; omega) hcells (by rw [hsz8]; exact hslots) (hloader := by rw [h3]; exact Vm.clonesLoader_of_array hkS hkindS)
  rw [hcellE, hsz8] at X'
  generalize hH1 : H.push (arrV (G.2.1 0) 8 fwV) = H1
  have z1 : H1.size = H.size + 1 := by rw [← hH1, Array.size_push]
  have e1 : H1[H.size]? = some (arrV (G.2.1 0) 8 fwV) := by rw [← hH1, Array.getElem?_push_size]
  have o1 : ∀ q : Nat, q < H.size → H1[q]? = H[q]? := fun q hq => by rw [← hH1, Array.getElem?_push, if_neg (Nat.ne_of_lt hq)]
  have ha : H.size = G.2.2.1 n := by rw [hsz, hL n]
  have hgo := kk H1 ?_ ⟨Nat.le_trans hS.1 (by omega), fun y q1 q2 => (o1 y (Nat.lt_of_lt_of_le q1 hS.1)).trans (hS.2.1 y q1 q2), hS.2.2⟩
  · obtain ⟨t, b1, b2⟩ := hgo ((T.setVm vm').pushCell (arrV (G.2.1 0) 8 fwV)) (by rw [← hH1, ← hT]; rfl) X'
    refine ⟨t, st t ?_, b2⟩
    rw [hcellE, hT, ha]
    exact b1
  unfold WP
  rw [← wslP_push (R := R) (e := .inl (G.2.1 0, 8, .inl (gi M n))) (by rw [entP_I hk.2, hn]) (fun j hj => rfl)]
  refine va_P.app (va_P.kept hW (fun k y hy => o1 y.1 ((hW k y hy).lt))) (fun k y hy => ?_)
  have hz : k < 1 := (List.getElem?_eq_some_iff.mp hy).1
  rw [show k = 0 by omega] at hy
  cases hy
  show H1[G.2.2.1 n]? = some (vp_cell _ _)
  rw [← ha, e1]
  show some (arrV (G.2.1 0) 8 fwV) = some (arrV (G.2.1 0) 8 (fun j => .int (gi M n j)))
  congr 1
  unfold arrV
  congr 2
  funext j
  exact (hrow j.val j.isLt).symm
theorem p_call {y : MethodName} {bytes : ByteArray} {maxL mc ms index k n' : Nat} {rm : Room} {R' : RR} {M' : Mem} (hB : BX p s m args c cc nL own G) (hX : StX G s s.heap) (hW : WP G R n M H) (hsz : H.size = G.2.2.1 0 + n) (hS : va_S (adA G) s.heap H locs) (ct : Met l y (wsq y bytes maxL none) rm (va_Pc [.ref (G.2.2.1 k)] (WorldP G R n M)) (va_Qv (fun (_ : Unit) => True) (fun _ => WorldP G R' n' M') (adA G)) mc ms (adA G))
    (cw : CallB Rm s args own index y bytes maxL none (wsq y bytes maxL none) rm mc ms 0 ∧ y.name = "<init>" ∧ (Cond.instanceMethod y).before args s = true) (hls : ls.size = nL) (hcat : (rest.map fun v => v.category).sum ≤ 8) (hdg : decode cc pc = .ok (.invokespecial index, 3)) (hr : cells + mc ≤ Rm.cells ∧ slots + ms ≤ Rm.slots)
    (kk : ∀ (H1 : Heap) (locs1 : List Loc), WP G R' n' M' H1 → va_S (adA G) s.heap H1 locs1 → W p l e Rm s m args below meth c H1 locs1 (cells + mc) (slots + ms) Q (F0 m (pc + 3) ls rest)) : W p l e Rm s m args below meth c H locs cells slots Q (F0 m pc ls (.ref (G.2.2.1 k) :: rest)) := by
  refine va_callv (va_runI (As := []) (rest := rest) hB.fix ct cw ⟨WorldP.blind, fun U hU hw => ⟨rfl, p_world hB hX hW hsz hS hU hw⟩⟩ rfl rfl hls rfl (lv_room hcat) hdg hr) hS (fun _ _ h => h) (fun _ h => h) (fun u t H1 locs1 ht _ _ hb _ _ hS1 => kk H1 locs1 ?_ hS1)
  rw [← ht]; exact hb.1.1
theorem p_ret {mc ms : Nat} (hB : BX p s m args c cc nL own G) (hX : StX G s s.heap) (hW : WP G R n M H) (hsz : H.size = G.2.2.1 0 + n) (hS : va_S (adA G) s.heap H locs) (hr : meth.sig.returnType = none) (hlk : meth.locks = false) (hmc : cells = mc) (hms : slots = ms) (hdg : decode cc pc = .ok (.return_, 1)) : W p l e Rm s m args below meth c H locs cells slots (MQ below (va_Qv (fun (_ : Unit) => True) (fun _ => WorldP G R n M) (adA G)) args s mc ms (adA G)) (F0 m pc ls []) := by
  subst hmc; subst hms
  exact W.vret hB.x hB.b hr (fun t ht hw => ⟨⟨(), rfl, trivial, p_world hB hX hW hsz hS ht hw⟩, hS.F ht⟩) hS.2.2 hdg
theorem p_start {y : MethodName} {bytes : ByteArray} {maxL mc ms : Nat} {rm : Room} {As : List Value} {Qc : Array Value → State → Outcome → State → Prop} (hy : plainFor y = true) (hini : y.name = "<init>") (hAs : (lg_sl As).length ≤ maxL)
    (body : ∀ p e s m args below meth c, BX p s m args c bytes maxL y.cls G → StX G s s.heap → meth.name = "<init>" → meth.sig.returnType = none → meth.locks = false → WP G R n M s.heap → s.heap.size = G.2.2.1 0 + n → va_S (adA G) s.heap s.heap [] → ∀ ls, lv_has ls maxL (lv_args 0 As) →
      W p l e rm s m args below meth c s.heap [] 0 0 (MQ below Qc args s mc ms (adA G)) (F0 m 0 ls [])) : Met l y (wsq y bytes maxL none) rm (va_Pc As (WorldP G R n M)) Qc mc ms (adA G) := by
  refine Met.ofWF (cc := bytes) (maxL := maxL) (ret := none) hy rfl ?_
  intro p e s m args below meth c s₁ B hml hv
  obtain ⟨rfl, ⟨hW, hsz⟩, hK, hi, hs, hn, hx⟩ := hv
  rw [lg_entry_eq]
  exact body p e s m _ below meth c ⟨B.exec, B.bytes, hml, findClass_of_methodNamed B.named, fun w hw => atoms_spec (ws := wsq y bytes maxL none) B.pre w (List.mem_cons_of_mem _ hw), hK, hi, hs, hn⟩ hx (((name_of_methodNamed B.named B.method).1).trans hini) B.returns B.notSynchronized hW hsz va_S.rf _ (lv_entry As hAs)
def rsl (a b : Nat) : Prop := (shp a).1 = 13 ∨ ((shp a).1 < 10 ∧ 2 ≤ (fcode (shp a).1).getD b 0)
theorem entP_ref {G : GG} {R R' : RR} {M : Mem} {k : Nat} (h : ∀ b, rsl k b → R' k b = R k b) : entP G R' M k = entP G R M k := by
  unfold entP
  by_cases h0 : (shp k).1 = 10
  · rw [if_pos h0, if_pos h0]
  rw [if_neg h0, if_neg h0]
  by_cases h1 : (shp k).1 = 11
  · rw [if_pos h1, if_pos h1]
  rw [if_neg h1, if_neg h1]
  by_cases h2 : (shp k).1 = 12
  · rw [if_pos h2, if_pos h2]
  rw [if_neg h2, if_neg h2]
  by_cases h3 : (shp k).1 = 13
  · rw [if_pos h3, if_pos h3]
    have : R' k = R k := funext (fun b => h b (Or.inl h3))
    rw [this]
  rw [if_neg h3, if_neg h3]
  have hf : fvsP G.2.2.1 R' M k (fcode (shp k).1) = fvsP G.2.2.1 R M k (fcode (shp k).1) := by
    unfold fvsP
    refine List.map_congr_left (fun j hj => ?_)
    have hj := List.mem_range.mp hj
    unfold fvP
    by_cases c0 : (fcode (shp k).1).getD j 0 = 0
    · rw [if_pos c0, if_pos c0]
    rw [if_neg c0, if_neg c0]
    by_cases c1 : (fcode (shp k).1).getD j 0 = 1
    · rw [if_pos c1, if_pos c1]
    rw [if_neg c1, if_neg c1]
    have hlt : (shp k).1 < 10 := by
      rcases Nat.lt_or_ge (shp k).1 10 with q | q
      · exact q
      · exfalso
        have : fcode (shp k).1 = [] := by
          generalize (shp k).1 = z at *
          match z, q with
          | z + 10, _ => rfl
        rw [this] at hj
        exact absurd hj (Nat.not_lt_zero _)
    rw [h j (Or.inr ⟨hlt, by omega⟩)]
  rw [hf]
theorem p_end {R' : RR} {k : Nat} (hW : WP G R' n M H) (h1 : ∀ a, a < k → R' a = R a) (h2 : ∀ a, k ≤ a → a < n → ∀ b, rsl a b → R' a b = fin a b) : WP G (Rf R k n) n M H := by
  refine p_congr hW (fun j hj => ?_)
  rcases Nat.lt_or_ge j k with q | q
  · exact entP_congr rfl rfl rfl (by rw [h1 j q]; unfold Rf; rw [if_neg (by omega)])
  · exact entP_ref (fun b hb => by rw [h2 j q hj b hb]; unfold Rf; rw [if_pos ⟨q, hj⟩])
theorem Rf_out {R : RR} {k n a : Nat} (h : a < k ∨ n ≤ a) : Rf R k n a = R a := by unfold Rf; rw [if_neg (by omega)]
theorem Rf_in {R : RR} {k n a : Nat} (h : k ≤ a ∧ a < n) : Rf R k n a = fin a := by unfold Rf; rw [if_pos h]
theorem ru_eq {R : RR} {k j t : Nat} : ru R k j t k j = some t := by unfold ru; rw [if_pos ⟨rfl, rfl⟩]
theorem rsl_no {a b : Nat} (h : (shp a).1 = 10 ∨ (shp a).1 = 11 ∨ (shp a).1 = 12) (hb : rsl a b) : False := by
  rcases hb with q | q
  · rcases h with h | h | h <;> rw [h] at q <;> exact absurd q (by decide)
  · rcases h with h | h | h <;> rw [h] at q <;> exact absurd q.1 (by decide)
theorem rsl_o {a b t : Nat} (h : (shp a).1 = t) (ht : t < 10) (hb : rsl a b) : 2 ≤ (fcode t).getD b 0 := by
  rcases hb with q | q
  · rw [h] at q; omega
  · rw [h] at q; exact q.2
theorem vpV_fvsP {ad : Nat → Nat} {R : RR} {M : Mem} {k : Nat} {cs : List Nat} {j : Nat} (h : j < cs.length) : vp_V (fvsP ad R M k cs) j = fvP ad R M k j (cs.getD j 0) := by
  have := fvsP_at (ad := ad) (R := R) (M := M) (k := k) h
  unfold vp_V
  rw [List.getD_eq_getElem?_getD, this]; rfl
/-- a row as it is made -/
def iniR (i j : Nat) : Int32 := if (shp i).1 = 10 ∧ 0 < i ∧ (shp (i - 1)).1 = 3 then [3, 4, 3, 4, 3, 2, 4, 4].getD j 0 else 0
def Zr (M : Mem) (a b : Nat) : Prop := ∀ i, a ≤ i → i < b → (∀ j, gi M i j = iniR i j) ∧ (∀ j, gl M i j = 0) ∧ (∀ j, gf M i j = 0)
theorem Zr.sub {M : Mem} {a b a' b' : Nat} (h : Zr M a b) (h1 : a ≤ a') (h2 : b' ≤ b) : Zr M a' b' := fun i q1 q2 => h i (by omega) (by omega)
theorem iniR_o {i j : Nat} (h : (shp i).1 ≠ 10) : iniR i j = 0 := by unfold iniR; rw [if_neg (fun q => h q.1)]
end MADE
