/-! the world while it is made: its first n cells, one behind the other; R: what the fields that hold cells hold so far -/
abbrev RR : Type := Nat → Nat → Option Nat
def fvP (ad : Nat → Nat) (R : RR) (M : Mem) (k j c : Nat) : Value := if c = 0 then .int (gi M k j) else if c = 1 then .float (gf M k j) else va_rf ((R k j).map ad)
def fvsP (ad : Nat → Nat) (R : RR) (M : Mem) (k : Nat) (cs : List Nat) : List Value := (List.range cs.length).map (fun j => fvP ad R M k j (cs.getD j 0))
def entP (G : GG) (R : RR) (M : Mem) (k : Nat) : va_E :=
  if (shp k).1 = 10 then .inl (G.2.1 0, alen k, .inl (gi M k))
  else if (shp k).1 = 11 then .inl (G.2.1 1, alen k, .inr (.inl (gl M k)))
  else if (shp k).1 = 12 then .inl (G.2.1 2, alen k, .inr (.inr (.inl (gf M k))))
  else if (shp k).1 = 13 then .inl (G.2.1 3, alen k, .inr (.inr (.inr (.inr (fun j => (R k j).map G.2.2.1)))))
  else .inr ((shp k).1, fvsP G.2.2.1 R M k (fcode (shp k).1))
def wslP (G : GG) (R : RR) (n : Nat) (M : Mem) : va_W := (List.range n).map (fun k => (G.2.2.1 k, entP G R M k))
def adL (G : GG) : Prop := ∀ k, G.2.2.1 k = G.2.2.1 0 + k
def WP (G : GG) (R : RR) (n : Nat) (M : Mem) (H : Heap) : Prop := va_P G.1 vwCl (wslP G R n M) H
/-- the array that the widths are taken from, as it is -/
def StX (G : GG) (U : State) (H : Heap) : Prop := ∃ cell : Cell, H[G.2.2.2]? = some cell ∧ cell.vm = .none ∧ cell.cls = G.2.1 0 ∧ cell.slots = (arrV (G.2.1 0) 8 fwV).slots ∧ ¬ adA G G.2.2.2 ∧ U.vm.findClass "[I" = some (G.2.1 0)
def WorldP (G : GG) (R : RR) (n : Nat) (M : Mem) (U : State) : Prop := (WP G R n M U.heap ∧ U.heap.size = G.2.2.1 0 + n) ∧ va_K G.1 vwCl (tysl G) U ∧ adInj G ∧ Sta G U U.heap ∧ Nst U ∧ StX G U U.heap
theorem adL.inj {G : GG} (h : adL G) : adInj G := fun i j _ _ e => by rw [h i, h j] at e; omega
theorem wslP_at {G : GG} {R : RR} {M : Mem} {n k : Nat} (h : k < n) : (wslP G R n M)[k]? = some (G.2.2.1 k, entP G R M k) := by
  simp [wslP, List.getElem?_map, List.getElem?_range h]
theorem wslP_len (G : GG) (R : RR) (n : Nat) (M : Mem) : (wslP G R n M).length = n := by simp [wslP]
theorem wslP_D {G : GG} (R : RR) {n : Nat} (M : Mem) (h : adInj G) (hn : n ≤ NN) : va_D (adA G) (wslP G R n M) := by
  have key : ∀ (k : Nat) (q : Nat × va_E), (wslP G R n M)[k]? = some q → k < n ∧ q.1 = G.2.2.1 k := by
    intro k q hq
    have hk : k < n := by
      have := (List.getElem?_eq_some_iff.mp hq).1
      rwa [wslP_len] at this
    rw [wslP_at hk] at hq
    exact ⟨hk, by rw [← Option.some.inj hq]⟩
  refine ⟨fun i j p q hp hq e => ?_, fun k q hq => ?_⟩
  · obtain ⟨a1, a2⟩ := key i p hp
    obtain ⟨b1, b2⟩ := key j q hq
    exact h i j (Nat.lt_of_lt_of_le a1 hn) (Nat.lt_of_lt_of_le b1 hn) (by rw [← a2, ← b2, e])
  · obtain ⟨a1, a2⟩ := key k q hq
    exact ⟨k, Nat.lt_of_lt_of_le a1 hn, a2⟩
theorem wslP_set {G : GG} {R R' : RR} {M M' : Mem} {n k : Nat} {e : va_E} (h : k < n) (h1 : entP G R' M' k = e) (h2 : ∀ j, j < n → j ≠ k → entP G R' M' j = entP G R M j) : (wslP G R n M).set k (G.2.2.1 k, e) = wslP G R' n M' := by
  apply List.ext_getElem?
  intro i
  rw [List.getElem?_set]
  by_cases hi : i < n
  · rw [wslP_at hi]
    by_cases hik : k = i
    · subst hik
      rw [if_pos rfl, if_pos (by rw [wslP_len]; exact h), wslP_at hi, h1]
    · rw [if_neg hik, wslP_at hi, h2 i hi (Ne.symm hik)]
  · have hl : (wslP G R' n M').length ≤ i := by rw [wslP_len]; omega
    have hl2 : (wslP G R n M).length ≤ i := by rw [wslP_len]; omega
    rw [List.getElem?_eq_none hl, List.getElem?_eq_none hl2]
    rw [if_neg (by omega)]
theorem wslP_push {G : GG} {R R' : RR} {M : Mem} {n : Nat} {e : va_E} (h1 : entP G R' M n = e) (h2 : ∀ j, j < n → entP G R' M j = entP G R M j) : wslP G R n M ++ [(G.2.2.1 n, e)] = wslP G R' (n + 1) M := by
  apply List.ext_getElem?
  intro i
  by_cases hi : i < n
  · rw [List.getElem?_append_left (by rw [wslP_len]; exact hi), wslP_at hi, wslP_at (by omega), h2 i hi]
  · by_cases hin : i = n
    · subst hin
      rw [List.getElem?_append_right (by rw [wslP_len]; exact Nat.le_refl _), wslP_len, wslP_at (Nat.lt_succ_self _), h1]
      simp
    · rw [List.getElem?_eq_none (by simp [wslP_len]; omega), List.getElem?_eq_none (by rw [wslP_len]; omega)]
theorem wslP_congr {G : GG} {R R' : RR} {M M' : Mem} {n : Nat} (h : ∀ j, j < n → entP G R' M' j = entP G R M j) : wslP G R n M = wslP G R' n M' := by
  unfold wslP
  exact List.map_congr_left (fun j hj => by rw [h j (List.mem_range.mp hj)])
theorem entP_o {G : GG} {R : RR} {M : Mem} {k t : Nat} (h : (shp k).1 = t) (ht : t < 10) : entP G R M k = .inr (t, fvsP G.2.2.1 R M k (fcode t)) := by
  unfold entP; rw [h, if_neg (by omega), if_neg (by omega), if_neg (by omega), if_neg (by omega)]
theorem entP_I {G : GG} {R : RR} {M : Mem} {k : Nat} (h : (shp k).1 = 10) : entP G R M k = .inl (G.2.1 0, alen k, .inl (gi M k)) := by
  unfold entP; rw [if_pos h]
theorem entP_L {G : GG} {R : RR} {M : Mem} {k : Nat} (h : (shp k).1 = 11) : entP G R M k = .inl (G.2.1 1, alen k, .inr (.inl (gl M k))) := by
  unfold entP; rw [if_neg (by omega), if_pos h]
theorem entP_F {G : GG} {R : RR} {M : Mem} {k : Nat} (h : (shp k).1 = 12) : entP G R M k = .inl (G.2.1 2, alen k, .inr (.inr (.inl (gf M k)))) := by
  unfold entP; rw [if_neg (by omega), if_neg (by omega), if_pos h]
theorem entP_P {G : GG} {R : RR} {M : Mem} {k : Nat} (h : (shp k).1 = 13) : entP G R M k = .inl (G.2.1 3, alen k, .inr (.inr (.inr (.inr (fun j => (R k j).map G.2.2.1))))) := by
  unfold entP; rw [if_neg (by omega), if_neg (by omega), if_neg (by omega), if_pos h]
theorem fvsP_at {ad : Nat → Nat} {R : RR} {M : Mem} {k : Nat} {cs : List Nat} {j : Nat} (h : j < cs.length) : (fvsP ad R M k cs)[j]? = some (fvP ad R M k j (cs.getD j 0)) := by
  simp [fvsP, List.getElem?_map, List.getElem?_range h]
theorem fvsP_len (ad : Nat → Nat) (R : RR) (M : Mem) (k : Nat) (cs : List Nat) : (fvsP ad R M k cs).length = cs.length := by simp [fvsP]
theorem fvsP_set {ad : Nat → Nat} {R R' : RR} {M M' : Mem} {k : Nat} {cs : List Nat} {j : Nat} {v : Value} (h : j < cs.length) (h1 : fvP ad R' M' k j (cs.getD j 0) = v) (h2 : ∀ i, i ≠ j → fvP ad R' M' k i (cs.getD i 0) = fvP ad R M k i (cs.getD i 0)) : (fvsP ad R M k cs).set j v = fvsP ad R' M' k cs := by
  apply List.ext_getElem?
  intro i
  rw [List.getElem?_set]
  by_cases hi : i < cs.length
  · rw [fvsP_at hi]
    by_cases hij : j = i
    · subst hij
      rw [if_pos rfl, if_pos (by rw [fvsP_len]; exact h), fvsP_at hi, h1]
    · rw [if_neg hij, fvsP_at hi, h2 i (Ne.symm hij)]
  · have hl : (fvsP ad R' M' k cs).length ≤ i := by rw [fvsP_len]; omega
    have hl2 : (fvsP ad R M k cs).length ≤ i := by rw [fvsP_len]; omega
    rw [List.getElem?_eq_none hl, List.getElem?_eq_none hl2, if_neg (by omega)]
/-- an entry depends on its own row alone -/
theorem entP_congr {G : GG} {R R' : RR} {M M' : Mem} {k : Nat} (h1 : gi M' k = gi M k) (h2 : gl M' k = gl M k) (h3 : gf M' k = gf M k) (h4 : R' k = R k) : entP G R' M' k = entP G R M k := by
  unfold entP fvsP fvP; rw [h1, h2, h3, h4]
def ru (R : RR) (k j t : Nat) : RR := fun a b => if a = k ∧ b = j then some t else R a b
def rz (R : RR) (n : Nat) : RR := fun a => if a = n then fun _ => none else R a
theorem ru_ne {R : RR} {k j t a : Nat} (h : a ≠ k) : ru R k j t a = R a := by funext b; unfold ru; rw [if_neg (fun q => h q.1)]
theorem ru_ne2 {R : RR} {k j t a b : Nat} (h : b ≠ j) : ru R k j t a b = R a b := by unfold ru; rw [if_neg (fun q => h q.2)]
theorem rz_ne {R : RR} {n a : Nat} (h : a ≠ n) : rz R n a = R a := by unfold rz; rw [if_neg h]
/-- what the fields hold in the end -/
def fin (a b : Nat) : Option Nat := if (shp a).1 = 13 then (if b < 8 then some (a + 1 + 11 * b) else none) else some (a + ((fcode (shp a).1).getD b 0 - 2))
def Rf (R : RR) (k n : Nat) : RR := fun a => if k ≤ a ∧ a < n then fin a else R a
theorem WorldP.blind {G : GG} {R : RR} {n : Nat} {M : Mem} {av : List Value} : FrameBlind (va_Pc av (WorldP G R n M)) := by
  intro a U g mk h
  obtain ⟨h1, hP, hK, hi, hs, hn, hx⟩ := h
  exact ⟨h1, hP, va_K.moved (u := U) (U := U.calling g mk a) (Vm.Alike.refl U.vm) hK, hi, Sta.moved (u := U) (U := U.calling g mk a) (Vm.Alike.refl U.vm) hs, Nst.same (u := U) (U := U.calling g mk a) rfl hn, hx⟩
section MADE
variable {p : Program} {l : Launch} {e : Env} {Rm : Room} {s : State} {m : MethodId} {args : Array Value} {below : List Frame} {meth : Method} {c : Code} {H : Heap} {locs : List Loc} {cells slots : Nat} {Q : State → Prop}
variable {cc : ByteArray} {nL : Nat} {own : String} {pc : Nat} {ls : Array Slot} {rest : List Value} {G : GG} {M : Mem} {R : RR} {n : Nat}
theorem StX.at {G : GG} {s : State} {H H1 : Heap} {locs : List Loc} {U : State} (h : StX G s H) (hw : s.WarmedH U.vm) (hS : va_S (adA G) H H1 locs) : StX G U H1 := by
  obtain ⟨cell, h1, h2, h3, h4, h5, h6⟩ := h
  exact ⟨cell, by rw [hS.2.1 _ (Array.getElem?_eq_some_iff.mp h1).1 h5]; exact h1, h2, h3, h4, h5, by rw [hw.alike.findClass]; exact h6⟩
theorem p_world (hB : BX p s m args c cc nL own G) (hX : StX G s s.heap) (hW : WP G R n M H) (hsz : H.size = G.2.2.1 0 + n) (hS : va_S (adA G) s.heap H locs) {U : State} (hU : U.heap = H) (hw : s.WarmedH U.vm) : WorldP G R n M U :=
  ⟨by rw [hU]; exact ⟨hW, hsz⟩, va_K.moved hw.alike hB.k, hB.inj, Sta.moved hw.alike (Sta.kept hB.sta (fun a h1 h2 => by rw [hU]; exact hS.2.1 a h1 h2)), Nst.warm hw hB.nst, by rw [hU]; exact hX.at hw hS⟩
theorem p_congr {R' : RR} {M' : Mem} (hW : WP G R n M H) (h : ∀ j, j < n → entP G R' M' j = entP G R M j) : WP G R' n M' H := by unfold WP; rw [← wslP_congr h]; exact hW
theorem p_get (hB : BX p s m args c cc nL own G) (hW : WP G R n M H) {C : String} {T : u_T} {N ci index : Nat} (hin : ∀ w ∈ u_ws C T N, w ∈ lw_all) (hc : vwCl[ci]? = some (C, T, N)) (hci : ci < 10) (hlen : (fcode ci).length = N) (j : Nat) (hj : j < N) {k : Nat} (hkn : k < n) (hk : isT ci k)
    (hlink : Cond.fieldLink own index C (T j).2.1 (T j).2.2.1 ∈ lw_all) (hcl : (T j).1 = C) {v : Value} (hv : fvP G.2.2.1 R M k j ((fcode ci).getD j 0) = v) (hdg : decode cc pc = .ok (.getfield index, 3))
    (kk : W p l e Rm s m args below meth c H locs cells slots Q (F0 m (pc + 3) ls (v :: rest))) : W p l e Rm s m args below meth c H locs cells slots Q (F0 m pc ls (.ref (G.2.2.1 k) :: rest)) := by
  refine va_get (D := G.1) (cl := vwCl) (ci := ci) (ws := wslP G R n M) (tys := tysl G) (C := C) (T := T) (N := N) (ref := C) (v := v) hB.x hB.b hB.2.2.2.2.1 hin hB.ow hB.k hW k (fs := fvsP G.2.2.1 R M k (fcode ci)) ?_ hc j hj (hB.w hlink) (fun x h => by rw [hcl] at h; exact h) ?_ hdg kk
  · rw [wslP_at hkn, entP_o hk.2 hci]
  · rw [fvsP_at (by omega), hv]
/-- how large the heap is: no more cells than have been counted, no fewer than are known -/
theorem p_size {X : Nat} {g : JFrame} (hz : s.heap.size + cells = X) (hlow : X ≤ H.size) (k : H.size = X → W p l e Rm s m args below meth c H locs cells slots Q g) : W p l e Rm s m args below meth c H locs cells slots Q g := by
  intro T hT X
  have h := X.heapSize
  rw [hT] at h
  exact k (by omega) T hT X
theorem p_low (hL : adL G) (hW : WP G R (n + 1) M H) : G.2.2.1 0 + (n + 1) ≤ H.size := by
  have h := (hW n _ (wslP_at (Nat.lt_succ_self n))).lt
  have := hL n
  simp only [this] at h
  omega
theorem p_put (hB : BX p s m args c cc nL own G) (hn : n ≤ NN) (hW : WP G R n M H) (hS : va_S (adA G) s.heap H locs) {C : String} {T : u_T} {N ci index : Nat} (hin : ∀ w ∈ u_ws C T N, w ∈ lw_all) (ty0 : Nat → FieldType) (hty : ∀ k, k < N → parseFieldDescriptor (T k).2.2.1 = some (ty0 k)) (hnm : ∀ a, a < N → ∀ b, b < N → a ≠ b → (T a).2.1 ≠ (T b).2.1) (hc : vwCl[ci]? = some (C, T, N)) (hci : ci < 10) (hlen : (fcode ci).length = N) (j : Nat) (hj : j < N) {k : Nat} (hkn : k < n) (hk : isT ci k)
    (hlink : Cond.fieldLink own index C (T j).2.1 (T j).2.2.1 ∈ lw_all) (hcl : (T j).1 = C) (hfin : (T j).2.2.2 = false) {ty : FieldType} {v : Value} (hd : parseFieldDescriptor (T j).2.2.1 = some ty) (hnr : narrow ty v = v) (hfit : fits ty v = true) {M1 : Mem} {R1 : RR} (hv : fvP G.2.2.1 R1 M1 k j ((fcode ci).getD j 0) = v) (hoth : ∀ i, i ≠ j → fvP G.2.2.1 R1 M1 k i ((fcode ci).getD i 0) = fvP G.2.2.1 R M k i ((fcode ci).getD i 0)) (hent : ∀ a, a ≠ k → entP G R1 M1 a = entP G R M a) (hdg : decode cc pc = .ok (.putfield index, 3))
    (kk : ∀ (H1 : Heap) (locs1 : List Loc), WP G R1 n M1 H1 → va_S (adA G) s.heap H1 locs1 → W p l e Rm s m args below meth c H1 locs1 cells slots Q (F0 m (pc + 3) ls rest)) : W p l e Rm s m args below meth c H locs cells slots Q (F0 m pc ls (v :: .ref (G.2.2.1 k) :: rest)) := by
  refine va_put (D := G.1) (cl := vwCl) (ci := ci) (ws := wslP G R n M) (tys := tysl G) (C := C) (T := T) (N := N) (ref := C) (v := v) hB.x hB.b hB.2.2.2.2.1 hin ty0 hty hnm hB.ow hB.k hW (wslP_D R M hB.inj hn) hS k (fs := fvsP G.2.2.1 R M k (fcode ci)) ?_ hc j hj (hB.w hlink) (fun x h => by rw [hcl] at h; exact h) hfin hd hnr hfit (by rw [fvsP_len]; omega) hdg (fun H1 locs1 hP1 _ hS1 => ?_)
  · rw [wslP_at hkn, entP_o hk.2 hci]
  · refine kk H1 locs1 ?_ hS1
    rw [fvsP_set (by omega) hv hoth, wslP_set hkn (entP_o hk.2 hci) (fun a _ h => hent a h)] at hP1
    exact hP1
theorem p_putF (hB : BX p s m args c cc nL own G) (hn : n ≤ NN) (hW : WP G R n M H) (hS : va_S (adA G) s.heap H locs) {C : String} {T : u_T} {N ci index : Nat} (hin : ∀ w ∈ u_ws C T N, w ∈ lw_all) (ty0 : Nat → FieldType) (hty : ∀ k, k < N → parseFieldDescriptor (T k).2.2.1 = some (ty0 k)) (hnm : ∀ a, a < N → ∀ b, b < N → a ≠ b → (T a).2.1 ≠ (T b).2.1) (hc : vwCl[ci]? = some (C, T, N)) (hci : ci < 10) (hlen : (fcode ci).length = N) (j : Nat) (hj : j < N) {k : Nat} (hkn : k < n) (hk : isT ci k)
    (hlink : Cond.fieldLink own index C (T j).2.1 (T j).2.2.1 ∈ lw_all) (hcl : (T j).1 = C) (hown2 : C = own) (hfin : (T j).2.2.2 = true) (hin2 : meth.name = "<init>") {ty : FieldType} {t : Nat} (hd : parseFieldDescriptor (T j).2.2.1 = some ty) (hnr : narrow ty (.ref (G.2.2.1 t)) = .ref (G.2.2.1 t)) (hfit : fits ty (.ref (G.2.2.1 t)) = true) (hcode : 2 ≤ (fcode ci).getD j 0) (hdg : decode cc pc = .ok (.putfield index, 3))
    (kk : ∀ (H1 : Heap) (locs1 : List Loc), WP G (ru R k j t) n M H1 → va_S (adA G) s.heap H1 locs1 → W p l e Rm s m args below meth c H1 locs1 cells slots Q (F0 m (pc + 3) ls rest)) : W p l e Rm s m args below meth c H locs cells slots Q (F0 m pc ls (.ref (G.2.2.1 t) :: .ref (G.2.2.1 k) :: rest)) := by
  refine va_putF (D := G.1) (cl := vwCl) (ci := ci) (ws := wslP G R n M) (tys := tysl G) (C := C) (T := T) (N := N) (ref := C) (v := .ref (G.2.2.1 t)) hB.x hB.b hB.2.2.2.2.1 hin ty0 hty hnm hB.ow hB.k hW (wslP_D R M hB.inj hn) hS k (fs := fvsP G.2.2.1 R M k (fcode ci)) ?_ hc j hj (hB.w hlink) (fun x h => by rw [hcl] at h; exact h) hfin hin2 (hcl.trans hown2) hd hnr hfit (by rw [fvsP_len]; omega) hdg (fun H1 locs1 hP1 _ hS1 => ?_)
  · rw [wslP_at hkn, entP_o hk.2 hci]
  · refine kk H1 locs1 ?_ hS1
    rw [fvsP_set (R' := ru R k j t) (M' := M) (by omega) (by unfold fvP; rw [if_neg (by omega), if_neg (by omega)]; unfold ru; rw [if_pos ⟨rfl, rfl⟩]; rfl) (fun i h => by unfold fvP; rw [ru_ne2 h]), wslP_set hkn (entP_o hk.2 hci) (fun a _ h => entP_congr rfl rfl rfl (ru_ne h))] at hP1
    exact hP1
/-- a new object: the next cell -/
theorem p_new (hB : BX p s m args c cc nL own G) (hL : adL G) (hW : WP G R n M H) (hsz : H.size = G.2.2.1 0 + n) (hS : va_S (adA G) s.heap H locs) {C : String} {T : u_T} {N ci index : Nat} (hin : ∀ w ∈ u_ws C T N, w ∈ lw_all) (ty : Nat → FieldType) (hty : ∀ k, k < N → parseFieldDescriptor (T k).2.2.1 = some (ty k)) (hcl : Cond.classLink own index C ∈ lw_all) (hinst : Cond.instantiable C N ∈ lw_all) (hini : Cond.initialized C ∈ lw_all) (hc : vwCl[ci]? = some (C, T, N)) (hci : ci < 10) (hk : isT ci n)
    (hfs : ∀ j, j < N → defaultValue (ty j) = vp_V (fvsP G.2.2.1 (rz R n) M n (fcode ci)) j) (hcells : cells + 1 ≤ Rm.cells) (hslots : slots + N ≤ Rm.slots) (hdg : decode cc pc = .ok (.new index, 3))
    (kk : ∀ H1 : Heap, WP G (rz R n) (n + 1) M H1 → va_S (adA G) s.heap H1 locs → W p l e Rm s m args below meth c H1 locs (cells + 1) (slots + N) Q (F0 m (pc + 3) ls (.ref (G.2.2.1 n) :: rest))) : W p l e Rm s m args below meth c H locs cells slots Q (F0 m pc ls rest) := by
  have hKn := hB.k.1 ci _ hc
  refine W.newcK hB.x hB.b hB.ow (hB.w hcl) (hB.w hinst) (hB.w hini) rfl hdg hcells hslots hKn.2.1 (h := G.2.2.1 n) (by rw [hsz, hL n]) fun H1 kC hkC e1 z1 o1 => ?_
  have hkp : ∀ (k : Nat) (x : Nat × va_E), (wslP G R n M)[k]? = some x → H1[x.1]? = H[x.1]? := fun k x hx => o1 x.1 (by have := (hW k x hx).lt; rw [hsz] at this; rw [hL n]; exact this)
  refine kk H1 ?_ ⟨by rw [z1, hL n]; have := hS.1; omega, fun x h1 h2 => (o1 x (by rw [hL n, ← hsz]; exact Nat.lt_of_lt_of_le h1 hS.1)).trans (hS.2.1 x h1 h2), hS.2.2⟩
  unfold WP
  rw [← wslP_push (R := R) (e := .inr (ci, fvsP G.2.2.1 (rz R n) M n (fcode ci))) (entP_o hk.2 hci) (fun j hj => entP_congr rfl rfl rfl (rz_ne (Nat.ne_of_lt hj)))]
  refine va_P.app (va_P.kept hW hkp) (fun k x hx => ?_)
  have hz : k < 1 := (List.getElem?_eq_some_iff.mp hx).1
  rw [show k = 0 by omega] at hx
  cases hx
  exact ⟨_, hc, (u_born ty hB.2.2.2.2.1 hin hKn hkC e1 hty).to hfs⟩
/-- a new array of numbers: the next cell -/
theorem p_arr (hB : BX p s m args c cc nL own G) (hL : adL G) (hW : WP G R n M H) (hsz : H.size = G.2.2.1 0 + n) (hS : va_S (adA G) s.heap H locs) {atype : ArrayType} (harr : (Cond.arrayClass (newarray.typeOf atype)).before args s = true) {x : Int32} {N : Nat} (hx0 : ¬ x < 0) (hN : x.toNatClampNeg = N) (hbytes : N * componentBytes (newarray.typeOf atype) ≤ 536870912) (hcells : cells + 1 ≤ Rm.cells) (hslots : slots + N ≤ Rm.slots) (hdg : decode cc pc = .ok (.newarray atype, 2))
    (hcell : ∀ cA : ClassId, s.vm.findClass ("[" ++ (newarray.typeOf atype).toString) = some cA → ∃ cy a, entP G R M n = .inl (cy, a) ∧ arrV cA N (fun _ => defaultValue (newarray.typeOf atype)) = vp_cell cy a)
    (kk : ∀ H1 : Heap, WP G R (n + 1) M H1 → va_S (adA G) s.heap H1 locs → W p l e Rm s m args below meth c H1 locs (cells + 1) (slots + N) Q (F0 m (pc + 2) ls (.ref (G.2.2.1 n) :: rest))) : W p l e Rm s m args below meth c H locs cells slots Q (F0 m pc ls (.int x :: rest)) := by
  refine va_newaK hB.x hB.b harr rfl hdg rfl hx0 hN hbytes hcells hslots (h := G.2.2.1 n) (by rw [hsz, hL n]) fun H1 cA e1 z1 o1 hAr hNm => ?_
  obtain ⟨cy, a, q1, q2⟩ := hcell cA hNm
  have hkp : ∀ (k : Nat) (x : Nat × va_E), (wslP G R n M)[k]? = some x → H1[x.1]? = H[x.1]? := fun k x hx => o1 x.1 (by have := (hW k x hx).lt; rw [hsz] at this; rw [hL n]; exact this)
  refine kk H1 ?_ ⟨by rw [z1, hL n]; have := hS.1; omega, fun x h1 h2 => (o1 x (by rw [hL n, ← hsz]; exact Nat.lt_of_lt_of_le h1 hS.1)).trans (hS.2.1 x h1 h2), hS.2.2⟩
  unfold WP
  rw [← wslP_push (R := R) (e := .inl (cy, a)) q1 (fun j hj => rfl)]
  refine va_P.app (va_P.kept hW hkp) (fun k x hx => ?_)
  have hz : k < 1 := (List.getElem?_eq_some_iff.mp hx).1
  rw [show k = 0 by omega] at hx
  cases hx
  show H1[G.2.2.1 n]? = some (vp_cell cy a)
  rw [e1, q2]
end MADE
