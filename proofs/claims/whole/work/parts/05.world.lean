/-! the memory of the two systems as one, and the kit's rows over it -/
abbrev Mem : Type := (Nat → Nat → Int32) × (Nat → Nat → Int64) × (Nat → Nat → UInt32)
def gi (M : Mem) (k j : Nat) : Int32 := M.1 k j
def gl (M : Mem) (k j : Nat) : Int64 := M.2.1 k j
def gf (M : Mem) (k j : Nat) : UInt32 := M.2.2 k j
def u2 {α : Type} (f : Nat → Nat → α) (k j : Nat) (v : α) : Nat → Nat → α := fun a b => if a = k ∧ b = j then v else f a b
def ur {α : Type} (f : Nat → Nat → α) (k : Nat) (r : Nat → α) : Nat → Nat → α := fun a => if a = k then r else f a
def si (M : Mem) (k j : Nat) (v : Int32) : Mem := (u2 M.1 k j v, M.2)
def sl (M : Mem) (k j : Nat) (v : Int64) : Mem := (M.1, u2 M.2.1 k j v, M.2.2)
def sf (M : Mem) (k j : Nat) (v : UInt32) : Mem := (M.1, M.2.1, u2 M.2.2 k j v)
def sri (M : Mem) (k : Nat) (r : Nat → Int32) : Mem := (ur M.1 k r, M.2)
def srl (M : Mem) (k : Nat) (r : Nat → Int64) : Mem := (M.1, ur M.2.1 k r, M.2.2)
def srf (M : Mem) (k : Nat) (r : Nat → UInt32) : Mem := (M.1, M.2.1, ur M.2.2 k r)
abbrev NN : Nat := 169
def shpL : List (Nat × Nat) := [(8, 0), (3, 0), (10, 8), (7, 0), (11, 16), (10, 16), (10, 16), (4, 0), (11, 8), (10, 8), (10, 8), (10, 8), (3, 0), (10, 8), (7, 0), (11, 16), (10, 16), (10, 16), (4, 0), (11, 8), (10, 8), (10, 8), (10, 8), (3, 0), (10, 8), (7, 0), (11, 16), (10, 16), (10, 16), (4, 0), (11, 8), (10, 8), (10, 8), (10, 8), (1, 0), (13, 8), (3, 0), (10, 8), (7, 0), (11, 16), (10, 16), (10, 16), (4, 0), (11, 8), (10, 8), (10, 8), (10, 8), (3, 0), (10, 8), (7, 0), (11, 16), (10, 16), (10, 16), (4, 0), (11, 8), (10, 8), (10, 8), (10, 8), (3, 0), (10, 8), (7, 0), (11, 16), (10, 16), (10, 16), (4, 0), (11, 8), (10, 8), (10, 8), (10, 8), (3, 0), (10, 8), (7, 0), (11, 16), (10, 16), (10, 16), (4, 0), (11, 8), (10, 8), (10, 8), (10, 8), (3, 0), (10, 8), (7, 0), (11, 16), (10, 16), (10, 16), (4, 0), (11, 8), (10, 8), (10, 8), (10, 8), (3, 0), (10, 8), (7, 0), (11, 16), (10, 16), (10, 16), (4, 0), (11, 8), (10, 8), (10, 8), (10, 8), (3, 0), (10, 8), (7, 0), (11, 16), (10, 16), (10, 16), (4, 0), (11, 8), (10, 8), (10, 8), (10, 8), (3, 0), (10, 8), (7, 0), (11, 16), (10, 16), (10, 16), (4, 0), (11, 8), (10, 8), (10, 8), (10, 8), (5, 0), (10, 96), (6, 0), (2, 0), (0, 0), (10, 192), (10, 192), (10, 192), (10, 192), (12, 193), (12, 193), (12, 193), (10, 193), (10, 16), (10, 7), (9, 0), (10, 7), (10, 8), (10, 16), (10, 192), (10, 16), (10, 8), (10, 24), (10, 8), (10, 8), (10, 162), (10, 162), (10, 161), (10, 161), (12, 161), (10, 161), (10, 162), (10, 96), (10, 49), (10, 49), (10, 147), (10, 49), (10, 49), (10, 3), (10, 3250), (12, 161), (12, 161), (10, 161), (10, 161), (10, 16)]
def shp (k : Nat) : Nat × Nat := shpL.getD k (99, 0)
def alen (k : Nat) : Nat := (shp k).2
abbrev isT (t k : Nat) : Prop := k < NN ∧ (shp k).1 = t
/-- the fields of a class: 0 an int, 1 a float, d + 2 the cell d behind the object's -/
def fcode : Nat → List Nat
  | 0 => [3, 4, 5, 0]
  | 1 => [3, 0, 0]
  | 2 => [3, 0, 0, 0, 0, 0, 1, 0, 0, 0, 0, 0, 0, 0, 0, 0, 0, 1]
  | 3 => [3, 4, 8, 0, 0, 0, 0, 0, 0, 0, 0, 0, 0]
  | 4 => [3, 4, 5, 6, 0]
  | 5 => [3, 0, 0, 0]
  | 6 => [4, 3, 8, 0, 9, 10, 11, 12]
  | 7 => [3, 4, 5, 0]
  | 8 => [3, 14, 25, 36, 126, 128, 139, 140, 0, 0, 0]
  | 9 => [3, 4, 5, 6, 7, 8, 9, 10, 11, 0, 0, 0, 0, 0, 0, 0, 0, 0, 0, 0, 0, 12, 13, 14, 15, 0, 16, 17, 18, 0, 19, 20, 21, 22, 23, 24, 0, 0, 0, 0, 25, 26, 0, 0, 0, 0, 0, 27, 28, 29, 30, 31, 0, 0]
  | _ => []
abbrev GG : Type := va_G × (Nat → ClassId) × (Nat → Nat) × Nat
def fv (ad : Nat → Nat) (M : Mem) (k j c : Nat) : Value := if c = 0 then .int (gi M k j) else if c = 1 then .float (gf M k j) else .ref (ad (k + (c - 2)))
def fvs (ad : Nat → Nat) (M : Mem) (k : Nat) (cs : List Nat) : List Value := (List.range cs.length).map (fun j => fv ad M k j (cs.getD j 0))
def ent (G : GG) (M : Mem) (k : Nat) : va_E :=
  if (shp k).1 = 10 then .inl (G.2.1 0, alen k, .inl (gi M k))
  else if (shp k).1 = 11 then .inl (G.2.1 1, alen k, .inr (.inl (gl M k)))
  else if (shp k).1 = 12 then .inl (G.2.1 2, alen k, .inr (.inr (.inl (gf M k))))
  else if (shp k).1 = 13 then .inl (G.2.1 3, alen k, .inr (.inr (.inr (.inr (fun j => some (G.2.2.1 (k + 1 + 11 * j)))))))
  else .inr ((shp k).1, fvs G.2.2.1 M k (fcode (shp k).1))
def wsl (G : GG) (M : Mem) : va_W := (List.range NN).map (fun k => (G.2.2.1 k, ent G M k))
abbrev tysl (G : GG) : List (ClassId × FieldType) := [(G.2.1 0, .int), (G.2.1 1, .long), (G.2.1 2, .float), (G.2.1 3, .object RX3)]
def adA (G : GG) : Nat → Prop := fun q => ∃ k, k < NN ∧ q = G.2.2.1 k
def adInj (G : GG) : Prop := ∀ i j, i < NN → j < NN → G.2.2.1 i = G.2.2.1 j → i = j
def fwV : Nat → Value := fun j => .int ([3, 4, 3, 4, 3, 2, 4, 4].getD j 0)
def Sta (G : GG) (U : State) (H : Heap) : Prop := va_Z RX8 "FIRST_WIDTHS" "[I" (.ref G.2.2.2) (adA G) U H ∧ va_T .int G.2.2.2 8 fwV (adA G) U H
def Wd (G : GG) (M : Mem) (H : Heap) : Prop := va_P G.1 vwCl (wsl G M) H
def nestL : List (String × Nat × MethodName) := [("LinesOfFragments$Sheet", 19, ⟨"LinesOfFragments", "put", "([III)V"⟩), ("LinesOfFragments$Sheet", 37, ⟨"LinesOfFragments", "at", "([II)I"⟩), ("LinesOfFragments$Paragraph", 59, ⟨"LinesOfFragments", "copyInts", "([I[I)V"⟩), ("LinesOfFragments$Words", 22, ⟨"LinesOfFragments", "copyLongs", "([J[J)V"⟩), ("LinesOfFragments$Words", 26, ⟨"LinesOfFragments", "copyInts", "([I[I)V"⟩), ("LinesOfFragments$Patterns", 25, ⟨"LinesOfFragments", "copyLongs", "([J[J)V"⟩), ("LinesOfFragments$Patterns", 29, ⟨"LinesOfFragments", "copyInts", "([I[I)V"⟩), ("LinesOfFragments$Sheet", 93, ⟨"LinesOfFragments", "spelledOn", "(JII)J"⟩), ("LinesOfFragments$Words", 42, ⟨"LinesOfFragments", "put", "([III)V"⟩), ("LinesOfFragments$Words", 34, ⟨"LinesOfFragments", "at", "([II)I"⟩), ("LinesOfFragments$Patterns", 58, ⟨"LinesOfFragments", "at", "([II)I"⟩), ("LinesOfFragments$Patterns", 48, ⟨"LinesOfFragments", "put", "([III)V"⟩), ("LinesOfFragments$Sheet", 123, ⟨"LinesOfFragments", "glueFault", "(III)I"⟩), ("LinesOfFragments$Sheet", 131, ⟨"LinesOfFragments", "isOther", "(II)Z"⟩), ("LinesOfFragments$Sheet", 144, ⟨"LinesOfFragments", "outside", "(III)I"⟩), ("LinesOfFragments$Paragraph", 91, ⟨"LinesOfFragments", "letterIn", "(JI)I"⟩), ("LinesOfFragments$Paragraph", 95, ⟨"LinesOfFragments", "at", "([II)I"⟩), ("LinesOfFragments$Patterns", 41, ⟨"LinesOfFragments", "letterIn", "(JI)I"⟩), ("LinesOfFragments$Fragments", 62, ⟨"LinesOfFragments", "letterIn", "(JI)I"⟩), ("LinesOfFragments$Fragments", 66, ⟨"LinesOfFragments", "at", "([II)I"⟩), ("LinesOfFragments$Fragments", 74, ⟨"LinesOfFragments", "put", "([III)V"⟩), ("LinesOfFragments$Line", 76, ⟨"LinesOfFragments", "at", "([II)I"⟩), ("LinesOfFragments$Typesetter", 145, ⟨"LinesOfFragments", "put", "([III)V"⟩), ("LinesOfFragments$Typesetter", 101, ⟨"LinesOfFragments", "at", "([II)I"⟩)]
/-- the calls of a private static of the host, by the classes in its nest -/
def Nst (U : State) : Prop := ∀ q ∈ nestL, va_Nw (.methodLinkNest q.1 q.2.1 q.2.2 "LinesOfFragments") U
theorem Nst.warm {s U : State} (hW : s.WarmedH U.vm) (h : Nst s) : Nst U := fun q hq => va_Nw.warmM hW (h q hq)
theorem Nst.same {u U : State} (h : u.vm = U.vm) (hN : Nst u) : Nst U := fun q hq => va_Nw.same rfl h (hN q hq)
def World (G : GG) (M : Mem) (U : State) : Prop := Wd G M U.heap ∧ va_K G.1 vwCl (tysl G) U ∧ adInj G ∧ Sta G U U.heap ∧ Nst U
theorem wsl_at {G : GG} {M : Mem} {k : Nat} (h : k < NN) : (wsl G M)[k]? = some (G.2.2.1 k, ent G M k) := by
  simp [wsl, List.getElem?_map, List.getElem?_range h]
theorem wsl_len (G : GG) (M : Mem) : (wsl G M).length = NN := by simp [wsl]
theorem wsl_D {G : GG} (M : Mem) (h : adInj G) : va_D (adA G) (wsl G M) := by
  have key : ∀ (k : Nat) (q : Nat × va_E), (wsl G M)[k]? = some q → k < NN ∧ q.1 = G.2.2.1 k := by
    intro k q hq
    have hk : k < NN := by
      have := (List.getElem?_eq_some_iff.mp hq).1
      rwa [wsl_len] at this
    rw [wsl_at hk] at hq
    exact ⟨hk, by rw [← Option.some.inj hq]⟩
  refine ⟨fun i j p q hp hq e => ?_, fun k q hq => ?_⟩
  · obtain ⟨a1, a2⟩ := key i p hp
    obtain ⟨b1, b2⟩ := key j q hq
    exact h i j a1 b1 (by rw [← a2, ← b2, e])
  · obtain ⟨a1, a2⟩ := key k q hq
    exact ⟨k, a1, a2⟩
theorem wsl_set {G : GG} {M M' : Mem} {k : Nat} {e : va_E} (h : k < NN) (h1 : ent G M' k = e) (h2 : ∀ j, j ≠ k → ent G M' j = ent G M j) : (wsl G M).set k (G.2.2.1 k, e) = wsl G M' := by
  apply List.ext_getElem?
  intro i
  rw [List.getElem?_set]
  by_cases hi : i < NN
  · rw [wsl_at hi]
    by_cases hik : k = i
    · subst hik
      rw [if_pos rfl, if_pos (by rw [wsl_len]; exact h), wsl_at hi, h1]
    · rw [if_neg hik, wsl_at hi, h2 i (Ne.symm hik)]
  · have hl : (wsl G M').length ≤ i := by rw [wsl_len]; omega
    have hl2 : (wsl G M).length ≤ i := by rw [wsl_len]; omega
    rw [List.getElem?_eq_none hl, List.getElem?_eq_none hl2]
    rw [if_neg (by omega)]
theorem Sta.moved {G : GG} {u U : State} {H : Heap} (hvm : u.vm.Alike U.vm) (h : Sta G u H) : Sta G U H := ⟨h.1.moved hvm, h.2.moved hvm⟩
theorem Sta.kept {G : GG} {U : State} {H H1 : Heap} (h : Sta G U H) (hq : ∀ a : Nat, a < H.size → ¬ adA G a → H1[a]? = H[a]?) : Sta G U H1 := ⟨h.1.kept hq, h.2.kept hq⟩
/-! reading what was written -/
theorem gi_si (M : Mem) (k j k' j' : Nat) (v : Int32) : gi (si M k j v) k' j' = if k' = k ∧ j' = j then v else gi M k' j' := rfl
theorem gl_si (M : Mem) (k j k' j' : Nat) (v : Int32) : gl (si M k j v) k' j' = gl M k' j' := rfl
theorem gf_si (M : Mem) (k j k' j' : Nat) (v : Int32) : gf (si M k j v) k' j' = gf M k' j' := rfl
theorem gi_sl (M : Mem) (k j k' j' : Nat) (v : Int64) : gi (sl M k j v) k' j' = gi M k' j' := rfl
theorem gl_sl (M : Mem) (k j k' j' : Nat) (v : Int64) : gl (sl M k j v) k' j' = if k' = k ∧ j' = j then v else gl M k' j' := rfl
theorem gf_sl (M : Mem) (k j k' j' : Nat) (v : Int64) : gf (sl M k j v) k' j' = gf M k' j' := rfl
theorem gi_sf (M : Mem) (k j k' j' : Nat) (v : UInt32) : gi (sf M k j v) k' j' = gi M k' j' := rfl
theorem gl_sf (M : Mem) (k j k' j' : Nat) (v : UInt32) : gl (sf M k j v) k' j' = gl M k' j' := rfl
theorem gf_sf (M : Mem) (k j k' j' : Nat) (v : UInt32) : gf (sf M k j v) k' j' = if k' = k ∧ j' = j then v else gf M k' j' := rfl
theorem gi_sri (M : Mem) (k k' j' : Nat) (r : Nat → Int32) : gi (sri M k r) k' j' = if k' = k then r j' else gi M k' j' := by
  unfold gi sri ur; by_cases h : k' = k <;> simp [h]
theorem gl_sri (M : Mem) (k k' j' : Nat) (r : Nat → Int32) : gl (sri M k r) k' j' = gl M k' j' := rfl
theorem gf_sri (M : Mem) (k k' j' : Nat) (r : Nat → Int32) : gf (sri M k r) k' j' = gf M k' j' := rfl
theorem gi_srl (M : Mem) (k k' j' : Nat) (r : Nat → Int64) : gi (srl M k r) k' j' = gi M k' j' := rfl
theorem gl_srl (M : Mem) (k k' j' : Nat) (r : Nat → Int64) : gl (srl M k r) k' j' = if k' = k then r j' else gl M k' j' := by
  unfold gl srl ur; by_cases h : k' = k <;> simp [h]
theorem gf_srl (M : Mem) (k k' j' : Nat) (r : Nat → Int64) : gf (srl M k r) k' j' = gf M k' j' := rfl
theorem gi_srf (M : Mem) (k k' j' : Nat) (r : Nat → UInt32) : gi (srf M k r) k' j' = gi M k' j' := rfl
theorem gl_srf (M : Mem) (k k' j' : Nat) (r : Nat → UInt32) : gl (srf M k r) k' j' = gl M k' j' := rfl
theorem gf_srf (M : Mem) (k k' j' : Nat) (r : Nat → UInt32) : gf (srf M k r) k' j' = if k' = k then r j' else gf M k' j' := by
  unfold gf srf ur; by_cases h : k' = k <;> simp [h]
theorem row_si (M : Mem) (k j : Nat) (v : Int32) : gi (si M k j v) k = upd (gi M k) j v := by
  funext b; simp [gi_si, upd]
theorem row_sl (M : Mem) (k j : Nat) (v : Int64) : gl (sl M k j v) k = vp_updL (gl M k) j v := by
  funext b; simp [gl_sl, vp_updL]
theorem row_sf (M : Mem) (k j : Nat) (v : UInt32) : gf (sf M k j v) k = vf_upd (gf M k) j v := by
  funext b; simp [gf_sf, vf_upd]
theorem fv_congr {ad : Nat → Nat} {M M' : Mem} {k j c : Nat} (h1 : gi M' k j = gi M k j) (h2 : gf M' k j = gf M k j) : fv ad M' k j c = fv ad M k j c := by
  unfold fv; rw [h1, h2]
theorem fvs_congr {ad : Nat → Nat} {M M' : Mem} {k : Nat} {cs : List Nat} (h1 : gi M' k = gi M k) (h2 : gf M' k = gf M k) : fvs ad M' k cs = fvs ad M k cs := by
  unfold fvs
  exact List.map_congr_left (fun j _ => fv_congr (by rw [h1]) (by rw [h2]))
theorem ent_congr {G : GG} {M M' : Mem} {k : Nat} (h1 : gi M' k = gi M k) (h2 : gl M' k = gl M k) (h3 : gf M' k = gf M k) : ent G M' k = ent G M k := by
  unfold ent; rw [h1, h2, h3, fvs_congr h1 h3]
theorem fvs_at {ad : Nat → Nat} {M : Mem} {k : Nat} {cs : List Nat} {j : Nat} (h : j < cs.length) : (fvs ad M k cs)[j]? = some (fv ad M k j (cs.getD j 0)) := by
  simp [fvs, List.getElem?_map, List.getElem?_range h]
theorem fvs_len (ad : Nat → Nat) (M : Mem) (k : Nat) (cs : List Nat) : (fvs ad M k cs).length = cs.length := by simp [fvs]
theorem fvs_set {ad : Nat → Nat} {M M' : Mem} {k : Nat} {cs : List Nat} {j : Nat} {v : Value} (h : j < cs.length) (h1 : fv ad M' k j (cs.getD j 0) = v) (h2 : ∀ i, i ≠ j → gi M' k i = gi M k i ∧ gf M' k i = gf M k i) : (fvs ad M k cs).set j v = fvs ad M' k cs := by
  apply List.ext_getElem?
  intro i
  rw [List.getElem?_set]
  by_cases hi : i < cs.length
  · rw [fvs_at hi]
    by_cases hij : j = i
    · subst hij
      rw [if_pos rfl, if_pos (by rw [fvs_len]; exact h), fvs_at hi, h1]
    · rw [if_neg hij, fvs_at hi, fv_congr (h2 i (Ne.symm hij)).1 (h2 i (Ne.symm hij)).2]
  · have hl : (fvs ad M' k cs).length ≤ i := by rw [fvs_len]; omega
    have hl2 : (fvs ad M k cs).length ≤ i := by rw [fvs_len]; omega
    rw [List.getElem?_eq_none hl, List.getElem?_eq_none hl2, if_neg (by omega)]
theorem ent_o {G : GG} {M : Mem} {k t : Nat} (h : (shp k).1 = t) (ht : t < 10) : ent G M k = .inr (t, fvs G.2.2.1 M k (fcode t)) := by
  unfold ent; rw [h, if_neg (by omega), if_neg (by omega), if_neg (by omega), if_neg (by omega)]
theorem ent_I {G : GG} {M : Mem} {k : Nat} (h : (shp k).1 = 10) : ent G M k = .inl (G.2.1 0, alen k, .inl (gi M k)) := by
  unfold ent; rw [if_pos h]
theorem ent_L {G : GG} {M : Mem} {k : Nat} (h : (shp k).1 = 11) : ent G M k = .inl (G.2.1 1, alen k, .inr (.inl (gl M k))) := by
  unfold ent; rw [if_neg (by omega), if_pos h]
theorem ent_F {G : GG} {M : Mem} {k : Nat} (h : (shp k).1 = 12) : ent G M k = .inl (G.2.1 2, alen k, .inr (.inr (.inl (gf M k)))) := by
  unfold ent; rw [if_neg (by omega), if_neg (by omega), if_pos h]
theorem ent_P {G : GG} {M : Mem} {k : Nat} (h : (shp k).1 = 13) : ent G M k = .inl (G.2.1 3, alen k, .inr (.inr (.inr (.inr (fun j => some (G.2.2.1 (k + 1 + 11 * j))))))) := by
  unfold ent; rw [if_neg (by omega), if_neg (by omega), if_neg (by omega), if_pos h]
theorem ne_row {α : Type} {f : Nat → Nat → α} {k j a : Nat} {v : α} (h : a ≠ k) : u2 f k j v a = f a := by
  funext b; unfold u2; rw [if_neg (fun q => h q.1)]
theorem ne_rr {α : Type} {f : Nat → Nat → α} {k a : Nat} {r : Nat → α} (h : a ≠ k) : ur f k r a = f a := by
  unfold ur; rw [if_neg h]
theorem ent_si {G : GG} {M : Mem} {k j a : Nat} {v : Int32} (h : a ≠ k) : ent G (si M k j v) a = ent G M a := ent_congr (ne_row h) rfl rfl
theorem ent_sl {G : GG} {M : Mem} {k j a : Nat} {v : Int64} (h : a ≠ k) : ent G (sl M k j v) a = ent G M a := ent_congr rfl (ne_row h) rfl
theorem ent_sf {G : GG} {M : Mem} {k j a : Nat} {v : UInt32} (h : a ≠ k) : ent G (sf M k j v) a = ent G M a := ent_congr rfl rfl (ne_row h)
theorem ent_sri {G : GG} {M : Mem} {k a : Nat} {r : Nat → Int32} (h : a ≠ k) : ent G (sri M k r) a = ent G M a := ent_congr (ne_rr h) rfl rfl
theorem ent_srl {G : GG} {M : Mem} {k a : Nat} {r : Nat → Int64} (h : a ≠ k) : ent G (srl M k r) a = ent G M a := ent_congr rfl (ne_rr h) rfl
theorem ent_srf {G : GG} {M : Mem} {k a : Nat} {r : Nat → UInt32} (h : a ≠ k) : ent G (srf M k r) a = ent G M a := ent_congr rfl rfl (ne_rr h)
/-- the words that every method takes -/
def lw_all : List Cond := lw_tbl.filter goodWord
theorem lw_all_in {w : Cond} (h : w ∈ lw_all) : w ∈ lw_tbl := (List.mem_filter.mp h).1
theorem lw_all_of {w : Cond} (h : w ∈ lw_tbl) (hg : goodWord w = true) : w ∈ lw_all := List.mem_filter.mpr ⟨h, hg⟩
theorem lw_all_good : GoodIn lw_all lw_all := fun _ h => ⟨h, good_of_word (List.mem_filter.mp h).2⟩
theorem mem_t1 {w : Cond} (h : w ∈ tables_1_1) : w ∈ lw_tbl := List.mem_append_right _ (List.mem_append_left _ h)
theorem mem_t2 {w : Cond} (h : w ∈ tables_1_2) : w ∈ lw_tbl := List.mem_append_right _ (List.mem_append_right _ (List.mem_append_left _ h))
theorem mem_t3 {w : Cond} (h : w ∈ tables_1_3) : w ∈ lw_tbl := List.mem_append_right _ (List.mem_append_right _ (List.mem_append_right _ (List.mem_append_left _ h)))
theorem mem_t4 {w : Cond} (h : w ∈ tables_1_4) : w ∈ lw_tbl := List.mem_append_right _ (List.mem_append_right _ (List.mem_append_right _ (List.mem_append_right _ (List.mem_append_left _ h))))
theorem mem_t5 {w : Cond} (h : w ∈ tables_1_5) : w ∈ lw_tbl := List.mem_append_right _ (List.mem_append_right _ (List.mem_append_right _ (List.mem_append_right _ (List.mem_append_right _ (List.mem_append_left _ h)))))
theorem mem_t6 {w : Cond} (h : w ∈ tables_1_6) : w ∈ lw_tbl := List.mem_append_right _ (List.mem_append_right _ (List.mem_append_right _ (List.mem_append_right _ (List.mem_append_right _ (List.mem_append_right _ (List.mem_append_left _ h))))))
theorem mem_t7 {w : Cond} (h : w ∈ tables_1_7) : w ∈ lw_tbl := List.mem_append_right _ (List.mem_append_right _ (List.mem_append_right _ (List.mem_append_right _ (List.mem_append_right _ (List.mem_append_right _ (List.mem_append_right _ h))))))
theorem mem_sel {w : Cond} (h : w ∈ k2_sels lw_privs) : w ∈ lw_tbl := List.mem_append_left _ h
def wsq (y : MethodName) (cc : ByteArray) (n : Nat) (ret : Option FieldType) : List Cond := .code y cc n ret :: lw_all
abbrev rmq (f lo : Nat) : Room := { frames := f, cells := 0, slots := 0, locals := lo }
theorem World.blind {G : GG} {M : Mem} {av : List Value} : FrameBlind (va_Pc av (World G M)) := by
  intro a U g mk h
  obtain ⟨h1, hP, hK, hi, hs, hn⟩ := h
  exact ⟨h1, hP, va_K.moved (u := U) (U := U.calling g mk a) (Vm.Alike.refl U.vm) hK, hi, Sta.moved (u := U) (U := U.calling g mk a) (Vm.Alike.refl U.vm) hs, Nst.same (u := U) (U := U.calling g mk a) rfl hn⟩
section WK
variable {p : Program} {l : Launch} {e : Env} {R : Room} {s : State} {m : MethodId} {args : Array Value} {below : List Frame} {meth : Method} {c : Code} {H : Heap} {locs : List Loc} {cells slots : Nat} {Q : State → Prop}
variable {cc : ByteArray} {nL : Nat} {own : String} {pc : Nat} {ls : Array Slot} {rest : List Value} {G : GG} {M : Mem}
/-- what stands through a walk -/
def BX (p : Program) (s : State) (m : MethodId) (args : Array Value) (c : Code) (cc : ByteArray) (nL : Nat) (own : String) (G : GG) : Prop :=
  p.tables.exec = Jvm.exec ∧ c.code = cc ∧ c.maxLocals = nL ∧ s.vm.findClass own = some m.cls ∧ (∀ w ∈ lw_all, w.before args s = true) ∧ va_K G.1 vwCl (tysl G) s ∧ adInj G ∧ Sta G s s.heap ∧ Nst s
theorem BX.x (h : BX p s m args c cc nL own G) : p.tables.exec = Jvm.exec := h.1
theorem BX.b (h : BX p s m args c cc nL own G) : c.code = cc := h.2.1
theorem BX.ml (h : BX p s m args c cc nL own G) : c.maxLocals = nL := h.2.2.1
theorem BX.ow (h : BX p s m args c cc nL own G) : s.vm.findClass own = some m.cls := h.2.2.2.1
theorem BX.w (h : BX p s m args c cc nL own G) {w : Cond} (hw : w ∈ lw_all) : w.before args s = true := h.2.2.2.2.1 w hw
theorem BX.k (h : BX p s m args c cc nL own G) : va_K G.1 vwCl (tysl G) s := h.2.2.2.2.2.1
theorem BX.inj (h : BX p s m args c cc nL own G) : adInj G := h.2.2.2.2.2.2.1
theorem BX.sta (h : BX p s m args c cc nL own G) : Sta G s s.heap := h.2.2.2.2.2.2.2.1
theorem BX.nst (h : BX p s m args c cc nL own G) : Nst s := h.2.2.2.2.2.2.2.2
theorem BX.fix (h : BX p s m args c cc nL own G) : CallFix p m c cc nL s args lw_all own := ⟨h.1, h.2.1, h.2.2.1, h.2.2.2.1, h.2.2.2.2.1⟩
theorem BX.world (h : BX p s m args c cc nL own G) (hW : Wd G M H) (hS : va_S (adA G) s.heap H locs) {U : State} (hU : U.heap = H) (hw : s.WarmedH U.vm) : World G M U :=
  ⟨by rw [hU]; exact hW, va_K.moved hw.alike h.k, h.inj, Sta.moved hw.alike (Sta.kept h.sta (fun a h1 h2 => by rw [hU]; exact hS.2.1 a h1 h2)), Nst.warm hw h.nst⟩
theorem x_get (hB : BX p s m args c cc nL own G) (hW : Wd G M H) {C : String} {T : u_T} {N ci index : Nat} (hin : ∀ w ∈ u_ws C T N, w ∈ lw_all) (hc : vwCl[ci]? = some (C, T, N)) (hci : ci < 10) (hlen : (fcode ci).length = N) (j : Nat) (hj : j < N) {k : Nat} (hk : isT ci k)
    (hlink : Cond.fieldLink own index C (T j).2.1 (T j).2.2.1 ∈ lw_all) (hcl : (T j).1 = C) {v : Value} (hv : fv G.2.2.1 M k j ((fcode ci).getD j 0) = v) (hdg : decode cc pc = .ok (.getfield index, 3))
    (kk : W p l e R s m args below meth c H locs cells slots Q (F0 m (pc + 3) ls (v :: rest))) : W p l e R s m args below meth c H locs cells slots Q (F0 m pc ls (.ref (G.2.2.1 k) :: rest)) := by
  refine va_get (D := G.1) (cl := vwCl) (ci := ci) (ws := wsl G M) (tys := tysl G) (C := C) (T := T) (N := N) (ref := C) (v := v) hB.x hB.b hB.2.2.2.2.1 hin hB.ow hB.k hW k (fs := fvs G.2.2.1 M k (fcode ci)) ?_ hc j hj (hB.w hlink) (fun x h => by rw [hcl] at h; exact h) ?_ hdg kk
  · rw [wsl_at hk.1, ent_o hk.2 hci]
  · rw [fvs_at (by omega), hv]
theorem x_put (hB : BX p s m args c cc nL own G) (hW : Wd G M H) (hS : va_S (adA G) s.heap H locs) {C : String} {T : u_T} {N ci index : Nat} (hin : ∀ w ∈ u_ws C T N, w ∈ lw_all) (ty0 : Nat → FieldType) (hty : ∀ k, k < N → parseFieldDescriptor (T k).2.2.1 = some (ty0 k)) (hnm : ∀ a, a < N → ∀ b, b < N → a ≠ b → (T a).2.1 ≠ (T b).2.1) (hc : vwCl[ci]? = some (C, T, N)) (hci : ci < 10) (hlen : (fcode ci).length = N) (j : Nat) (hj : j < N) {k : Nat} (hk : isT ci k)
    (hlink : Cond.fieldLink own index C (T j).2.1 (T j).2.2.1 ∈ lw_all) (hcl : (T j).1 = C) (hfin : (T j).2.2.2 = false) {ty : FieldType} {v : Value} (hd : parseFieldDescriptor (T j).2.2.1 = some ty) (hn : narrow ty v = v) (hfit : fits ty v = true) {M1 : Mem} (hv : fv G.2.2.1 M1 k j ((fcode ci).getD j 0) = v) (hoth : ∀ i, i ≠ j → gi M1 k i = gi M k i ∧ gf M1 k i = gf M k i) (hent : ∀ a, a ≠ k → ent G M1 a = ent G M a) (hdg : decode cc pc = .ok (.putfield index, 3))
    (kk : ∀ (H1 : Heap) (locs1 : List Loc), Wd G M1 H1 → va_S (adA G) s.heap H1 locs1 → W p l e R s m args below meth c H1 locs1 cells slots Q (F0 m (pc + 3) ls rest)) : W p l e R s m args below meth c H locs cells slots Q (F0 m pc ls (v :: .ref (G.2.2.1 k) :: rest)) := by
  refine va_put (D := G.1) (cl := vwCl) (ci := ci) (ws := wsl G M) (tys := tysl G) (C := C) (T := T) (N := N) (ref := C) (v := v) hB.x hB.b hB.2.2.2.2.1 hin ty0 hty hnm hB.ow hB.k hW (wsl_D M hB.inj) hS k (fs := fvs G.2.2.1 M k (fcode ci)) ?_ hc j hj (hB.w hlink) (fun x h => by rw [hcl] at h; exact h) hfin hd hn hfit (by rw [fvs_len]; omega) hdg (fun H1 locs1 hP1 _ hS1 => ?_)
  · rw [wsl_at hk.1, ent_o hk.2 hci]
  · refine kk H1 locs1 ?_ hS1
    rw [fvs_set (by omega) hv hoth, wsl_set hk.1 (ent_o hk.2 hci) hent] at hP1
    exact hP1
theorem x_iald (hB : BX p s m args c cc nL own G) (hW : Wd G M H) {k n : Nat} (hk : isT 10 k) (hn : alen k = n) {i : Int32} (hin : vp_in i n) (hdg : decode cc pc = .ok (.iaload, 1))
    (kk : W p l e R s m args below meth c H locs cells slots Q (F0 m (pc + 1) ls (.int (gi M k i.toNatClampNeg) :: rest))) : W p l e R s m args below meth c H locs cells slots Q (F0 m pc ls (.int i :: .ref (G.2.2.1 k) :: rest)) :=
  va_iald (D := G.1) (cl := vwCl) (tys := tysl G) hB.x hB.b hB.k hW k 0 (by rw [wsl_at hk.1, ent_I hk.2, hn]) rfl hin hdg kk
theorem x_lald (hB : BX p s m args c cc nL own G) (hW : Wd G M H) {k n : Nat} (hk : isT 11 k) (hn : alen k = n) {i : Int32} (hin : vp_in i n) (hdg : decode cc pc = .ok (.laload, 1))
    (kk : W p l e R s m args below meth c H locs cells slots Q (F0 m (pc + 1) ls (.long (gl M k i.toNatClampNeg) :: rest))) : W p l e R s m args below meth c H locs cells slots Q (F0 m pc ls (.int i :: .ref (G.2.2.1 k) :: rest)) :=
  va_lald (D := G.1) (cl := vwCl) (tys := tysl G) hB.x hB.b hB.k hW k 1 (by rw [wsl_at hk.1, ent_L hk.2, hn]) rfl hin hdg kk
theorem x_fald (hB : BX p s m args c cc nL own G) (hW : Wd G M H) {k n : Nat} (hk : isT 12 k) (hn : alen k = n) {i : Int32} (hin : vp_in i n) (hdg : decode cc pc = .ok (.faload, 1))
    (kk : W p l e R s m args below meth c H locs cells slots Q (F0 m (pc + 1) ls (.float (gf M k i.toNatClampNeg) :: rest))) : W p l e R s m args below meth c H locs cells slots Q (F0 m pc ls (.int i :: .ref (G.2.2.1 k) :: rest)) :=
  va_fald (D := G.1) (cl := vwCl) (tys := tysl G) hB.x hB.b hB.k hW k 2 (by rw [wsl_at hk.1, ent_F hk.2, hn]) rfl hin hdg kk
theorem x_aald (hB : BX p s m args c cc nL own G) (hW : Wd G M H) {k n : Nat} (hk : isT 13 k) (hn : alen k = n) {i : Int32} (hin : vp_in i n) (hdg : decode cc pc = .ok (.aaload, 1))
    (kk : W p l e R s m args below meth c H locs cells slots Q (F0 m (pc + 1) ls (.ref (G.2.2.1 (k + 1 + 11 * i.toNatClampNeg)) :: rest))) : W p l e R s m args below meth c H locs cells slots Q (F0 m pc ls (.int i :: .ref (G.2.2.1 k) :: rest)) :=
  va_aldq (D := G.1) (cl := vwCl) (tys := tysl G) (f := fun j => some (G.2.2.1 (k + 1 + 11 * j))) hB.x hB.b hB.k hW k 3 (by rw [wsl_at hk.1, ent_P hk.2, hn]) rfl hin hdg kk
theorem x_alen (hB : BX p s m args c cc nL own G) (hW : Wd G M H) {t k n : Nat} (hk : isT t k) (ht : 10 ≤ t ∧ t < 14) (hn : alen k = n) {v : Int32} (hv : Int32.ofNat n = v) (hdg : decode cc pc = .ok (.arraylength, 1))
    (kk : W p l e R s m args below meth c H locs cells slots Q (F0 m (pc + 1) ls (.int v :: rest))) : W p l e R s m args below meth c H locs cells slots Q (F0 m pc ls (.ref (G.2.2.1 k) :: rest)) := by
  subst hn
  rcases (show t = 10 ∨ t = 11 ∨ t = 12 ∨ t = 13 by omega) with rfl | rfl | rfl | rfl
  · exact va_alen (D := G.1) (cl := vwCl) (tys := tysl G) hB.x hB.b hB.k hW k 0 (by rw [wsl_at hk.1, ent_I hk.2]) rfl hv hdg kk
  · exact va_alen (D := G.1) (cl := vwCl) (tys := tysl G) hB.x hB.b hB.k hW k 1 (by rw [wsl_at hk.1, ent_L hk.2]) rfl hv hdg kk
  · exact va_alen (D := G.1) (cl := vwCl) (tys := tysl G) hB.x hB.b hB.k hW k 2 (by rw [wsl_at hk.1, ent_F hk.2]) rfl hv hdg kk
  · exact va_alen (D := G.1) (cl := vwCl) (tys := tysl G) hB.x hB.b hB.k hW k 3 (by rw [wsl_at hk.1, ent_P hk.2]) rfl hv hdg kk
theorem x_iast (hB : BX p s m args c cc nL own G) (hW : Wd G M H) (hS : va_S (adA G) s.heap H locs) {k n : Nat} (hk : isT 10 k) (hn : alen k = n) {i x : Int32} (hin : vp_in i n) (hdg : decode cc pc = .ok (.iastore, 1))
    (kk : ∀ (H1 : Heap) (locs1 : List Loc), Wd G (si M k i.toNatClampNeg x) H1 → va_S (adA G) s.heap H1 locs1 → W p l e R s m args below meth c H1 locs1 cells slots Q (F0 m (pc + 1) ls rest)) : W p l e R s m args below meth c H locs cells slots Q (F0 m pc ls (.int x :: .int i :: .ref (G.2.2.1 k) :: rest)) := by
  refine va_iast (D := G.1) (cl := vwCl) (tys := tysl G) hB.x hB.b hB.k hW (wsl_D M hB.inj) hS k 0 (by rw [wsl_at hk.1, ent_I hk.2, hn]) rfl hin hdg (fun H1 locs1 hP1 _ hS1 => kk H1 locs1 ?_ hS1)
  rw [wsl_set (M' := si M k i.toNatClampNeg x) hk.1 (by rw [ent_I hk.2, row_si, hn]) (fun a h => ent_si h)] at hP1
  exact hP1
theorem x_last (hB : BX p s m args c cc nL own G) (hW : Wd G M H) (hS : va_S (adA G) s.heap H locs) {k n : Nat} (hk : isT 11 k) (hn : alen k = n) {i : Int32} {x : Int64} (hin : vp_in i n) (hdg : decode cc pc = .ok (.lastore, 1))
    (kk : ∀ (H1 : Heap) (locs1 : List Loc), Wd G (sl M k i.toNatClampNeg x) H1 → va_S (adA G) s.heap H1 locs1 → W p l e R s m args below meth c H1 locs1 cells slots Q (F0 m (pc + 1) ls rest)) : W p l e R s m args below meth c H locs cells slots Q (F0 m pc ls (.long x :: .int i :: .ref (G.2.2.1 k) :: rest)) := by
  refine va_last (D := G.1) (cl := vwCl) (tys := tysl G) hB.x hB.b hB.k hW (wsl_D M hB.inj) hS k 1 (by rw [wsl_at hk.1, ent_L hk.2, hn]) rfl hin hdg (fun H1 locs1 hP1 _ hS1 => kk H1 locs1 ?_ hS1)
  rw [wsl_set (M' := sl M k i.toNatClampNeg x) hk.1 (by rw [ent_L hk.2, row_sl, hn]) (fun a h => ent_sl h)] at hP1
  exact hP1
theorem x_fast (hB : BX p s m args c cc nL own G) (hW : Wd G M H) (hS : va_S (adA G) s.heap H locs) {k n : Nat} (hk : isT 12 k) (hn : alen k = n) {i : Int32} {x : UInt32} (hin : vp_in i n) (hdg : decode cc pc = .ok (.fastore, 1))
    (kk : ∀ (H1 : Heap) (locs1 : List Loc), Wd G (sf M k i.toNatClampNeg x) H1 → va_S (adA G) s.heap H1 locs1 → W p l e R s m args below meth c H1 locs1 cells slots Q (F0 m (pc + 1) ls rest)) : W p l e R s m args below meth c H locs cells slots Q (F0 m pc ls (.float x :: .int i :: .ref (G.2.2.1 k) :: rest)) := by
  refine va_fast (D := G.1) (cl := vwCl) (tys := tysl G) hB.x hB.b hB.k hW (wsl_D M hB.inj) hS k 2 (by rw [wsl_at hk.1, ent_F hk.2, hn]) rfl hin hdg (fun H1 locs1 hP1 _ hS1 => kk H1 locs1 ?_ hS1)
  rw [wsl_set (M' := sf M k i.toNatClampNeg x) hk.1 (by rw [ent_F hk.2, row_sf, hn]) (fun a h => ent_sf h)] at hP1
  exact hP1
end WK
