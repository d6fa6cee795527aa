/-! the memory behind both constructors -/
def wf0 (i : Nat) : Int := ([3, 4, 3, 4, 3, 2, 4, 4] : List Int).getD i 0
def sf0 (i : Nat) : Int := ([30, 3, 2, 1, 12, 50, 1, 0, 0, 0] : List Int).getD i 0
def v00 : PV := ([], [], wf0, sf0)
theorem ini_w : ∀ i : Fin 8, gi Mini 2 i.val = iz (wf0 i.val) := by decide +kernel
theorem ini_s : ∀ i : Fin 10, gi Mini 1 (3 + i.val) = iz (sf0 i.val) := by decide +kernel
theorem ini_mw : ∀ i : Fin 8, rdNow Mini i.val = iz (wf0 i.val) := by decide +kernel
theorem ini_ms : ∀ i : Fin 10, rdNow Mini (282 + i.val) = iz (sf0 i.val) := by decide +kernel
theorem ini_z : gi Mini 3 3 = 0 ∧ gi Mini 7 4 = 0 ∧ gi Mini 0 9 = 0 ∧ gi Mini 34 1 = 0 ∧ gi Mini 34 2 = 0 ∧ gi Mini 124 1 = 0 ∧ gi Mini 0 8 = 0 ∧ rdNow Mini 280 = 0 ∧ rdNow Mini 281 = 0 ∧ gi Mini 139 42 = 0 ∧ gi Mini 139 45 = 0 ∧ gi Mini 139 46 = 0 ∧ gi Mini 139 36 = 0 ∧ gi Mini 139 52 = 0 := by decide +kernel
theorem ini_r : ∀ i : Fin 7, gi Mini 138 i.val = 0 ∧ gi Mini 140 i.val = 0 := by decide +kernel
theorem v00_wb : ∀ i : Fin 8, 2 ≤ wf0 i.val ∧ wf0 i.val ≤ 9 := by decide
theorem v00_ok : okN v00 := by
  refine ⟨⟨by show (0 : Nat) ≤ 16; omega, fun q hq => (by cases hq), by show (0 : Nat) ≤ 8; omega, fun q hq => (by cases hq), fun i hi => v00_wb ⟨i, hi⟩, ?_⟩, ?_⟩
  · show okS sf0
    unfold okS
    decide
  · show sf0 0 ≤ 60
    decide
theorem inv_Mini : Inv Mini := by
  obtain ⟨z1, z2, z3, z4, z5, z6, z7, z8, z9, z10, z11, z12, z13, z14⟩ := ini_z
  refine ⟨v00, none, 0, 0, fun _ => v00, [], [], fun _ => 0, ?_, ?_, ?_⟩
  · exact ⟨v00_ok, (fun v hv => by cases hv), by omega, by omega, (fun a ha => by omega), by show (0 : Nat) ≤ 96; omega, (fun a ha => by cases ha), by show (0 : Nat) ≤ 16; omega, (fun a ha => by cases ha)⟩
  · refine ⟨⟨⟨z1, fun w q hq => ?_⟩, ⟨z2, fun w q hq => ?_⟩, fun i hi => ini_w ⟨i, hi⟩, fun i hi => ini_s ⟨i, hi⟩⟩, (fun v hv => by cases hv), z3, ⟨z4, z5, fun a ha => by omega⟩, ⟨z6, fun i a ha => ?_⟩, ⟨z7, fun i a ha => ?_⟩, fun i hi => (ini_r ⟨i, hi⟩).1⟩
    · have hq : ([] : List Word)[w]? = some q := hq
      simp at hq
    · have hq : ([] : List Pat)[w]? = some q := hq
      simp at hq
    · simp at ha
    · simp at ha
  · refine ⟨⟨z8, fun w q hq => ?_, z9, fun w q hq => ?_, fun i hi => ini_mw ⟨i, hi⟩, fun i hi => ini_ms ⟨i, hi⟩⟩, (fun v hv => by cases hv), z10, ⟨z11, z12, fun a ha => by omega⟩, ⟨z13, fun i a ha => ?_⟩, ⟨z14, fun i a ha => ?_⟩, fun i hi => (ini_r ⟨i, hi⟩).2⟩
    · have hq : ([] : List Word)[w]? = some q := hq
      simp at hq
    · have hq : ([] : List Pat)[w]? = some q := hq
      simp at hq
    · simp at ha
    · simp at ha
theorem whole_main (xs : Nat → Int32) (L : Nat) (hL : L ≤ 2560) : ∃ Mr : Mem, lq2 (f_law_L xs L) FU (0 : Int32) Mini = some ((1 : Int32), Mr) := hmain_of inv_Mini xs L hL
