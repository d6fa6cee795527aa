/-! what the two systems hold, in words of lists -/
abbrev Word : Type := List Nat × Nat
abbrev Pat : Type := List Nat × Nat × Nat
/-- a paragraph: words (letters, forced), patterns (letters, place, value), widths, its ten numbers (line, wide, stretch, shrink, tolerance, hyphen, widow, manner, kind, figure) -/
abbrev PV : Type := List Word × List Pat × (Nat → Int) × (Nat → Int)
def pkN : List Nat → Nat
  | [] => 0
  | a :: l => (a + 1) + 16 * pkN l
def pk (l : List Nat) : Int64 := Int64.ofNat (pkN l)
def okL (n : Nat) (l : List Nat) : Prop := 1 ≤ l.length ∧ l.length ≤ n ∧ ∀ a ∈ l, a < 8
def okW (q : Word) : Prop := okL 12 q.1 ∧ q.2 ≤ 1
def okP (q : Pat) : Prop := okL 3 q.1 ∧ q.2.1 ≤ q.1.length ∧ 1 ≤ q.2.2 ∧ q.2.2 ≤ 9
def okS (f : Nat → Int) : Prop := (10 ≤ f 0 ∧ f 0 ≤ 80) ∧ (2 ≤ f 1 ∧ f 1 ≤ 9) ∧ (0 ≤ f 2 ∧ f 2 ≤ 9) ∧ (0 ≤ f 3 ∧ f 3 ≤ f 1) ∧ (0 ≤ f 4 ∧ f 4 ≤ 40) ∧ (0 ≤ f 5 ∧ f 5 ≤ 99) ∧ (0 ≤ f 6 ∧ f 6 ≤ 9) ∧ (0 ≤ f 7 ∧ f 7 ≤ 2) ∧ (0 ≤ f 8 ∧ f 8 ≤ 5) ∧ (0 ≤ f 9 ∧ f 9 ≤ 9)
def okV (v : PV) : Prop := v.1.length ≤ 16 ∧ (∀ q ∈ v.1, okW q) ∧ v.2.1.length ≤ 8 ∧ (∀ q ∈ v.2.1, okP q) ∧ (∀ i, i < 8 → 2 ≤ v.2.2.1 i ∧ v.2.2.1 i ≤ 9) ∧ okS v.2.2.2
/-- the class's words at k -/
def cWs (M : Mem) (k : Nat) (ws : List Word) : Prop := gi M k 3 = iz ws.length ∧ ∀ w q, ws[w]? = some q → gl M (k + 1) w = pk q.1 ∧ gi M (k + 2) w = iz q.1.length ∧ gi M (k + 3) w = iz q.2
def cPs (M : Mem) (k : Nat) (ps : List Pat) : Prop := gi M k 4 = iz ps.length ∧ ∀ w q, ps[w]? = some q → gl M (k + 1) w = pk q.1 ∧ gi M (k + 2) w = iz q.1.length ∧ gi M (k + 3) w = iz q.2.1 ∧ gi M (k + 4) w = iz q.2.2
/-- the class's paragraph at p -/
def cPar (M : Mem) (p : Nat) (v : PV) : Prop := cWs M (p + 2) v.1 ∧ cPs M (p + 6) v.2.1 ∧ (∀ i, i < 8 → gi M (p + 1) i = iz (v.2.2.1 i)) ∧ ∀ i, i < 10 → gi M p (3 + i) = iz (v.2.2.2 i)
/-- the reference's paragraph, by what is read of its 292 numbers -/
def mPar (rd : Nat → Int32) (v : PV) : Prop := rd 280 = iz v.1.length ∧ (∀ w q, v.1[w]? = some q → rd (8 + w) = iz q.1.length ∧ (∀ (k a : Nat), q.1[k]? = some a → rd (24 + (12 * w + k)) = iz a) ∧ rd (216 + w) = iz q.2) ∧
  rd 281 = iz v.2.1.length ∧ (∀ w q, v.2.1[w]? = some q → rd (232 + w) = iz q.1.length ∧ (∀ (k a : Nat), q.1[k]? = some a → rd (240 + (3 * w + k)) = iz a) ∧ rd (264 + w) = iz q.2.1 ∧ rd (272 + w) = iz q.2.2) ∧
  (∀ i, i < 8 → rd i = iz (v.2.2.1 i)) ∧ ∀ i, i < 10 → rd (282 + i) = iz (v.2.2.2 i)
def rdNow (M : Mem) : Nat → Int32 := fun o => if o < 8 then gi M 141 o else if o < 24 then gi M 142 (o - 8) else if o < 216 then gi M 143 (o - 24) else if o < 232 then gi M 144 (o - 216) else if o < 240 then gi M 145 (o - 232) else if o < 264 then gi M 146 (o - 240) else if o < 272 then gi M 147 (o - 264) else if o < 280 then gi M 148 (o - 272) else gi M 139 (o - 280 + 9)
def rdSeg (M : Mem) (s : Nat) : Nat → Int32 := fun o => gi M 163 (295 * s + o)
/-- rows that are the same -/
def sameOn (P : Nat → Prop) (M M' : Mem) : Prop := ∀ k, P k → gi M' k = gi M k ∧ gl M' k = gl M k ∧ gf M' k = gf M k
theorem sameOn.rf {P : Nat → Prop} {M : Mem} : sameOn P M M := fun _ _ => ⟨rfl, rfl, rfl⟩
theorem sameOn.tr {P : Nat → Prop} {M M' M'' : Mem} (h : sameOn P M M') (h' : sameOn P M' M'') : sameOn P M M'' := fun k hk => ⟨(h' k hk).1.trans (h k hk).1, (h' k hk).2.1.trans (h k hk).2.1, (h' k hk).2.2.trans (h k hk).2.2⟩
theorem sameOn.mono {P P' : Nat → Prop} {M M' : Mem} (h : sameOn P M M') (hp : ∀ k, P' k → P k) : sameOn P' M M' := fun k hk => h k (hp k hk)
theorem sameOn.si {P : Nat → Prop} {M : Mem} {k j : Nat} {v : Int32} (h : ¬ P k) : sameOn P M (si M k j v) := fun a ha => ⟨ne_row (fun e => h (e ▸ ha)), rfl, rfl⟩
theorem sameOn.sl {P : Nat → Prop} {M : Mem} {k j : Nat} {v : Int64} (h : ¬ P k) : sameOn P M (sl M k j v) := fun a ha => ⟨rfl, ne_row (fun e => h (e ▸ ha)), rfl⟩
theorem sameOn.sf {P : Nat → Prop} {M : Mem} {k j : Nat} {v : UInt32} (h : ¬ P k) : sameOn P M (sf M k j v) := fun a ha => ⟨rfl, rfl, ne_row (fun e => h (e ▸ ha))⟩
theorem cWs.same {M M' : Mem} {k : Nat} {ws : List Word} (h : cWs M k ws) (hs : sameOn (fun a => k ≤ a ∧ a < k + 4) M M') : cWs M' k ws := by
  obtain ⟨h1, h2⟩ := h
  refine ⟨by rw [(hs k ⟨by omega, by omega⟩).1]; exact h1, fun w q hq => ?_⟩
  rw [(hs (k + 1) ⟨by omega, by omega⟩).2.1, (hs (k + 2) ⟨by omega, by omega⟩).1, (hs (k + 3) ⟨by omega, by omega⟩).1]
  exact h2 w q hq
theorem cPs.same {M M' : Mem} {k : Nat} {ws : List Pat} (h : cPs M k ws) (hs : sameOn (fun a => k ≤ a ∧ a < k + 5) M M') : cPs M' k ws := by
  obtain ⟨h1, h2⟩ := h
  refine ⟨by rw [(hs k ⟨by omega, by omega⟩).1]; exact h1, fun w q hq => ?_⟩
  rw [(hs (k + 1) ⟨by omega, by omega⟩).2.1, (hs (k + 2) ⟨by omega, by omega⟩).1, (hs (k + 3) ⟨by omega, by omega⟩).1, (hs (k + 4) ⟨by omega, by omega⟩).1]
  exact h2 w q hq
theorem cPar.same {M M' : Mem} {p : Nat} {v : PV} (h : cPar M p v) (hs : sameOn (fun a => p ≤ a ∧ a < p + 11) M M') : cPar M' p v := by
  obtain ⟨h1, h2, h3, h4⟩ := h
  refine ⟨h1.same (hs.mono (fun a ha => ⟨by omega, by omega⟩)), h2.same (hs.mono (fun a ha => ⟨by omega, by omega⟩)), fun i hi => ?_, fun i hi => ?_⟩
  · rw [(hs (p + 1) ⟨by omega, by omega⟩).1]; exact h3 i hi
  · rw [(hs p ⟨by omega, by omega⟩).1]; exact h4 i hi
theorem mPar.congr {rd rd' : Nat → Int32} {v : PV} (hv : okV v) (h : mPar rd v) (hs : ∀ o, o < 292 → rd' o = rd o) : mPar rd' v := by
  obtain ⟨h1, h2, h3, h4, h5, h6⟩ := h
  obtain ⟨v1, v2, v3, v4, v5, v6⟩ := hv
  refine ⟨by rw [hs _ (by omega)]; exact h1, fun w q hq => ?_, by rw [hs _ (by omega)]; exact h3, fun w q hq => ?_, fun i hi => by rw [hs _ (by omega)]; exact h5 i hi, fun i hi => by rw [hs _ (by omega)]; exact h6 i hi⟩
  · have hw : w < 16 := Nat.lt_of_lt_of_le (List.getElem?_eq_some_iff.mp hq).1 v1
    obtain ⟨a1, a2, a3⟩ := h2 w q hq
    refine ⟨by rw [hs _ (by omega)]; exact a1, fun k a hk => ?_, by rw [hs _ (by omega)]; exact a3⟩
    have hk2 : k < 12 := Nat.lt_of_lt_of_le (List.getElem?_eq_some_iff.mp hk).1 (v2 q (List.mem_of_getElem? hq)).1.2.1
    rw [hs _ (by omega)]; exact a2 k a hk
  · have hw : w < 8 := Nat.lt_of_lt_of_le (List.getElem?_eq_some_iff.mp hq).1 v3
    obtain ⟨a1, a2, a3, a4⟩ := h4 w q hq
    refine ⟨by rw [hs _ (by omega)]; exact a1, fun k a hk => ?_, by rw [hs _ (by omega)]; exact a3, by rw [hs _ (by omega)]; exact a4⟩
    have hk2 : k < 3 := Nat.lt_of_lt_of_le (List.getElem?_eq_some_iff.mp hk).1 (v4 q (List.mem_of_getElem? hq)).1.2.1
    rw [hs _ (by omega)]; exact a2 k a hk
/-! packed letters -/
theorem pkN_lt (l : List Nat) (h : ∀ a ∈ l, a < 15) : pkN l < 16 ^ l.length := by
  induction l with
  | nil => simp [pkN]
  | cons a l ih =>
    have h1 := ih (fun b hb => h b (List.mem_cons_of_mem _ hb))
    have h2 := h a List.mem_cons_self
    simp only [pkN, List.length_cons, Nat.pow_succ]
    omega
theorem pkN_inj : ∀ (l l' : List Nat), (∀ a ∈ l, a < 15) → (∀ a ∈ l', a < 15) → pkN l = pkN l' → l = l'
  | [], [], _, _, _ => rfl
  | [], a :: l, _, _, h => by simp only [pkN] at h; omega
  | a :: l, [], _, _, h => by simp only [pkN] at h; omega
  | a :: l, b :: l', h1, h2, h => by
    have ha := h1 a List.mem_cons_self
    have hb := h2 b List.mem_cons_self
    simp only [pkN] at h
    have e1 : a = b := by omega
    have e2 : pkN l = pkN l' := by omega
    rw [e1, pkN_inj l l' (fun c hc => h1 c (List.mem_cons_of_mem _ hc)) (fun c hc => h2 c (List.mem_cons_of_mem _ hc)) e2]
theorem pkN_app (l : List Nat) (a : Nat) : pkN (l ++ [a]) = pkN l + (a + 1) * 16 ^ l.length := by
  induction l with
  | nil => simp [pkN]
  | cons b l ih =>
    simp only [List.cons_append, pkN, ih, List.length_cons, Nat.pow_succ]
    have : 16 * ((a + 1) * 16 ^ l.length) = (a + 1) * (16 ^ l.length * 16) := by
      rw [Nat.mul_comm 16, Nat.mul_assoc]
    omega
theorem pkN_drop : ∀ (n : Nat) (l : List Nat), (∀ a ∈ l, a < 15) → pkN (l.drop n) = pkN l / 16 ^ n
  | 0, l, _ => by simp
  | n + 1, [], _ => by simp [pkN]
  | n + 1, a :: l, h => by
    have ha := h a List.mem_cons_self
    rw [List.drop_succ_cons, pkN_drop n l (fun c hc => h c (List.mem_cons_of_mem _ hc)), Nat.pow_succ, Nat.mul_comm, ← Nat.div_div_eq_div_mul]
    congr 1
    simp only [pkN]
    omega
theorem pkN_take : ∀ (n : Nat) (l : List Nat), (∀ a ∈ l, a < 15) → pkN (l.take n) = pkN l % 16 ^ n
  | 0, l, _ => by simp [pkN, Nat.mod_one]
  | n + 1, [], _ => by simp [pkN]
  | n + 1, a :: l, h => by
    have ha := h a List.mem_cons_self
    rw [List.take_succ_cons]
    simp only [pkN]
    rw [pkN_take n l (fun c hc => h c (List.mem_cons_of_mem _ hc)), Nat.pow_succ, Nat.mul_comm (16 ^ n) 16, Nat.mod_mul]
    have e1 : (a + 1 + 16 * pkN l) % 16 = a + 1 := by omega
    have e2 : (a + 1 + 16 * pkN l) / 16 = pkN l := by omega
    rw [e1, e2]
