/-! fragments: what they are; the class's -/
abbrev Fr : Type := Int × Nat × Nat
def pieces (wd : Nat → Int) (b : Nat → Bool) (n e : Nat) : List Nat → Nat → Int → List Fr
  | [], _, acc => [(acc, n, e)]
  | a :: l, p, acc => if b p = true then (acc, n, 1) :: pieces wd b n e l (p + 1) (wd a) else pieces wd b n e l (p + 1) (acc + wd a)
def endW (q : Word) (l : List Word) : Nat := if q.2 = 1 then 2 else if l.length = 0 then 3 else 0
def frs (v : PV) : Nat → List Word → List Fr
  | _, [] => []
  | n, q :: l => pieces v.2.2.1 (brk v q.1) n (endW q l) q.1 0 0 ++ frs v (n + 1) l
theorem endW_le (q : Word) (l : List Word) : endW q l ≤ 3 ∧ endW q l ≠ 1 := by
  unfold endW
  split
  · omega
  · split <;> omega
theorem pieces_len {wd : Nat → Int} {b : Nat → Bool} {n e : Nat} (hb : ∀ p, b p = true → 2 ≤ p ∧ p ≤ 10) : ∀ (l : List Nat) (p : Nat) (acc : Int), (pieces wd b n e l p acc).length ≤ 1 + (min (p + l.length) 11 - max p 2)
  | [], p, acc => by show 1 ≤ _; omega
  | a :: l, p, acc => by
    unfold pieces
    have h1 := pieces_len (wd := wd) hb l (p + 1) (wd a) (n := n) (e := e)
    have h2 := pieces_len (wd := wd) hb l (p + 1) (acc + wd a) (n := n) (e := e)
    rw [List.length_cons]
    by_cases q : b p = true
    · have := hb p q
      rw [if_pos q, List.length_cons]; omega
    · rw [if_neg q]; omega
theorem pieces_pos {wd : Nat → Int} {b : Nat → Bool} {n e : Nat} : ∀ (l : List Nat) (p : Nat) (acc : Int), 1 ≤ (pieces wd b n e l p acc).length
  | [], _, _ => Nat.le_refl 1
  | a :: l, p, acc => by
    unfold pieces
    split
    · rw [List.length_cons]; omega
    · exact pieces_pos l _ _
theorem brk_in {v : PV} {l : List Nat} (hl : l.length ≤ 12) {p : Nat} (h : brk v l p = true) : 2 ≤ p ∧ p ≤ 10 := by
  have := (brk_iff.mp h).2.2
  omega
theorem pieces_len10 {v : PV} {l : List Nat} (hl : l.length ≤ 12) {n e : Nat} : (pieces v.2.2.1 (brk v l) n e l 0 0).length ≤ 10 := by
  have := pieces_len (wd := v.2.2.1) (n := n) (e := e) (fun p hp => brk_in (v := v) hl hp) l 0 0
  omega
theorem pieces_ok {wd : Nat → Int} {b : Nat → Bool} {n e : Nat} (hw : ∀ a, a < 8 → 0 ≤ wd a ∧ wd a ≤ 9) : ∀ (l : List Nat) (p : Nat) (acc : Int), (∀ a ∈ l, a < 8) → 0 ≤ acc → ∀ f ∈ pieces wd b n e l p acc, 0 ≤ f.1 ∧ f.1 ≤ acc + 9 * l.length ∧ f.2.1 = n ∧ (f.2.2 = 1 ∨ f.2.2 = e)
  | [], p, acc, _, h, f, hf => by
    rw [List.mem_singleton.mp hf]
    exact ⟨h, by show acc ≤ acc + 9 * ((0 : Nat) : Int); omega, rfl, Or.inr rfl⟩
  | a :: l, p, acc, hl, h, f, hf => by
    have ha := hw a (hl a List.mem_cons_self)
    have hl' := fun c hc => hl c (List.mem_cons_of_mem a hc)
    rw [List.length_cons]
    unfold pieces at hf
    by_cases q : b p = true
    · rw [if_pos q] at hf
      rcases List.mem_cons.mp hf with r | r
      · rw [r]; exact ⟨h, by show acc ≤ _; omega, rfl, Or.inl rfl⟩
      · have := pieces_ok hw l (p + 1) (wd a) hl' ha.1 f r
        exact ⟨this.1, by have := this.2.1; omega, this.2.2⟩
    · rw [if_neg q] at hf
      have := pieces_ok hw l (p + 1) (acc + wd a) hl' (by omega) f hf
      exact ⟨this.1, by have := this.2.1; omega, this.2.2⟩
def okF (f : Fr) : Prop := 0 ≤ f.1 ∧ f.1 ≤ 108 ∧ f.2.1 < 16 ∧ f.2.2 ≤ 3
theorem frs_ok {v : PV} (hw : ∀ i, i < 8 → 2 ≤ v.2.2.1 i ∧ v.2.2.1 i ≤ 9) : ∀ (l : List Word) (n : Nat), (∀ q ∈ l, okW q) → n + l.length ≤ 16 → (∀ f ∈ frs v n l, okF f) ∧ (frs v n l).length ≤ 10 * l.length
  | [], n, _, _ => ⟨fun f hf => absurd hf (by unfold frs; simp), Nat.le_refl _⟩
  | q :: l, n, hl, hn => by
    rw [List.length_cons] at hn
    have hq := hl q List.mem_cons_self
    have ih := frs_ok hw l (n + 1) (fun c hc => hl c (List.mem_cons_of_mem q hc)) (by omega)
    have h10 := pieces_len10 (v := v) (l := q.1) hq.1.2.1 (n := n) (e := endW q l)
    refine ⟨fun f hf => ?_, ?_⟩
    · unfold frs at hf
      rcases List.mem_append.mp hf with r | r
      · have := pieces_ok (n := n) (e := endW q l) (b := brk v q.1) (fun a ha => ⟨by have := (hw a ha).1; omega, (hw a ha).2⟩) q.1 0 0 hq.1.2.2 (Int.le_refl 0) f r
        have hlen := hq.1.2.1
        have he := (endW_le q l).1
        refine ⟨this.1, by have := this.2.1; omega, by have := this.2.2.1; omega, by rcases this.2.2.2 with t | t <;> omega⟩
      · exact ih.1 f r
    · unfold frs
      rw [List.length_append, List.length_cons]
      have := ih.2
      omega
/-- the class's fragments -/
def cFr (M : Mem) (F : List Fr) : Prop := gi M 128 3 = iz (F.length : Int) ∧ ∀ i f, F[i]? = some f → gi M 129 i = iz f.1 ∧ gi M 130 i = iz (f.2.1 : Int) ∧ gi M 131 i = iz (f.2.2 : Int)
theorem cFr.same {M M' : Mem} {F : List Fr} (h : cFr M F) (hs : sameOn (fun k => 128 ≤ k ∧ k < 132) M M') : cFr M' F := by
  obtain ⟨h1, h2⟩ := h
  refine ⟨by rw [(hs 128 (by omega)).1]; exact h1, fun i f hf => ?_⟩
  rw [(hs 129 (by omega)).1, (hs 130 (by omega)).1, (hs 131 (by omega)).1]; exact h2 i f hf
theorem c_fadd {M : Mem} {F : List Fr} (h : cFr M F) (hl : F.length < 192) (a : Int) (n e : Nat) : ∃ M', f_X0_add (iz a) (iz (n : Int)) (iz (e : Int)) M = some M' ∧ cFr M' (F ++ [(a, n, e)]) ∧ sameOn (fun k => k < 128 ∨ 132 ≤ k) M M' := by
  obtain ⟨M1, hM1⟩ : ∃ M1, M1 = si (si (si M 129 F.length (iz a)) 130 F.length (iz (n : Int))) 131 F.length (iz (e : Int)) := ⟨_, rfl⟩
  have hs : sameOn (fun k => k ≠ 129 ∧ k ≠ 130 ∧ k ≠ 131) M M1 := by rw [hM1]; exact ((sameOn.si (by omega)).tr (sameOn.si (by omega))).tr (sameOn.si (by omega))
  have g1 : ∀ w, gi M1 129 w = if w = F.length then iz a else gi M 129 w := fun w => by
    rw [hM1, gi_si, if_neg (by omega), gi_si, if_neg (by omega), gi_si]
    by_cases q : w = F.length
    · rw [if_pos ⟨rfl, q⟩, if_pos q]
    · rw [if_neg (by omega), if_neg q]
  have g2 : ∀ w, gi M1 130 w = if w = F.length then iz (n : Int) else gi M 130 w := fun w => by
    rw [hM1, gi_si, if_neg (by omega), gi_si]
    by_cases q : w = F.length
    · rw [if_pos ⟨rfl, q⟩, if_pos q]
    · rw [if_neg (by omega), if_neg q, gi_si, if_neg (by omega)]
  have g3 : ∀ w, gi M1 131 w = if w = F.length then iz (e : Int) else gi M 131 w := fun w => by
    rw [hM1, gi_si]
    by_cases q : w = F.length
    · rw [if_pos ⟨rfl, q⟩, if_pos q]
    · rw [if_neg (by omega), if_neg q, gi_si, if_neg (by omega), gi_si, if_neg (by omega)]
  have a1 : alen 129 = 192 := rfl
  have a2 : alen 130 = 192 := rfl
  have a3 : alen 131 = 192 := rfl
  have h0 := h.1
  have k1 : gi (si M 129 F.length (iz a)) 128 3 = iz (F.length : Int) := by rw [gi_si, if_neg (by omega)]; exact h0
  have k2 : gi (si (si M 129 F.length (iz a)) 130 F.length (iz (n : Int))) 128 3 = iz (F.length : Int) := by rw [gi_si, if_neg (by omega)]; exact k1
  have k3 : gi M1 128 3 = iz (F.length : Int) := by rw [(hs 128 (by omega)).1]; exact h0
  refine ⟨si M1 128 3 (iz ((F.length + 1 : Nat) : Int)), ?_, ⟨by rw [gi_si, if_pos ⟨rfl, rfl⟩, List.length_append]; rfl, fun i f hf => ?_⟩, (hs.mono (fun k hk => by omega)).tr (sameOn.si (by omega))⟩
  · unfold f_X0_add
    rw [h0, c_put a1 (by omega) hl, b_s1, k1, c_put a2 (by omega) hl, b_s1, k2, c_put a3 (by omega) hl, b_s1, nmq_q, ← hM1, k3, iz_s]
  · rw [gi_si, if_neg (by omega), gi_si, if_neg (by omega), gi_si, if_neg (by omega), g1, g2, g3]
    rcases snoc_at hf with ⟨r1, r2⟩ | ⟨r1, r2⟩
    · rw [if_neg (by omega), if_neg (by omega), if_neg (by omega)]; exact h.2 i f r2
    · rw [if_pos r1, if_pos r1, if_pos r1, r2]; exact ⟨rfl, rfl, rfl⟩
theorem bitT_s : ∀ i : Fin 32, ((iz ((i.val : Nat) : Int) &&& 31 : Int32).toBitVec.smod 32).toNat = i.val := by decide
theorem bitT {g i : Nat} (hg : g < 2 ^ 31) (hi : i < 32) : (ishr_ (iz (g : Int)) (iz (i : Int))) &&& (1 : Int32) = iz ((g / 2 ^ i % 2 : Nat) : Int) := by
  have e1 : ishr_ (iz (g : Int)) (iz (i : Int)) = nI (g / 2 ^ i) := by
    unfold ishr_
    rw [iz_i g]
    exact pk_shrN hg _ i (bitT_s ⟨i, hi⟩)
  have hlt : g / 2 ^ i < 2 ^ 32 := Nat.lt_of_le_of_lt (Nat.div_le_self _ _) (by omega)
  rw [e1, pk_andN hlt 1 (by decide), iz_i]; rfl
theorem par_cut {M M' : Mem} {p : Nat} (hp : p = 1 ∨ p = 12) {v : PV} (h : cPar M p v) (hs : sameOn (fun k => k < 128 ∨ 132 ≤ k) M M') : cPar M' p v := h.same (hs.mono (fun k hk => by omega))
theorem c_cutL {p : Nat} (hp : p = 1 ∨ p = 12) {v : PV} (hv : okV v) {l : List Nat} (hl : l.length ≤ 12) (h8 : ∀ a ∈ l, a < 8) (n e : Nat) : ∀ (rest : List Nat) (a f i : Nat) (acc : Int) (F : List Fr) (M : Mem), l.drop i = a :: rest → rest.length + 1 < f → i + (rest.length + 1) = l.length → F.length + rest.length + 1 ≤ 192 → cPar M p v → cFr M F →
    ∃ M', lq3 (f_X0_cutWord_L33 p (iz (n : Int)) (iz (e : Int)) (iz (l.length : Int)) (pk l) (iz ((hyB (brk v l) l.length : Nat) : Int))) f (iz acc) (iz ((i + 1 : Nat) : Int)) M = some M' ∧ cFr M' (F ++ pieces v.2.2.1 (brk v l) n e rest (i + 1) (acc + v.2.2.1 a)) ∧ sameOn (fun k => k < 128 ∨ 132 ≤ k) M M' := by
  obtain ⟨a1, -, -, -, -, -⟩ := al_par hp
  have hy31 : hyB (brk v l) l.length < 2 ^ 31 := by have := hyB_small (v := v) hl; omega
  intro rest
  induction rest with
  | nil =>
    intro a f i acc F M e0 e1 e2 e3 hc hF
    simp only [List.length_nil] at e1 e2 e3
    obtain ⟨f, rfl⟩ : ∃ g, f = g + 2 := ⟨f - 2, by omega⟩
    obtain ⟨d1, d2⟩ := drop_step e0
    have ha8 := h8 a (List.mem_of_getElem? d1)
    obtain ⟨M', m1, m2, m3⟩ := c_fadd hF (by omega) (acc + v.2.2.1 a) n e
    refine ⟨M', ?_, m2, m3⟩
    have i1 : iz ((i + 1 : Nat) : Int) - (1 : Int32) = iz (i : Int) := by
      rw [show (1 : Int32) = iz (1 : Int) from rfl, iz_sub]; congr 1; omega
    rw [lq3_s]
    generalize hK : lq3 (f_X0_cutWord_L33 p (iz (n : Int)) (iz (e : Int)) (iz (l.length : Int)) (pk l) (iz ((hyB (brk v l) l.length : Nat) : Int))) (f + 1) = K
    unfold f_X0_cutWord_L33
    rw [if_neg (fun t => by have := (iz_cnt (n := l.length) (m := i + 1) (by omega) (by omega)).1.mp t; omega), i1, letterIn_pk hl h8 d1, b_s1, c_at a1 (by omega) ha8, b_s1, nmq_q, hc.2.2.1 a ha8, iz_add, if_pos (by rw [show i + 1 = l.length by omega]), m1, b_s1, nmq_q, ← hK, lq3_s]
    generalize lq3 (f_X0_cutWord_L33 p (iz (n : Int)) (iz (e : Int)) (iz (l.length : Int)) (pk l) (iz ((hyB (brk v l) l.length : Nat) : Int))) f = K
    unfold f_X0_cutWord_L33
    rw [iz_s, if_pos ((iz_cnt (n := l.length) (m := i + 1 + 1) (by omega) (by omega)).1.mpr (by omega))]
  | cons b' rest ih =>
    intro a f i acc F M e0 e1 e2 e3 hc hF
    rw [List.length_cons] at e1 e2 e3
    obtain ⟨f, rfl⟩ : ∃ g, f = g + 1 := ⟨f - 1, by omega⟩
    obtain ⟨d1, d2⟩ := drop_step e0
    have ha8 := h8 a (List.mem_of_getElem? d1)
    have i1 : iz ((i + 1 : Nat) : Int) - (1 : Int32) = iz (i : Int) := by
      rw [show (1 : Int32) = iz (1 : Int) from rfl, iz_sub]; congr 1; omega
    have hbit : (ishr_ (iz ((hyB (brk v l) l.length : Nat) : Int)) (iz ((i + 1 : Nat) : Int))) &&& (1 : Int32) = iz ((if brk v l (i + 1) = true then 1 else 0 : Nat) : Int) := by
      rw [bitT hy31 (by omega), hyB_bit (brk v l) l.length (by omega)]
    rw [lq3_s]
    by_cases r : brk v l (i + 1) = true
    · obtain ⟨M1, m1, m2, m3⟩ := c_fadd hF (by omega) (acc + v.2.2.1 a) n 1
      obtain ⟨M', n1, n2, n3⟩ := ih b' f (i + 1) 0 (F ++ [(acc + v.2.2.1 a, n, 1)]) M1 d2 (by omega) (by omega) (by rw [List.length_append]; show F.length + 1 + _ + 1 ≤ 192; omega) (par_cut hp hc m3) m2
      refine ⟨M', ?_, ?_, m3.tr n3⟩
      · generalize lq3 (f_X0_cutWord_L33 p (iz (n : Int)) (iz (e : Int)) (iz (l.length : Int)) (pk l) (iz ((hyB (brk v l) l.length : Nat) : Int))) f = K at n1 ⊢
        unfold f_X0_cutWord_L33
        rw [if_neg (fun t => by have := (iz_cnt (n := l.length) (m := i + 1) (by omega) (by omega)).1.mp t; omega), i1, letterIn_pk hl h8 d1, b_s1, c_at a1 (by omega) ha8, b_s1, nmq_q, hc.2.2.1 a ha8, iz_add, if_neg (ne_cnt (by omega) (by omega) (by omega)), hbit, if_pos r, if_pos (show iz ((1 : Nat) : Int) = (1 : Int32) from rfl)]
        have m1' : f_X0_add (iz (acc + v.2.2.1 a)) (iz (n : Int)) (1 : Int32) M = some M1 := m1
        rw [m1', b_s1, nmq_q, iz_s]; exact n1
      · have e4 : pieces v.2.2.1 (brk v l) n e (b' :: rest) (i + 1) (acc + v.2.2.1 a) = (acc + v.2.2.1 a, n, 1) :: pieces v.2.2.1 (brk v l) n e rest (i + 1 + 1) (v.2.2.1 b') := by
          show (if brk v l (i + 1) = true then _ else _) = _
          rw [if_pos r]
        rw [e4]
        rw [Int.zero_add] at n2
        rw [List.append_assoc] at n2
        exact n2
    · obtain ⟨M', n1, n2, n3⟩ := ih b' f (i + 1) (acc + v.2.2.1 a) F M d2 (by omega) (by omega) (by omega) hc hF
      refine ⟨M', ?_, ?_, n3⟩
      · generalize lq3 (f_X0_cutWord_L33 p (iz (n : Int)) (iz (e : Int)) (iz (l.length : Int)) (pk l) (iz ((hyB (brk v l) l.length : Nat) : Int))) f = K at n1 ⊢
        unfold f_X0_cutWord_L33
        rw [if_neg (fun t => by have := (iz_cnt (n := l.length) (m := i + 1) (by omega) (by omega)).1.mp t; omega), i1, letterIn_pk hl h8 d1, b_s1, c_at a1 (by omega) ha8, b_s1, nmq_q, hc.2.2.1 a ha8, iz_add, if_neg (ne_cnt (by omega) (by omega) (by omega)), hbit, if_neg r, if_neg (show ¬ iz ((0 : Nat) : Int) = (1 : Int32) by decide), nmq_q, iz_s]; exact n1
      · have e4 : pieces v.2.2.1 (brk v l) n e (b' :: rest) (i + 1) (acc + v.2.2.1 a) = pieces v.2.2.1 (brk v l) n e rest (i + 1 + 1) (acc + v.2.2.1 a + v.2.2.1 b') := by
          show (if brk v l (i + 1) = true then _ else _) = _
          rw [if_neg r]
        rw [e4]; exact n2
theorem c_cutW {p : Nat} (hp : p = 1 ∨ p = 12) {v : PV} (hv : okV v) {M : Mem} (hc : cPar M p v) {w : Nat} {q : Word} (hq : v.1[w]? = some q) {F : List Fr} (hF : cFr M F) (hl : F.length + q.1.length ≤ 192) (n e : Nat) :
    ∃ M', f_X0_cutWord p (iz (w : Int)) (iz (n : Int)) (iz (e : Int)) M = some M' ∧ cFr M' (F ++ pieces v.2.2.1 (brk v q.1) n e q.1 0 0) ∧ sameOn (fun k => k < 128 ∨ 132 ≤ k) M M' := by
  obtain ⟨c1, c2, -, hw, h12⟩ := c_len hp hc hv hq
  have okq := hv.2.1 q (List.mem_of_getElem? hq)
  obtain ⟨a, rest, hal⟩ : ∃ a rest, q.1 = a :: rest := by
    cases hh : q.1 with
    | nil => have := okq.1.1; rw [hh] at this; simp at this
    | cons a r => exact ⟨a, r, rfl⟩
  have hlen : q.1.length = rest.length + 1 := by rw [hal]; rfl
  obtain ⟨M', m1, m2, m3⟩ := c_cutL hp hv h12 okq.1.2.2 n e rest a FU 0 0 F M hal (by rw [FU_eq]; omega) (by omega) (by omega) hc hF
  refine ⟨M', ?_, ?_, m3⟩
  · unfold f_X0_cutWord
    rw [c1, b_s1, c2, b_s1, c_hy hp hc hv hq, b_s1, b1_id]; exact m1
  · have e4 : pieces v.2.2.1 (brk v q.1) n e q.1 0 0 = pieces v.2.2.1 (brk v q.1) n e rest (0 + 1) (0 + v.2.2.1 a) := by
      have hb : ∀ t, ¬ brk v t 0 = true := fun t h => by have := (brk_iff.mp h).2.2.1; omega
      generalize hbb : brk v q.1 = bb
      have hb0 : ¬ bb 0 = true := by rw [← hbb]; exact hb _
      rw [hal]
      show (if bb 0 = true then _ else _) = _
      rw [if_neg hb0]
    rw [e4]; exact m2
/-- the words that are left -/
def leftW (g : Nat) : Nat → List Word → List Word
  | _, [] => []
  | i, q :: l => if g / 2 ^ i % 2 = 1 then leftW g (i + 1) l else q :: leftW g (i + 1) l
theorem leftW_mem {g : Nat} : ∀ (l : List Word) (i : Nat), ∀ q ∈ leftW g i l, q ∈ l
  | [], _, _, h => h
  | t :: l, i, q, h => by
    unfold leftW at h
    by_cases r : g / 2 ^ i % 2 = 1
    · rw [if_pos r] at h; exact List.mem_cons_of_mem _ (leftW_mem l _ q h)
    · rw [if_neg r] at h
      rcases List.mem_cons.mp h with s | s
      · rw [s]; exact List.mem_cons_self
      · exact List.mem_cons_of_mem _ (leftW_mem l _ q s)
theorem leftW_len {g : Nat} : ∀ (l : List Word) (i : Nat), (leftW g i l).length ≤ l.length
  | [], _ => Nat.le_refl _
  | t :: l, i => by
    have := leftW_len (g := g) l (i + 1)
    unfold leftW
    split
    · rw [List.length_cons]; omega
    · rw [List.length_cons, List.length_cons]; omega
theorem leftW_0 : ∀ (l : List Word) (i : Nat), leftW 0 i l = l
  | [], _ => rfl
  | t :: l, i => by
    unfold leftW
    rw [Nat.zero_div, if_neg (by decide), leftW_0 l]
/-- the number of the last word that is left, or -1 -/
def lastI (g : Nat) : List Word → Nat → Int → Int
  | [], _, x => x
  | _ :: l, i, x => lastI g l (i + 1) (if g / 2 ^ i % 2 = 1 then x else (i : Int))
theorem c_lastL {g : Nat} (hg : g < 65536) {n : Nat} (hn : n ≤ 16) : ∀ (l : List Word) (f i : Nat) (x : Int), i + l.length = n → l.length < f →
    lq2 (f_X0_lastLeft_L4 (iz (n : Int)) (iz (g : Int))) f (iz x) (iz (i : Int)) = some (iz (lastI g l i x)) := by
  intro l
  induction l with
  | nil =>
    intro f i x e1 e2
    simp only [List.length_nil] at e1 e2
    obtain ⟨f, rfl⟩ : ∃ g, f = g + 1 := ⟨f - 1, by omega⟩
    rw [lq2_s]
    generalize lq2 (f_X0_lastLeft_L4 (iz (n : Int)) (iz (g : Int))) f = K
    unfold f_X0_lastLeft_L4
    rw [if_pos (le_cnt (by omega) (by omega))]; rfl
  | cons t l ih =>
    intro f i x e1 e2
    rw [List.length_cons] at e1 e2
    obtain ⟨f, rfl⟩ : ∃ g, f = g + 1 := ⟨f - 1, by omega⟩
    rw [lq2_s]
    have ih' := fun x => ih f (i + 1) x (by omega) (by omega)
    generalize lq2 (f_X0_lastLeft_L4 (iz (n : Int)) (iz (g : Int))) f = K at ih' ⊢
    unfold f_X0_lastLeft_L4
    rw [if_neg (nle_cnt (by omega) (by omega)), bitT (by omega) (by omega), nmq_q, nmq_q, iz_s]
    show _ = some (iz (lastI g l (i + 1) (if g / 2 ^ i % 2 = 1 then x else (i : Int))))
    have h2 : g / 2 ^ i % 2 < 2 := Nat.mod_lt _ (by omega)
    by_cases r : g / 2 ^ i % 2 = 1
    · rw [if_pos r, r, if_neg (show ¬ iz ((1 : Nat) : Int) = 0 by decide)]; exact ih' x
    · rw [if_neg r, show g / 2 ^ i % 2 = 0 by omega, if_pos (show iz ((0 : Nat) : Int) = 0 from rfl)]; exact ih' i
theorem lastI_spec {g : Nat} : ∀ (l : List Word) (i : Nat) (x : Int), (leftW g i l = [] ∧ lastI g l i x = x) ∨ (leftW g i l ≠ [] ∧ (i : Int) ≤ lastI g l i x ∧ lastI g l i x < i + l.length)
  | [], i, x => Or.inl ⟨rfl, rfl⟩
  | t :: l, i, x => by
    unfold leftW lastI
    rw [List.length_cons]
    by_cases r : g / 2 ^ i % 2 = 1
    · rw [if_pos r, if_pos r]
      rcases lastI_spec (g := g) l (i + 1) x with ⟨h1, h2⟩ | ⟨h1, h2, h3⟩
      · exact Or.inl ⟨h1, h2⟩
      · exact Or.inr ⟨h1, by omega, by omega⟩
    · rw [if_neg r, if_neg r]
      refine Or.inr ⟨by simp, ?_⟩
      rcases lastI_spec (g := g) l (i + 1) i with ⟨h1, h2⟩ | ⟨h1, h2, h3⟩
      · rw [h2]; omega
      · omega
