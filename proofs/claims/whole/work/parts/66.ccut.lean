/-! the class cuts -/
theorem c_endOf {p : Nat} (hp : p = 1 ∨ p = 12) {v : PV} (hv : okV v) {M : Mem} (hc : cPar M p v) {w : Nat} {q : Word} (hq : v.1[w]? = some q) {L : Int} (hL : -1 ≤ L ∧ L < 16) {r : List Word} (h : (w : Int) = L ↔ r = []) : f_X0_endOf (p + 2) (iz (w : Int)) (iz L) M = some (iz (endW q r : Int)) := by
  obtain ⟨c1, c2, c3, hw, h12⟩ := c_len hp hc hv hq
  unfold f_X0_endOf endW
  rw [c3, b_s1]
  by_cases s : q.2 = 1
  · rw [if_pos s, if_neg (by decide), if_pos s]; rfl
  · rw [if_neg s, if_pos rfl, if_neg s]
    by_cases t : r = []
    · rw [if_pos (by rw [h.mpr t]), if_pos (by rw [t]; rfl)]; rfl
    · rw [if_neg (neq_iz (by omega) (by omega) (by omega) (by omega) (fun e => t (h.mp e))), if_neg (fun e => t (List.eq_nil_of_length_eq_zero e))]; rfl
theorem c_cutLL {p : Nat} (hp : p = 1 ∨ p = 12) {v : PV} (hv : okV v) {g : Nat} (hg : g < 65536) {L : Int} (hL : -1 ≤ L ∧ L < 16) : ∀ (rest : List Word) (f i n : Nat) (x : Int) (F : List Fr) (M : Mem), v.1.drop i = rest → rest.length < f → i + rest.length = v.1.length → n ≤ i → F.length + 12 * rest.length ≤ 192 → x < i → L = lastI g rest i x → cPar M p v → cFr M F →
    ∃ M', lq3 (f_X0_cut_L23 p (iz (g : Int)) (iz L)) f (iz (n : Int)) (iz (i : Int)) M = some M' ∧ cFr M' (F ++ frs v n (leftW g i rest)) ∧ sameOn (fun k => k < 128 ∨ 132 ≤ k) M M' := by
  intro rest
  induction rest with
  | nil =>
    intro f i n x F M e0 e1 e2 e3 e4 e5 e6 hc hF
    simp only [List.length_nil] at e1 e2 e4
    obtain ⟨f, rfl⟩ : ∃ g, f = g + 1 := ⟨f - 1, by omega⟩
    have hLi : L < i := by rw [e6]; exact e5
    have h16 := hv.1
    refine ⟨M, ?_, ?_, sameOn.rf⟩
    · rw [lq3_s]
      generalize lq3 (f_X0_cut_L23 p (iz (g : Int)) (iz L)) f = K
      unfold f_X0_cut_L23
      rw [if_pos (lt_iz (by omega) (by omega) (by omega) (by omega) hLi)]
    · show cFr M (F ++ [])
      rw [List.append_nil]; exact hF
  | cons q rest ih =>
    intro f i n x F M e0 e1 e2 e3 e4 e5 e6 hc hF
    rw [List.length_cons] at e1 e2 e4
    obtain ⟨f, rfl⟩ : ∃ g, f = g + 1 := ⟨f - 1, by omega⟩
    obtain ⟨d1, d2⟩ := drop_step e0
    have h16 := hv.1
    have okq := hv.2.1 q (List.mem_of_getElem? d1)
    have sp := lastI_spec (g := g) (q :: rest) i x
    rw [← e6] at sp
    have h2 : g / 2 ^ i % 2 < 2 := Nat.mod_lt _ (by omega)
    by_cases hLi : L < i
    · -- nothing is left
      have hnil : leftW g i (q :: rest) = [] := by
        rcases sp with ⟨s1, _⟩ | ⟨_, s2, _⟩
        · exact s1
        · omega
      refine ⟨M, ?_, ?_, sameOn.rf⟩
      · rw [lq3_s]
        generalize lq3 (f_X0_cut_L23 p (iz (g : Int)) (iz L)) f = K
        unfold f_X0_cut_L23
        rw [if_pos (lt_iz (by omega) (by omega) (by omega) (by omega) hLi)]
      · rw [hnil]
        show cFr M (F ++ [])
        rw [List.append_nil]; exact hF
    · rw [lq3_s]
      have hc1 : ¬ iz L < iz (i : Int) := nlt_iz (by omega) (by omega) (by omega) (by omega) hLi
      have e6' : L = lastI g rest (i + 1) (if g / 2 ^ i % 2 = 1 then x else (i : Int)) := e6
      by_cases r : g / 2 ^ i % 2 = 1
      · rw [if_pos r] at e6'
        obtain ⟨M', m1, m2, m3⟩ := ih f (i + 1) n x F M d2 (by omega) (by omega) (by omega) (by omega) (by omega) e6' hc hF
        refine ⟨M', ?_, ?_, m3⟩
        · generalize lq3 (f_X0_cut_L23 p (iz (g : Int)) (iz L)) f = K at m1 ⊢
          unfold f_X0_cut_L23
          rw [if_neg hc1, bitT (by omega) (by omega), r, if_neg (show ¬ iz ((1 : Nat) : Int) = 0 by decide), nmq_q, iz_s]; exact m1
        · have : leftW g i (q :: rest) = leftW g (i + 1) rest := by
            show (if g / 2 ^ i % 2 = 1 then _ else _) = _
            rw [if_pos r]
          rw [this]; exact m2
      · rw [if_neg r] at e6'
        have sp2 := lastI_spec (g := g) rest (i + 1) i
        rw [← e6'] at sp2
        have hiff : (i : Int) = L ↔ leftW g (i + 1) rest = [] := by
          rcases sp2 with ⟨s1, s2⟩ | ⟨s1, s2, s3⟩
          · exact ⟨fun _ => s1, fun _ => s2.symm⟩
          · exact ⟨fun t => by omega, fun t => absurd t s1⟩
        obtain ⟨M1, m1, m2, m3⟩ := c_cutW hp hv hc d1 hF (by have := okq.1.2.1; omega) n (endW q (leftW g (i + 1) rest))
        have hpl := pieces_len10 (v := v) (l := q.1) okq.1.2.1 (n := n) (e := endW q (leftW g (i + 1) rest))
        obtain ⟨M', n1, n2, n3⟩ := ih f (i + 1) (n + 1) i _ M1 d2 (by omega) (by omega) (by omega) (by rw [List.length_append]; omega) (by omega) e6' (par_cut hp hc m3) m2
        refine ⟨M', ?_, ?_, m3.tr n3⟩
        · generalize lq3 (f_X0_cut_L23 p (iz (g : Int)) (iz L)) f = K at n1 ⊢
          unfold f_X0_cut_L23
          rw [if_neg hc1, bitT (by omega) (by omega), show g / 2 ^ i % 2 = 0 by omega, if_pos (show iz ((0 : Nat) : Int) = 0 from rfl), c_endOf hp hv hc d1 hL hiff, b_s1, m1, b_s1, nmq_q, nmq_q, iz_s, iz_s]; exact n1
        · have : leftW g i (q :: rest) = q :: leftW g (i + 1) rest := by
            show (if g / 2 ^ i % 2 = 1 then _ else _) = _
            rw [if_neg r]
          rw [this]
          show cFr M' (F ++ (pieces v.2.2.1 (brk v q.1) n (endW q (leftW g (i + 1) rest)) q.1 0 0 ++ frs v (n + 1) (leftW g (i + 1) rest)))
          rw [← List.append_assoc]; exact n2
theorem c_cut {p : Nat} (hp : p = 1 ∨ p = 12) {v : PV} (hv : okV v) {M : Mem} (hc : cPar M p v) {g : Nat} (hg : g < 65536) : ∃ M', f_X0_cut p (iz (g : Int)) M = some M' ∧ cFr M' (frs v 0 (leftW g 0 v.1)) ∧ sameOn (fun k => k < 128 ∨ 132 ≤ k) M M' := by
  have s0 : sameOn (fun k => k < 128 ∨ 132 ≤ k) M (si M 128 3 (0 : Int32)) := sameOn.si (by omega)
  have h16 := hv.1
  have hn : gi (si M 128 3 (0 : Int32)) (p + 2) 3 = iz (v.1.length : Int) := by
    rw [gi_si, if_neg (by omega)]; exact hc.1.1
  have hl0 := c_lastL hg h16 v.1 FU 0 (-1) (by omega) (by rw [FU_eq]; omega)
  have hL : -1 ≤ lastI g v.1 0 (-1) ∧ lastI g v.1 0 (-1) < 16 := by
    rcases lastI_spec (g := g) v.1 0 (-1) with ⟨_, h⟩ | ⟨_, h1, h2⟩ <;> omega
  obtain ⟨M', m1, m2, m3⟩ := c_cutLL hp hv hg hL v.1 FU 0 0 (-1) [] (si M 128 3 (0 : Int32)) rfl (by rw [FU_eq]; omega) (by omega) (by omega) (by show 0 + 12 * v.1.length ≤ 192; omega) (by omega) rfl (par_cut hp hc s0) ⟨by rw [gi_si, if_pos ⟨rfl, rfl⟩]; rfl, fun i f hf => by simp at hf⟩
  refine ⟨M', ?_, m2, s0.tr m3⟩
  unfold f_X0_cut
  rw [nmq_q, hn]
  have hl1 : f_X0_lastLeft (iz (v.1.length : Int)) (iz (g : Int)) = some (iz (lastI g v.1 0 (-1))) := by
    unfold f_X0_lastLeft
    rw [b1_id]
    have : (-1 : Int32) = iz (-1) := iz_minus1.symm
    rw [this]; exact hl0
  rw [hl1, b_s1, b1_id]; exact m1
