/-! what a statement does to a paragraph; the class's -/
def tell (ls : List Nat) (v : PV) (s : Nat) : Option PV :=
  if sg ls s = 103 then (if 2 ≤ dval ls 1 (s + 1) 0 ∧ dval ls 1 (s + 3) 0 ≤ dval ls 1 (s + 1) 0 then some (setN v (up (up (up v.2.2.2 1 (dval ls 1 (s + 1) 0)) 2 (dval ls 1 (s + 2) 0)) 3 (dval ls 1 (s + 3) 0))) else none)
  else if sg ls s = 107 then (if dval ls 1 (s + 1) 0 ≤ 5 then some (setN v (up (up v.2.2.2 8 (dval ls 1 (s + 1) 0)) 9 (dval ls 1 (s + 2) 0))) else none)
  else if sg ls s = 110 then (match v.1[v.1.length - 1]? with | none => none | some w => some (turnW v.1 (v.1.length - 1) w, v.2))
  else if sg ls s = 112 then (if dval ls 1 (s + 1 + lrun ls 3 (s + 1)) 0 ≤ (lrun ls 3 (s + 1) : Int) ∧ 1 ≤ dval ls 1 (s + 1 + lrun ls 3 (s + 1) + 1) 0 ∧ ixF (patIs (lts ls (lrun ls 3 (s + 1)) (s + 1)) (dval ls 1 (s + 1 + lrun ls 3 (s + 1)) 0).toNat) v.2.1 < 8 then some (v.1, putP v.2.1 (ixF (patIs (lts ls (lrun ls 3 (s + 1)) (s + 1)) (dval ls 1 (s + 1 + lrun ls 3 (s + 1)) 0).toNat) v.2.1) (lts ls (lrun ls 3 (s + 1)) (s + 1), (dval ls 1 (s + 1 + lrun ls 3 (s + 1)) 0).toNat, (dval ls 1 (s + 1 + lrun ls 3 (s + 1) + 1) 0).toNat), v.2.2) else none)
  else if sg ls s = 119 then (if v.1.length < 16 then some (v.1 ++ [(lts ls (lrun ls 12 (s + 1)) (s + 1), 0)], v.2) else none)
  else if sg ls s = 104 then some (setN v (up v.2.2.2 5 (dval ls 2 (s + 1) 0)))
  else if sg ls s = 108 then (if 10 ≤ dval ls 2 (s + 1) 0 ∧ dval ls 2 (s + 1) 0 ≤ 60 then some (setN v (up v.2.2.2 0 (dval ls 2 (s + 1) 0))) else none)
  else if sg ls s = 111 then some (setN v (up v.2.2.2 6 (dval ls 1 (s + 1) 0)))
  else if sg ls s = 116 then (if dval ls 2 (s + 1) 0 ≤ 40 then some (setN v (up v.2.2.2 4 (dval ls 2 (s + 1) 0))) else none)
  else (if dval ls 1 (s + 1) 0 ≤ 2 then some (setN v (up v.2.2.2 7 (dval ls 1 (s + 1) 0))) else none)
theorem drun_dig {ls : List Nat} : ∀ m p, drun ls m p = m → ∀ t, t < m → isD ls (p + t) = true
  | 0, _, _, t, ht => by omega
  | m + 1, p, h, t, ht => by
    have hle := drun_le (ls := ls) m (p + 1)
    have eL : drun ls (m + 1) p = (if isD ls p = true then drun ls m (p + 1) + 1 else 0) := rfl
    rw [eL] at h
    by_cases q : isD ls p = true
    · rw [if_pos q] at h
      by_cases h0 : t = 0
      · rw [h0]; exact q
      · have := drun_dig (ls := ls) m (p + 1) (by omega) (t - 1) (by omega)
        rw [show p + 1 + (t - 1) = p + t by omega] at this; exact this
    · rw [if_neg q] at h; omega
theorem dval1 {ls : List Nat} {q : Nat} (h : isD ls q = true) : 0 ≤ dval ls 1 q 0 ∧ dval ls 1 q 0 ≤ 9 := by
  have hh : 48 ≤ sg ls q ∧ sg ls q ≤ 57 := of_decide_eq_true h
  show 0 ≤ 10 * 0 + sg ls q - 48 ∧ 10 * 0 + sg ls q - 48 ≤ 9
  omega
theorem dval2 {ls : List Nat} {q : Nat} (h : isD ls q = true) (h' : isD ls (q + 1) = true) : 0 ≤ dval ls 2 q 0 ∧ dval ls 2 q 0 ≤ 99 := by
  have h1 : 48 ≤ sg ls q ∧ sg ls q ≤ 57 := of_decide_eq_true h
  have h2 : 48 ≤ sg ls (q + 1) ∧ sg ls (q + 1) ≤ 57 := of_decide_eq_true h'
  show 0 ≤ 10 * (10 * 0 + sg ls q - 48) + sg ls (q + 1) - 48 ∧ 10 * (10 * 0 + sg ls q - 48) + sg ls (q + 1) - 48 ≤ 99
  omega
def kW (M M' : Mem) : Prop := sameOn (fun k => (k < 12 ∨ 23 ≤ k) ∧ k ≠ 124) M M' ∧ ∀ j, j ≠ 3 → gi M' 124 j = gi M 124 j
theorem kW.rf {M : Mem} : kW M M := ⟨sameOn.rf, fun _ _ => rfl⟩
theorem kW.tr {M M' M'' : Mem} (h : kW M M') (h' : kW M' M'') : kW M M'' := ⟨h.1.tr h'.1, fun j hj => (h'.2 j hj).trans (h.2 j hj)⟩
theorem kC.toW {M M' : Mem} (h : kC M M') : kW M M' := ⟨h.1.mono (fun a ha => by omega), h.2⟩
theorem kW.of {M M' : Mem} (h : sameOn (fun k => k < 12 ∨ 23 ≤ k) M M') : kW M M' := ⟨h.mono (fun a ha => by omega), fun j _ => by rw [(h 124 (by omega)).1]⟩
theorem kC.par {M M' : Mem} {p : Nat} {v : PV} (h : kC M M') (hp : p + 11 ≤ 124) (hc : cPar M p v) : cPar M' p v := hc.same (h.1.mono (fun a ha => by omega))
theorem c_glF : ∀ x y z : Fin 10, f_X8_glueFault (iz (x.val : Int)) (iz (y.val : Int)) (iz (z.val : Int)) = some (if 2 ≤ x.val ∧ z.val ≤ x.val then 0 else if x.val < 2 then -4 else -6) := by decide +kernel
theorem c_tGlue {ls : List Nat} (hl : okSh ls) {v : PV} {p : Nat} (hp2 : p ≤ 200) (h1 : isD ls p = true) (h2 : isD ls (p + 1) = true) (h3 : isD ls (p + 2) = true) {M : Mem} (hs : cSh M ls) (hp : gi M 124 3 = iz (p : Int)) (hc : cPar M 12 v) :
    ∃ M', f_X5_tellGlue 12 M = some ((if 2 ≤ dval ls 1 p 0 ∧ dval ls 1 (p + 2) 0 ≤ dval ls 1 p 0 then 1 else 0), M') ∧ (2 ≤ dval ls 1 p 0 ∧ dval ls 1 (p + 2) 0 ≤ dval ls 1 p 0 → cPar M' 12 (setN v (up (up (up v.2.2.2 1 (dval ls 1 p 0)) 2 (dval ls 1 (p + 1) 0)) 3 (dval ls 1 (p + 2) 0)))) ∧ gi M' 124 3 = iz ((p + 3 : Nat) : Int) ∧ kW M M' := by
  obtain ⟨b1, c1⟩ := dval1 h1
  obtain ⟨b2, c2⟩ := dval1 h2
  obtain ⟨b3, c3⟩ := dval1 h3
  obtain ⟨M1, r1, u1, k1⟩ := c_number hl (n := 1) (by omega) (p := p) (by omega) hs hp
  obtain ⟨M2, r2, u2, k2⟩ := c_number hl (n := 1) (by omega) (p := p + 1) (by omega) (k1.sh hs) u1
  obtain ⟨M3, r3, u3, k3⟩ := c_number hl (n := 1) (by omega) (p := p + 2) (by omega) (k2.sh (k1.sh hs)) u2
  have r1 : f_X5_number (1 : Int32) M = _ := r1
  have r2 : f_X5_number (1 : Int32) M1 = _ := r2
  have r3 : f_X5_number (1 : Int32) M2 = _ := r3
  generalize dval ls 1 p 0 = x at *
  generalize dval ls 1 (p + 1) 0 = y at *
  generalize dval ls 1 (p + 2) 0 = z at *
  have hf := c_glF ⟨x.toNat, by omega⟩ ⟨y.toNat, by omega⟩ ⟨z.toNat, by omega⟩
  have hf : f_X8_glueFault (iz ((x.toNat : Nat) : Int)) (iz ((y.toNat : Nat) : Int)) (iz ((z.toNat : Nat) : Int)) = some (if 2 ≤ x.toNat ∧ z.toNat ≤ x.toNat then 0 else if x.toNat < 2 then -4 else -6) := hf
  rw [show ((x.toNat : Nat) : Int) = x by omega, show ((y.toNat : Nat) : Int) = y by omega, show ((z.toNat : Nat) : Int) = z by omega] at hf
  have kk : kC M M3 := (k1.tr k2).tr k3
  have hc3 : cPar M3 12 v := kk.par (by omega) hc
  unfold f_X5_tellGlue
  rw [r1, b_s2, r2, b_s2, r3, b_s2, hf, b_s1]
  by_cases q : 2 ≤ x ∧ z ≤ x
  · rw [if_pos (show 2 ≤ x.toNat ∧ z.toNat ≤ x.toNat by omega), if_pos rfl, if_pos q]
    refine ⟨si (si (si M3 12 4 (iz x)) 12 5 (iz y)) 12 6 (iz z), rfl, fun _ => ((hc3.num (i := 1) (z := x)).num (i := 2) (z := y)).num (i := 3) (z := z), ?_, kk.toW.tr (kW.of (((sameOn.si (by omega)).tr (sameOn.si (by omega))).tr (sameOn.si (by omega))))⟩
    rw [gi_si, if_neg (by omega), gi_si, if_neg (by omega), gi_si, if_neg (by omega)]; exact u3
  · rw [if_neg (show ¬ (2 ≤ x.toNat ∧ z.toNat ≤ x.toNat) by omega), if_neg q]
    refine ⟨M3, ?_, fun h => absurd h q, u3, kk.toW⟩
    by_cases q2 : x.toNat < 2
    · rw [if_pos q2, if_neg (by decide)]
    · rw [if_neg q2, if_neg (by decide)]
theorem c_tKind {ls : List Nat} (hl : okSh ls) {v : PV} {p : Nat} (hp2 : p ≤ 200) (h1 : isD ls p = true) (h2 : isD ls (p + 1) = true) {M : Mem} (hs : cSh M ls) (hp : gi M 124 3 = iz (p : Int)) (hc : cPar M 12 v) :
    ∃ M', f_X5_tellKind 12 M = some ((if dval ls 1 p 0 ≤ 5 then 1 else 0), M') ∧ (dval ls 1 p 0 ≤ 5 → cPar M' 12 (setN v (up (up v.2.2.2 8 (dval ls 1 p 0)) 9 (dval ls 1 (p + 1) 0)))) ∧ gi M' 124 3 = iz ((p + 2 : Nat) : Int) ∧ kW M M' := by
  obtain ⟨b1, c1⟩ := dval1 h1
  obtain ⟨b2, c2⟩ := dval1 h2
  obtain ⟨M1, r1, u1, k1⟩ := c_number hl (n := 1) (by omega) (p := p) (by omega) hs hp
  obtain ⟨M2, r2, u2, k2⟩ := c_number hl (n := 1) (by omega) (p := p + 1) (by omega) (k1.sh hs) u1
  have r1 : f_X5_number (1 : Int32) M = _ := r1
  have r2 : f_X5_number (1 : Int32) M1 = _ := r2
  generalize dval ls 1 p 0 = x at *
  generalize dval ls 1 (p + 1) 0 = y at *
  have ho : f_X8_isOther (iz x) (6 : Int32) = _ := c_isOther (z := x) (n := 6) (by omega) (by omega) (by omega) (by omega)
  have kk : kC M M2 := k1.tr k2
  have hc3 : cPar M2 12 v := kk.par (by omega) hc
  unfold f_X5_tellKind
  rw [r1, b_s2, r2, b_s2, ho, b_s1]
  by_cases q : x ≤ 5
  · rw [if_pos (show 0 ≤ x ∧ x < 6 by omega), if_pos rfl, if_pos q]
    refine ⟨si (si M2 12 11 (iz x)) 12 12 (iz y), rfl, fun _ => (hc3.num (i := 8) (z := x)).num (i := 9) (z := y), ?_, kk.toW.tr (kW.of ((sameOn.si (by omega)).tr (sameOn.si (by omega))))⟩
    rw [gi_si, if_neg (by omega), gi_si, if_neg (by omega)]; exact u2
  · rw [if_neg (show ¬ (0 ≤ x ∧ x < 6) by omega), if_neg (by decide), if_neg q]
    exact ⟨M2, rfl, fun h => absurd h q, u2, kk.toW⟩
theorem cWs.turn {M : Mem} {k : Nat} {ws : List Word} (h : cWs M k ws) {a : Nat} {q : Word} (ha : ws[a]? = some q) (hq : q.2 ≤ 1) : cWs (si M (k + 3) a (iz ((1 - q.2 : Nat) : Int))) k (turnW ws a q) := by
  have hl : a < ws.length := (List.getElem?_eq_some_iff.mp ha).1
  have hset : ∀ (w : Nat) (q' : Word), (turnW ws a q)[w]? = some q' → (w = a ∧ q' = (q.1, 1 - q.2)) ∨ (w ≠ a ∧ ws[w]? = some q') := fun w q' hw => by
    unfold turnW at hw
    rw [List.getElem?_set] at hw
    by_cases r : a = w
    · rw [if_pos r, if_pos (by omega)] at hw
      cases hw; exact Or.inl ⟨r.symm, rfl⟩
    · rw [if_neg r] at hw
      exact Or.inr ⟨fun e => r e.symm, hw⟩
  refine ⟨?_, fun w q' hw => ?_⟩
  · rw [gi_si, if_neg (by omega)]; exact h.1.trans (by unfold turnW; rw [List.length_set])
  · rcases hset w q' hw with ⟨r1, r2⟩ | ⟨r1, r2⟩
    · obtain ⟨b1, b2, b3⟩ := h.2 a q ha
      rw [r1, r2]
      exact ⟨b1, by rw [gi_si, if_neg (by omega)]; exact b2, by rw [gi_si, if_pos ⟨rfl, rfl⟩]⟩
    · obtain ⟨b1, b2, b3⟩ := h.2 w q' r2
      exact ⟨b1, by rw [gi_si, if_neg (by omega)]; exact b2, by rw [gi_si, if_neg (by omega)]; exact b3⟩
theorem c_tForced {v : PV} (hv : okV v) {M : Mem} (hc : cPar M 12 v) :
    ∃ M', f_X5_tellForced 14 M = some ((if v.1.length = 0 then 0 else 1), M') ∧ (∀ w, v.1[v.1.length - 1]? = some w → cPar M' 12 (turnW v.1 (v.1.length - 1) w, v.2)) ∧ gi M' 124 = gi M 124 ∧ kW M M' := by
  obtain ⟨h1, h2, h3, h4⟩ := hc
  have h16 := hv.1
  unfold f_X5_tellForced
  have h0 : gi M 14 3 = iz (v.1.length : Int) := h1.1
  rw [h0]
  by_cases q : v.1.length = 0
  · rw [if_pos (by rw [q]; rfl), if_pos q]
    refine ⟨M, rfl, fun w hw => ?_, rfl, kW.rf⟩
    have := (List.getElem?_eq_some_iff.mp hw).1
    omega
  · obtain ⟨w, hw⟩ : ∃ w, v.1[v.1.length - 1]? = some w := ⟨_, List.getElem?_eq_getElem (by omega)⟩
    have hq := (hv.2.1 w (List.mem_of_getElem? hw)).2
    have e1 : (1 : Int32) - iz (w.2 : Int) = iz ((1 - w.2 : Nat) : Int) := by
      rw [show (1 : Int32) = iz (1 : Int) from rfl, iz_sub]; congr 1; omega
    have e2 : iz (v.1.length : Int) - (1 : Int32) = iz ((v.1.length - 1 : Nat) : Int) := by
      rw [show (1 : Int32) = iz (1 : Int) from rfl, iz_sub]; congr 1; omega
    have al : alen 17 = 16 := rfl
    have e0 : gi M 17 (v.1.length - 1) = iz w.2 := (h1.2 _ w hw).2.2
    have ss : sameOn (fun k => k ≠ 17) M (si M 17 (v.1.length - 1) (iz ((1 - w.2 : Nat) : Int))) := sameOn.si (by omega)
    rw [if_neg (show ¬ iz (v.1.length : Int) = 0 from ne_cnt (i := 0) q (by omega) (by omega)), if_neg q, e2]
    refine ⟨si M 17 (v.1.length - 1) (iz ((1 - w.2 : Nat) : Int)), ?_, fun w' hw' => ?_, (ss 124 (by omega)).1, kW.of (ss.mono (fun a ha => by omega))⟩
    · have ht : f_X7_turnForced 14 (iz ((v.1.length - 1 : Nat) : Int)) M = some (iz ((1 - w.2 : Nat) : Int), si M 17 (v.1.length - 1) (iz ((1 - w.2 : Nat) : Int))) := by
        show bq1 (f_X8_at 17 _ _) _ = _
        rw [c_at al (by omega) (by omega), b_s1]
        show bq1 (f_X8_put 17 _ _ _) _ = _
        rw [c_put al (by omega) (by omega), b_s1]
        show bq1 (f_X8_at 17 _ _) _ = _
        rw [c_at al (by omega) (by omega), b_s1, e0, e1, gi_si, if_pos ⟨rfl, rfl⟩]
      rw [ht, b_s2]
    · rw [hw] at hw'; cases hw'
      exact ⟨h1.turn hw hq, h2.same (ss.mono (fun a ha => by omega)), fun i hi => by rw [(ss 13 (by omega)).1]; exact h3 i hi, fun i hi => by rw [(ss 12 (by omega)).1]; exact h4 i hi⟩
theorem cWs.app {M : Mem} {k : Nat} {ws : List Word} (h : cWs M k ws) (a2 : alen (k + 2) = 16) (a3 : alen (k + 3) = 16) (hl : ws.length < 16) {l : List Nat} : ∃ M' x, f_X7_add k (pk l) (iz (l.length : Int)) M = some (x, M') ∧ cWs M' k (ws ++ [(l, 0)]) ∧ sameOn (fun b => b < k ∨ k + 4 ≤ b) M M' ∧ ∀ j, j ≠ 3 → gi M' k j = gi M k j := by
  obtain ⟨M1, hM1⟩ : ∃ M1, M1 = si (si (sl M (k + 1) ws.length (pk l)) (k + 2) ws.length (iz (l.length : Int))) (k + 3) ws.length (0 : Int32) := ⟨_, rfl⟩
  have hs : sameOn (fun b => b ≠ k + 1 ∧ b ≠ k + 2 ∧ b ≠ k + 3) M M1 := by rw [hM1]; exact ((sameOn.sl (by omega)).tr (sameOn.si (by omega))).tr (sameOn.si (by omega))
  have g4 : ∀ w, gl M1 (k + 1) w = if w = ws.length then pk l else gl M (k + 1) w := fun w => by
    have : gl M1 (k + 1) w = gl (sl M (k + 1) ws.length (pk l)) (k + 1) w := by rw [hM1]; rfl
    rw [this, gl_sl']
    by_cases q : w = ws.length
    · rw [if_pos ⟨rfl, q⟩, if_pos q]
    · rw [if_neg (by omega), if_neg q]
  have g5 : ∀ w, gi M1 (k + 2) w = if w = ws.length then iz (l.length : Int) else gi M (k + 2) w := fun w => by
    rw [hM1, gi_si, if_neg (by omega), gi_si]
    by_cases q : w = ws.length
    · rw [if_pos ⟨rfl, q⟩, if_pos q]
    · rw [if_neg (by omega), if_neg q]; rfl
  have g6 : ∀ w, gi M1 (k + 3) w = if w = ws.length then (0 : Int32) else gi M (k + 3) w := fun w => by
    rw [hM1, gi_si]
    by_cases q : w = ws.length
    · rw [if_pos ⟨rfl, q⟩, if_pos q]
    · rw [if_neg (by omega), if_neg q, gi_si, if_neg (by omega)]; rfl
  have e3 : gi M1 k 3 = iz (ws.length : Int) := by rw [(hs k (by omega)).1]; exact h.1
  refine ⟨si M1 k 3 (gi M1 k 3 + 1), gi (si M1 k 3 (gi M1 k 3 + 1)) k 3 - 1, ?_, ⟨?_, fun w q hq => ?_⟩, (hs.mono (fun a ha => by omega)).tr (sameOn.si (by omega)), fun j hj => ?_⟩
  · unfold f_X7_add
    rw [h.1, c_wwrite a2 a3 hl, b_s1, nmq_q, ← hM1]
  · rw [gi_si, if_pos ⟨rfl, rfl⟩, e3, iz_s, List.length_append]; rfl
  · show gl M1 (k + 1) w = _ ∧ gi (si M1 k 3 _) (k + 2) w = _ ∧ gi (si M1 k 3 _) (k + 3) w = _
    rw [gi_si, if_neg (by omega), gi_si, if_neg (by omega), g4, g5, g6]
    by_cases r : w < ws.length
    · rw [List.getElem?_append_left r] at hq
      rw [if_neg (by omega), if_neg (by omega), if_neg (by omega)]; exact h.2 w q hq
    · have hw : w < (ws ++ [(l, 0)]).length := (List.getElem?_eq_some_iff.mp hq).1
      rw [List.length_append] at hw
      have : w = ws.length := by
        have : ([(l, 0)] : List Word).length = 1 := rfl
        omega
      subst this
      rw [List.getElem?_append_right (Nat.le_refl _), Nat.sub_self] at hq
      have hq : some (l, 0) = some q := hq
      cases hq
      rw [if_pos rfl, if_pos rfl, if_pos rfl]; exact ⟨rfl, rfl, rfl⟩
  · rw [gi_si, if_neg (by omega), (hs k (by omega)).1]
theorem c_tWord {ls : List Nat} (hl : okSh ls) {v : PV} (hv : okV v) {p : Nat} (hp2 : p ≤ 200) {M : Mem} (hs : cSh M ls) (hp : gi M 124 3 = iz (p : Int)) (hc : cPar M 12 v) :
    ∃ M', f_X5_tellWord 14 M = some ((if v.1.length < 16 then 1 else 0), M') ∧ (v.1.length < 16 → cPar M' 12 (v.1 ++ [(lts ls (lrun ls 12 p) p, 0)], v.2)) ∧ gi M' 124 3 = iz ((p + lrun ls 12 p : Nat) : Int) ∧ kW M M' := by
  obtain ⟨M1, r1, u1, k1⟩ := c_tWL hl 12 FU p [] M rfl (fun b hb => by cases hb) (by rw [FU_eq]; omega) (by omega) hs hp
  have r1' : lq3 f_X5_tellWord_L5 FU (0 : Int64) (0 : Int32) M = some (pk (lts ls (lrun ls 12 p) p), iz ((0 + lrun ls 12 p : Nat) : Int), M1) := r1
  rw [Nat.zero_add] at r1'
  have hc1 : cPar M1 12 v := k1.par (by omega) hc
  obtain ⟨h1, h2, h3, h4⟩ := hc1
  have h0 : gi M1 14 3 = iz (v.1.length : Int) := h1.1
  have h16 := hv.1
  unfold f_X5_tellWord f_X7_isFull
  rw [r1', b_s3, h0]
  by_cases q : v.1.length < 16
  · obtain ⟨M2, x, e2, w2, s2, -⟩ := h1.app rfl rfl q (l := lts ls (lrun ls 12 p) p)
    rw [lts_len] at e2
    rw [if_pos (show iz (v.1.length : Int) < (16 : Int32) from lt_iz (b := 16) (by omega) (by omega) (by omega) (by omega) (by omega)), b_s1, if_pos rfl, e2, b_s2, if_pos q]
    refine ⟨M2, rfl, fun _ => ⟨w2, h2.same (s2.mono (fun a ha => by omega)), fun i hi => by rw [(s2 13 (by omega)).1]; exact h3 i hi, fun i hi => by rw [(s2 12 (by omega)).1]; exact h4 i hi⟩, by rw [(s2 124 (by omega)).1]; exact u1, k1.toW.tr (kW.of (s2.mono (fun a ha => by omega)))⟩
  · rw [if_neg (fun e => q (by have := (iz_lt (a := (v.1.length : Int)) (b := 16) (by omega) (by omega) (by omega) (by omega)).mp e; omega)), b_s1, if_neg (by decide), if_neg q]
    exact ⟨M1, rfl, fun h => absurd h q, u1, k1.toW⟩
theorem c_tPattern {ls : List Nat} (hl : okSh ls) {v : PV} (hv : okV v) {p : Nat} (hp2 : p ≤ 200) (h1 : isD ls (p + lrun ls 3 p) = true) (h2 : isD ls (p + lrun ls 3 p + 1) = true) {M : Mem} (hs : cSh M ls) (hp : gi M 124 3 = iz (p : Int)) (hc : cPar M 12 v) :
    ∃ M', f_X5_tellPattern 18 M = some ((if dval ls 1 (p + lrun ls 3 p) 0 ≤ (lrun ls 3 p : Int) ∧ 1 ≤ dval ls 1 (p + lrun ls 3 p + 1) 0 ∧ ixF (patIs (lts ls (lrun ls 3 p) p) (dval ls 1 (p + lrun ls 3 p) 0).toNat) v.2.1 < 8 then 1 else 0), M') ∧ (dval ls 1 (p + lrun ls 3 p) 0 ≤ (lrun ls 3 p : Int) ∧ 1 ≤ dval ls 1 (p + lrun ls 3 p + 1) 0 ∧ ixF (patIs (lts ls (lrun ls 3 p) p) (dval ls 1 (p + lrun ls 3 p) 0).toNat) v.2.1 < 8 → cPar M' 12 (v.1, putP v.2.1 (ixF (patIs (lts ls (lrun ls 3 p) p) (dval ls 1 (p + lrun ls 3 p) 0).toNat) v.2.1) (lts ls (lrun ls 3 p) p, (dval ls 1 (p + lrun ls 3 p) 0).toNat, (dval ls 1 (p + lrun ls 3 p + 1) 0).toNat), v.2.2)) ∧ gi M' 124 3 = iz ((p + lrun ls 3 p + 2 : Nat) : Int) ∧ kW M M' := by
  have hle := lrun_le (ls := ls) 3 p
  have hlt := lts_lt (ls := ls) 3 p
  have hll := lts_len (ls := ls) (lrun ls 3 p) p
  obtain ⟨b1, c1⟩ := dval1 h1
  obtain ⟨b2, c2⟩ := dval1 h2
  obtain ⟨M1, r1, u1, k1⟩ := c_tPL hl 3 FU p [] M rfl (fun b hb => by cases hb) (by rw [FU_eq]; omega) (by omega) hs hp
  have r1' : lq3 f_X5_tellPattern_L5 FU (0 : Int64) (0 : Int32) M = some (pk (lts ls (lrun ls 3 p) p), iz ((0 + lrun ls 3 p : Nat) : Int), M1) := r1
  rw [Nat.zero_add] at r1'
  obtain ⟨M2, r2, u2, k2⟩ := c_number hl (n := 1) (by omega) (p := p + lrun ls 3 p) (by omega) (k1.sh hs) u1
  obtain ⟨M3, r3, u3, k3⟩ := c_number hl (n := 1) (by omega) (p := p + lrun ls 3 p + 1) (by omega) (k2.sh (k1.sh hs)) u2
  have r2 : f_X5_number (1 : Int32) M1 = _ := r2
  have r3 : f_X5_number (1 : Int32) M2 = _ := r3
  have kk : kC M M3 := (k1.tr k2).tr k3
  have hc3 : cPar M3 12 v := kk.par (by omega) hc
  generalize dval ls 1 (p + lrun ls 3 p) 0 = x at *
  generalize dval ls 1 (p + lrun ls 3 p + 1) 0 = y at *
  generalize lts ls (lrun ls 3 p) p = L at *
  obtain ⟨X, rfl⟩ : ∃ X : Nat, x = (X : Int) := ⟨x.toNat, by omega⟩
  obtain ⟨Y, rfl⟩ : ∃ Y : Nat, y = (Y : Int) := ⟨y.toNat, by omega⟩
  rw [Int.toNat_natCast, Int.toNat_natCast]
  obtain ⟨g1, g2, g3, g4⟩ := hc3
  have hroom := c_room (k := 18) (l := L) (p := X) g2 rfl hv.2.2.1 hv.2.2.2.1 (by omega) hlt (by omega)
  unfold f_X5_tellPattern
  rw [r1', b_s3, r2, b_s2, r3, b_s2]
  by_cases q1 : lrun ls 3 p < X
  · rw [if_pos (show iz (lrun ls 3 p : Int) < iz (X : Int) from lt_iz (by omega) (by omega) (by omega) (by omega) (by omega)), if_neg (fun h => by omega)]
    exact ⟨M3, rfl, fun h => by omega, u3, kk.toW⟩
  rw [if_neg (fun e => q1 (by have := (iz_lt (a := (lrun ls 3 p : Int)) (b := (X : Int)) (by omega) (by omega) (by omega) (by omega)).mp e; omega))]
  by_cases q2 : Y < 1
  · rw [if_pos (show iz (Y : Int) < (1 : Int32) from lt_iz (b := 1) (by omega) (by omega) (by omega) (by omega) (by omega)), if_neg (fun h => by omega)]
    exact ⟨M3, rfl, fun h => by omega, u3, kk.toW⟩
  rw [if_neg (fun e => q2 (by have := (iz_lt (a := (Y : Int)) (b := 1) (by omega) (by omega) (by omega) (by omega)).mp e; omega)), hroom, b_s1]
  by_cases q3 : ixF (patIs L X) v.2.1 < 8
  · obtain ⟨M4, e4, w4, f4, s4⟩ := c_take (k := 18) (l := L) (p := X) (x := Y) g2 rfl rfl rfl hv.2.2.1 hv.2.2.2.1 (by omega) hlt (by omega) rfl q3
    rw [hll] at e4
    have hP : (X : Int) ≤ (lrun ls 3 p : Int) ∧ 1 ≤ (Y : Int) ∧ ixF (patIs L X) v.2.1 < 8 := ⟨by omega, by omega, q3⟩
    rw [if_pos q3, if_neg (by decide), e4, b_s2, if_pos hP]
    refine ⟨M4, rfl, fun _ => ⟨g1.same (s4.mono (fun a ha => by omega)), w4, fun i hi => by rw [(s4 13 (by omega)).1]; exact g3 i hi, fun i hi => by rw [(s4 12 (by omega)).1]; exact g4 i hi⟩, by rw [(s4 124 (by omega)).1]; exact u3, kk.toW.tr (kW.of (s4.mono (fun a ha => by omega)))⟩
  · rw [if_neg q3, if_pos rfl, if_neg (fun h => q3 h.2.2)]
    exact ⟨M3, rfl, fun h => absurd h.2.2 q3, u3, kk.toW⟩
