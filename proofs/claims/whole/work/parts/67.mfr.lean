/-! the reference's fragments -/
def fw (F : List Fr) (i : Nat) : Int := match F[i]? with
  | some f => f.1
  | none => 0
def fn (F : List Fr) (i : Nat) : Nat := match F[i]? with
  | some f => f.2.1
  | none => 0
def fe (F : List Fr) (i : Nat) : Nat := match F[i]? with
  | some f => f.2.2
  | none => 0
theorem fw_at {F : List Fr} {i : Nat} {f : Fr} (h : F[i]? = some f) : fw F i = f.1 ∧ fn F i = f.2.1 ∧ fe F i = f.2.2 := by
  unfold fw fn fe; rw [h]; exact ⟨rfl, rfl, rfl⟩
def wS (F : List Fr) : Nat → Int
  | 0 => 0
  | i + 1 => wS F i + fw F i
def gS (F : List Fr) : Nat → Nat
  | 0 => 0
  | i + 1 => gS F i + (if fe F i = 0 then 1 else 0)
theorem app_at {F : List Fr} {f : Fr} {i : Nat} (h : i < F.length) : (F ++ [f])[i]? = F[i]? := List.getElem?_append_left h
theorem app_last {F : List Fr} {f : Fr} : (F ++ [f])[F.length]? = some f := by simp
theorem wS_app {F : List Fr} {f : Fr} : ∀ i, i ≤ F.length → wS (F ++ [f]) i = wS F i ∧ gS (F ++ [f]) i = gS F i
  | 0, _ => ⟨rfl, rfl⟩
  | i + 1, h => by
    obtain ⟨h1, h2⟩ := wS_app (F := F) (f := f) i (by omega)
    have e := app_at (F := F) (f := f) (i := i) (by omega)
    unfold wS gS
    unfold fw fe
    rw [h1, h2, e]
    exact ⟨rfl, rfl⟩
def mFr (M : Mem) (F : List Fr) : Prop := gi M 139 25 = iz (F.length : Int) ∧ (∀ i, i ≤ F.length → gi M 149 i = gi M 149 0 + iz (wS F i) ∧ gi M 150 i = gi M 150 0 + iz (gS F i : Int)) ∧ ∀ i, i < F.length → gi M 151 i = iz (fe F i : Int) ∧ gi M 152 i = iz (fn F i : Int)
/-- what making fragments may touch -/
def kF (M M' : Mem) : Prop := sameOn (fun k => k ≠ 139 ∧ k ≠ 149 ∧ k ≠ 150 ∧ k ≠ 151 ∧ k ≠ 152) M M' ∧ ∀ j, j ≠ 25 → gi M' 139 j = gi M 139 j
theorem kF.rf {M : Mem} : kF M M := ⟨sameOn.rf, fun _ _ => rfl⟩
theorem kF.tr {M M' M'' : Mem} (h : kF M M') (h' : kF M' M'') : kF M M'' := ⟨h.1.tr h'.1, fun j hj => (h'.2 j hj).trans (h.2 j hj)⟩
theorem kF.par {M M' : Mem} {v : PV} (h : kF M M') (hv : okV v) (hm : mPar (rdNow M) v) : mPar (rdNow M') v := hm.congr hv (rdNow.congr (h.1.mono (fun a ha => by omega)) (fun j _ _ => h.2 j (by omega)))
theorem kF.keep {M M' : Mem} (h : kF M M') : keepM M M' := ⟨h.1.mono (fun a ha => by omega), fun j _ => h.2 j (by omega), fun x _ => by rw [(h.1 163 (by omega)).1]⟩
theorem m_cuts {M : Mem} {F : List Fr} (h : mFr M F) (hl : F.length < 161) (a : Int) (n e : Nat) (he : e < 5000) : ∃ M', f_X9_cuts (iz (n : Int)) (iz a) (iz (e : Int)) M = some M' ∧ mFr M' (F ++ [(a, n, e)]) ∧ kF M M' := by
  obtain ⟨h0, h1, h2⟩ := h
  obtain ⟨M', hM'⟩ : ∃ M', M' = si (si (si (si (si M 151 F.length (iz (e : Int))) 152 F.length (iz (n : Int))) 149 (F.length + 1) (gi M 149 F.length + iz a)) 150 (F.length + 1) (gi M 150 F.length + iz ((if e = 0 then 1 else 0 : Nat) : Int))) 139 25 (iz ((F.length + 1 : Nat) : Int)) := ⟨_, rfl⟩
  have g : ∀ k i, gi M' k i = if k = 139 ∧ i = 25 then iz ((F.length + 1 : Nat) : Int) else if k = 150 ∧ i = F.length + 1 then gi M 150 F.length + iz ((if e = 0 then 1 else 0 : Nat) : Int) else if k = 149 ∧ i = F.length + 1 then gi M 149 F.length + iz a else if k = 152 ∧ i = F.length then iz (n : Int) else if k = 151 ∧ i = F.length then iz (e : Int) else gi M k i := fun k i => by
    rw [hM', gi_si, gi_si, gi_si, gi_si, gi_si]
  have hkF : kF M M' := by
    rw [hM']
    exact ⟨((((sameOn.si (by omega)).tr (sameOn.si (by omega))).tr (sameOn.si (by omega))).tr (sameOn.si (by omega))).tr (sameOn.si (by omega)), fun j hj => by rw [← hM', g, if_neg (by omega), if_neg (by omega), if_neg (by omega), if_neg (by omega), if_neg (by omega)]⟩
  have hlen : (F ++ [(a, n, e)]).length = F.length + 1 := by rw [List.length_append]; rfl
  have hlast := fw_at (app_last (F := F) (f := (a, n, e)))
  refine ⟨M', ?_, ⟨?_, fun i hi => ?_, fun i hi => ?_⟩, hkF⟩
  · unfold f_X9_cuts
    have k1 : ∀ {x : Int32}, gi (si M 151 F.length x) 139 25 = iz (F.length : Int) := fun {x} => by rw [gi_si, if_neg (by omega)]; exact h0
    have k2 : ∀ {x y : Int32}, gi (si (si M 151 F.length x) 152 F.length y) 139 25 = iz (F.length : Int) := fun {x y} => by rw [gi_si, if_neg (by omega)]; exact k1
    have k3 : ∀ {x y z : Int32}, gi (si (si (si M 151 F.length x) 152 F.length y) 149 (F.length + 1) z) 139 25 = iz (F.length : Int) := fun {x y z} => by rw [gi_si, if_neg (by omega)]; exact k2
    have k4 : ∀ {x y z u : Int32}, gi (si (si (si (si M 151 F.length x) 152 F.length y) 149 (F.length + 1) z) 150 (F.length + 1) u) 139 25 = iz (F.length : Int) := fun {x y z u} => by rw [gi_si, if_neg (by omega)]; exact k3
    have e149 : ∀ {x y : Int32}, gi (si (si M 151 F.length x) 152 F.length y) 149 F.length = gi M 149 F.length := fun {x y} => by rw [gi_si, if_neg (by omega), gi_si, if_neg (by omega)]
    have e150 : ∀ {x y z : Int32}, gi (si (si (si M 151 F.length x) 152 F.length y) 149 (F.length + 1) z) 150 F.length = gi M 150 F.length := fun {x y z} => by rw [gi_si, if_neg (by omega), gi_si, if_neg (by omega), gi_si, if_neg (by omega)]
    have e9 : (if iz (e : Int) = 0 then (1 : Int32) else (0 : Int32)) = iz ((if e = 0 then 1 else 0 : Nat) : Int) := by
      by_cases q : e = 0
      · rw [if_pos q, if_pos (show iz (e : Int) = 0 by rw [q]; rfl)]; rfl
      · rw [if_neg q, if_neg (show ¬ iz (e : Int) = 0 from ne_cnt (i := 0) q he (by omega))]; rfl
    rw [h0, g_t (inB_n (by omega) (by omega)), nmq_q, clN (by omega), k1, g_t (inB_n (by omega) (by omega)), nmq_q, clN (by omega), k2, g_t (inB_n (by omega) (by omega)), iz_s, g_t (inB_n (by omega) (by omega)), nmq_q, clN (by omega), clN (by omega), e149, k3, g_t (inB_n (by omega) (by omega)), nmq_q, e9, iz_s, g_t (inB_n (by omega) (by omega)), nmq_q, clN (by omega), clN (by omega), e150, nmq_q, k4, iz_s, ← hM']
  · rw [g, if_pos ⟨rfl, rfl⟩, hlen]
  · rw [hlen] at hi
    have g0a : gi M' 149 0 = gi M 149 0 := by rw [g, if_neg (by omega), if_neg (by omega), if_neg (by omega), if_neg (by omega), if_neg (by omega)]
    have g0b : gi M' 150 0 = gi M 150 0 := by rw [g, if_neg (by omega), if_neg (by omega), if_neg (by omega), if_neg (by omega), if_neg (by omega)]
    rw [g0a, g0b]
    by_cases q : i = F.length + 1
    · rw [g, if_neg (by omega), if_neg (by omega), if_pos ⟨rfl, q⟩, g, if_neg (by omega), if_pos ⟨rfl, q⟩, q, (h1 F.length (by omega)).1, (h1 F.length (by omega)).2]
      obtain ⟨w1, w2⟩ := wS_app (F := F) (f := (a, n, e)) F.length (by omega)
      have t1 : wS (F ++ [(a, n, e)]) (F.length + 1) = wS F F.length + a := by
        show wS (F ++ [(a, n, e)]) F.length + fw (F ++ [(a, n, e)]) F.length = _
        rw [w1, hlast.1]
      have t2 : gS (F ++ [(a, n, e)]) (F.length + 1) = gS F F.length + (if e = 0 then 1 else 0) := by
        show gS (F ++ [(a, n, e)]) F.length + (if fe (F ++ [(a, n, e)]) F.length = 0 then 1 else 0) = _
        rw [w2, hlast.2.2]
      rw [t1, t2, Int32.add_assoc, Int32.add_assoc, iz_add, iz_add]
      exact ⟨rfl, by congr 2⟩
    · obtain ⟨w1, w2⟩ := wS_app (F := F) (f := (a, n, e)) i (by omega)
      rw [g, if_neg (by omega), if_neg (by omega), if_neg (by omega), if_neg (by omega), if_neg (by omega), g, if_neg (by omega), if_neg (by omega), if_neg (by omega), if_neg (by omega), if_neg (by omega), w1, w2]
      exact h1 i (by omega)
  · rw [hlen] at hi
    by_cases q : i = F.length
    · rw [g, if_neg (by omega), if_neg (by omega), if_neg (by omega), if_neg (by omega), if_pos ⟨rfl, q⟩, g, if_neg (by omega), if_neg (by omega), if_neg (by omega), if_pos ⟨rfl, q⟩, q, hlast.2.1, hlast.2.2]
      exact ⟨rfl, rfl⟩
    · rw [g, if_neg (by omega), if_neg (by omega), if_neg (by omega), if_neg (by omega), if_neg (by omega), g, if_neg (by omega), if_neg (by omega), if_neg (by omega), if_neg (by omega), if_neg (by omega)]
      have e := app_at (F := F) (f := (a, n, e)) (i := i) (by omega)
      unfold fe fn
      rw [e]
      exact h2 i (by omega)
theorem m_cutL {v : PV} (hv : okV v) {w : Nat} {q : Word} (hq : v.1[w]? = some q) (e : Nat) : ∀ (rest : List Nat) (f i : Nat) (acc : Int) (F : List Fr) (M : Mem), q.1.drop i = rest → rest.length < f → i + rest.length = q.1.length → F.length + (pieces v.2.2.1 (brk v q.1) w e rest i acc).length ≤ 160 → mPar (rdNow M) v → mFr M F →
    ∃ acc' M' F', lq3 (f_X9_cutsWord_L4 (iz (w : Int))) f (iz acc) (iz (i : Int)) M = some (iz acc', M') ∧ mFr M' F' ∧ F' ++ [(acc', w, e)] = F ++ pieces v.2.2.1 (brk v q.1) w e rest i acc ∧ kF M M' := by
  have okq := hv.2.1 q (List.mem_of_getElem? hq)
  intro rest
  induction rest with
  | nil =>
    intro f i acc F M e0 e1 e2 e3 hm hF
    simp only [List.length_nil] at e1 e2
    obtain ⟨f, rfl⟩ : ∃ g, f = g + 1 := ⟨f - 1, by omega⟩
    obtain ⟨hw16, hl12, w1, w2, w3⟩ := hm.word hv hq
    refine ⟨acc, M, F, ?_, hF, rfl, kF.rf⟩
    rw [lq3_s]
    generalize lq3 (f_X9_cutsWord_L4 (iz (w : Int))) f = K
    unfold f_X9_cutsWord_L4
    rw [g_t (inB_n hw16 (by omega)), clN (by omega), w1, if_pos (le_cnt (by omega) (by omega))]
  | cons a rest ih =>
    intro f i acc F M e0 e1 e2 e3 hm hF
    rw [List.length_cons] at e1 e2
    obtain ⟨f, rfl⟩ : ∃ g, f = g + 1 := ⟨f - 1, by omega⟩
    obtain ⟨d1, d2⟩ := drop_step e0
    obtain ⟨hw16, hl12, w1, w2, w3⟩ := hm.word hv hq
    have ha8 := okq.1.2.2 a (List.mem_of_getElem? d1)
    have i2 : (12 : Int32) * iz (w : Int) + iz (i : Int) = iz ((12 * w + i : Nat) : Int) := by
      rw [show (12 : Int32) = iz (12 : Int) from rfl, iz_mul, iz_add]; congr 1
    have hmb := m_mayB hv hm hq (p := i) (by omega)
    have wd : ∀ M', mPar (rdNow M') v → gi M' 141 a = iz (v.2.2.1 a) := fun M' h' => by
      have e := h'.2.2.2.2.1 a ha8
      have e5 := rd_in M' (k := 141) (n := 8) (c := 0) (by omega) a ha8
      rw [Nat.zero_add] at e5
      rw [← e5, e]
    by_cases r : brk v q.1 i = true
    · have e4 : pieces v.2.2.1 (brk v q.1) w e (a :: rest) i acc = (acc, w, 1) :: pieces v.2.2.1 (brk v q.1) w e rest (i + 1) (v.2.2.1 a) := by
        show (if brk v q.1 i = true then _ else _) = _
        rw [if_pos r]
      rw [e4, List.length_cons] at e3
      obtain ⟨M1, m1, m2, m3⟩ := m_cuts hF (by omega) acc w 1 (by omega)
      have hm1 := m3.par hv hm
      obtain ⟨acc', M', F', n1, n2, n3, n4⟩ := ih f (i + 1) (v.2.2.1 a) (F ++ [(acc, w, 1)]) M1 d2 (by omega) (by omega) (by rw [List.length_append]; show F.length + 1 + _ ≤ 160; omega) hm1 m2
      refine ⟨acc', M', F', ?_, n2, ?_, m3.tr n4⟩
      · rw [lq3_s]
        generalize lq3 (f_X9_cutsWord_L4 (iz (w : Int))) f = K at n1 ⊢
        have m1' : f_X9_cuts (iz (w : Int)) (iz acc) (1 : Int32) M = some M1 := m1
        obtain ⟨-, -, -, w2', -⟩ := hm1.word hv hq
        unfold f_X9_cutsWord_L4
        rw [g_t (inB_n hw16 (by omega)), clN (by omega), w1, if_neg (nle_cnt (by omega) (by omega)), hmb, b_s1, if_pos r, if_neg (by decide), m1', b_s1, b_s2, i2, g_t (inB_n (by omega) (by omega)), clN (by omega), w2' i a d1, g_t (inB_n ha8 (by omega)), nmq_q, nmq_q, clN (by omega), wd M1 hm1, iz_s]
        have ez : (0 : Int32) + iz (v.2.2.1 a) = iz (v.2.2.1 a) := Int32.zero_add _
        rw [ez]; exact n1
      · rw [e4, n3, List.append_assoc]; rfl
    · have e4 : pieces v.2.2.1 (brk v q.1) w e (a :: rest) i acc = pieces v.2.2.1 (brk v q.1) w e rest (i + 1) (acc + v.2.2.1 a) := by
        show (if brk v q.1 i = true then _ else _) = _
        rw [if_neg r]
      rw [e4] at e3
      obtain ⟨acc', M', F', n1, n2, n3, n4⟩ := ih f (i + 1) (acc + v.2.2.1 a) F M d2 (by omega) (by omega) e3 hm hF
      refine ⟨acc', M', F', ?_, n2, ?_, n4⟩
      · rw [lq3_s]
        generalize lq3 (f_X9_cutsWord_L4 (iz (w : Int))) f = K at n1 ⊢
        unfold f_X9_cutsWord_L4
        rw [g_t (inB_n hw16 (by omega)), clN (by omega), w1, if_neg (nle_cnt (by omega) (by omega)), hmb, b_s1, if_neg r, if_pos rfl, b_s2, i2, g_t (inB_n (by omega) (by omega)), clN (by omega), w2 i a d1, g_t (inB_n ha8 (by omega)), nmq_q, nmq_q, clN (by omega), wd M hm, iz_s, iz_add]
        exact n1
      · rw [e4]; exact n3
theorem m_cutW {v : PV} (hv : okV v) {w : Nat} {q : Word} (hq : v.1[w]? = some q) {F : List Fr} {M : Mem} (hl : F.length + 10 ≤ 160) (hm : mPar (rdNow M) v) (hF : mFr M F) :
    ∃ M', f_X9_cutsWord (iz (w : Int)) M = some M' ∧ mFr M' (F ++ pieces v.2.2.1 (brk v q.1) w (endW q (v.1.drop (w + 1))) q.1 0 0) ∧ kF M M' := by
  obtain ⟨hw16, hl12, w1, w2, w3⟩ := hm.word hv hq
  have okq := hv.2.1 q (List.mem_of_getElem? hq)
  have hwl : w < v.1.length := (List.getElem?_eq_some_iff.mp hq).1
  have h16 := hv.1
  have h10 := pieces_len10 (v := v) (l := q.1) hl12 (n := w) (e := endW q (v.1.drop (w + 1)))
  obtain ⟨acc', M1, F', n1, n2, n3, n4⟩ := m_cutL hv hq (endW q (v.1.drop (w + 1))) q.1 FU 0 0 F M rfl (by rw [FU_eq]; omega) (by omega) (by omega) hm hF
  have hm1 := n4.par hv hm
  obtain ⟨-, -, -, -, w3'⟩ := hm1.word hv hq
  have hlen := congrArg List.length n3
  rw [List.length_append, List.length_append] at hlen
  have hlen : F'.length + 1 = F.length + (pieces v.2.2.1 (brk v q.1) w (endW q (v.1.drop (w + 1))) q.1 0 0).length := hlen
  obtain ⟨M', m1, m2, m3⟩ := m_cuts n2 (by omega) acc' w (endW q (v.1.drop (w + 1))) (by have := (endW_le q (v.1.drop (w + 1))).1; omega)
  refine ⟨M', ?_, by rw [← n3]; exact m2, n4.tr m3⟩
  unfold f_X9_cutsWord
  have n1' : lq3 (f_X9_cutsWord_L4 (iz (w : Int))) FU (0 : Int32) (0 : Int32) M = some (iz acc', M1) := n1
  have ee : (if iz (q.2 : Int) = (1 : Int32) then ((2 : Int32)) else (if iz (w : Int) = ((gi M1 139 9) - (1 : Int32)) then ((3 : Int32)) else ((0 : Int32)))) = iz (endW q (v.1.drop (w + 1)) : Int) := by
    have hq2 := okq.2
    unfold endW
    rw [hm1.count, show (1 : Int32) = iz (1 : Int) from rfl, iz_sub, List.length_drop]
    by_cases s : q.2 = 1
    · rw [if_pos s, if_pos (show iz (q.2 : Int) = iz (1 : Int) by rw [s]; rfl)]; rfl
    · rw [if_neg s, if_neg (neq_iz (by omega) (by omega) (by omega) (by omega) (by omega))]
      by_cases t : w = v.1.length - 1
      · rw [if_pos (show iz (w : Int) = iz ((v.1.length : Int) - 1) by congr 1; omega), if_pos (by omega)]; rfl
      · rw [if_neg (neq_iz (by omega) (by omega) (by omega) (by omega) (by omega)), if_neg (by omega)]; rfl
  rw [n1', b_s2, g_t (inB_n hw16 (by omega)), nmq_q, clN (by omega), w3', ee, m1, b_s1]
theorem m_findFL {v : PV} (hv : okV v) : ∀ (rest : List Word) (f i : Nat) (F : List Fr) (M : Mem), v.1.drop i = rest → rest.length < f → i + rest.length = v.1.length → F.length + 10 * rest.length ≤ 160 → mPar (rdNow M) v → mFr M F →
    ∃ M', lq2 f_X9_findFragments_L7 f (iz (i : Int)) M = some M' ∧ mFr M' (F ++ frs v i rest) ∧ kF M M' := by
  intro rest
  induction rest with
  | nil =>
    intro f i F M e0 e1 e2 e3 hm hF
    simp only [List.length_nil] at e1 e2
    obtain ⟨f, rfl⟩ : ∃ g, f = g + 1 := ⟨f - 1, by omega⟩
    have h16 := hv.1
    refine ⟨M, ?_, ?_, kF.rf⟩
    · rw [lq2_s]
      generalize lq2 f_X9_findFragments_L7 f = K
      unfold f_X9_findFragments_L7
      rw [hm.count, if_pos (le_cnt (by omega) (by omega))]
    · show mFr M (F ++ [])
      rw [List.append_nil]; exact hF
  | cons q rest ih =>
    intro f i F M e0 e1 e2 e3 hm hF
    rw [List.length_cons] at e1 e2 e3
    obtain ⟨f, rfl⟩ : ∃ g, f = g + 1 := ⟨f - 1, by omega⟩
    obtain ⟨d1, d2⟩ := drop_step e0
    have h16 := hv.1
    have okq := hv.2.1 q (List.mem_of_getElem? d1)
    obtain ⟨M1, m1, m2, m3⟩ := m_cutW hv d1 (by omega) hm hF
    rw [d2] at m2
    have h10 := pieces_len10 (v := v) (l := q.1) okq.1.2.1 (n := i) (e := endW q rest)
    obtain ⟨M', n1, n2, n3⟩ := ih f (i + 1) _ M1 d2 (by omega) (by omega) (by rw [List.length_append]; omega) (m3.par hv hm) m2
    refine ⟨M', ?_, ?_, m3.tr n3⟩
    · rw [lq2_s]
      generalize lq2 f_X9_findFragments_L7 f = K at n1 ⊢
      unfold f_X9_findFragments_L7
      rw [hm.count, if_neg (nle_cnt (by omega) (by omega)), m1, b_s1, nmq_q, iz_s]; exact n1
    · show mFr M' (F ++ (pieces v.2.2.1 (brk v q.1) i (endW q rest) q.1 0 0 ++ frs v (i + 1) rest))
      rw [← List.append_assoc]; exact n2
theorem m_findF {v : PV} (hv : okV v) {M : Mem} (hm : mPar (rdNow M) v) : ∃ M', f_X9_findFragments M = some M' ∧ mFr M' (frs v 0 v.1) ∧ kF M M' := by
  have h16 := hv.1
  have k0 : kF M (si M 139 25 (0 : Int32)) := ⟨sameOn.si (by omega), fun j hj => by rw [gi_si, if_neg (by omega)]⟩
  obtain ⟨M', m1, m2, m3⟩ := m_findFL hv v.1 FU 0 [] (si M 139 25 (0 : Int32)) rfl (by rw [FU_eq]; omega) (by omega) (by show 0 + 10 * v.1.length ≤ 160; omega) (k0.par hv hm) ⟨by rw [gi_si, if_pos ⟨rfl, rfl⟩]; rfl, fun i hi => by
    have hi : i ≤ 0 := hi
    have : i = 0 := by omega
    rw [this]
    show _ = _ + iz 0 ∧ _ = _ + iz 0
    rw [iz_0, Int32.add_zero, Int32.add_zero]; exact ⟨rfl, rfl⟩, fun i hi => by simp at hi⟩
  refine ⟨M', ?_, m2, k0.tr m3⟩
  unfold f_X9_findFragments
  rw [nmq_q, b1_id]; exact m1
