/-! forces -/
theorem c_has {M : Mem} {k : Nat} {n : Nat} (h : gi M k 3 = iz (n : Int)) (hn : n ≤ 16) {z : Int} (h1 : -2147483648 ≤ z) (h2 : z < 2147483648) : f_X7_has k (iz z) M = some (if 0 ≤ z ∧ z < n then 1 else 0) := by
  unfold f_X7_has
  rw [h]
  by_cases q1 : z < 0
  · rw [if_pos (show iz z < 0 from lt_iz (b := 0) h1 h2 (by omega) (by omega) q1), if_neg (by omega)]
  rw [if_neg (show ¬ iz z < 0 from nlt_iz (b := 0) h1 h2 (by omega) (by omega) q1)]
  by_cases q2 : (n : Int) ≤ z
  · rw [if_pos (le_iz (by omega) (by omega) h1 h2 q2), if_neg (by omega)]
  · rw [if_neg (nle_iz (by omega) (by omega) h1 h2 q2), if_pos (by omega)]
theorem m_isWord {M : Mem} {n : Nat} (h : gi M 139 9 = iz (n : Int)) (hn : n ≤ 16) {z : Int} (h1 : -2147483648 ≤ z) (h2 : z < 2147483648) : f_X9_isWord (iz z) M = some (if 0 ≤ z ∧ z < n then 1 else 0) := by
  unfold f_X9_isWord
  have e : f_X9_isIn (iz z) (0 : Int32) (gi M 139 9 - 1) = some (if 0 ≤ z ∧ z ≤ (n : Int) - 1 then 1 else 0) := by
    rw [h, show (1 : Int32) = iz (1 : Int) from rfl, iz_sub]
    exact m_isIn (z := z) (lo := 0) (hi := (n : Int) - 1) h1 h2 (by omega) (by omega) (by omega) (by omega)
  rw [e, b_s1]
  by_cases q : 0 ≤ z ∧ z < n
  · rw [if_pos q, if_pos (show 0 ≤ z ∧ z ≤ (n : Int) - 1 by omega)]; exact g_t (Or.inr rfl)
  · rw [if_neg q, if_neg (show ¬ (0 ≤ z ∧ z ≤ (n : Int) - 1) by omega)]; exact g_t (Or.inl rfl)
theorem mPar.count {M : Mem} {v : PV} (h : mPar (rdNow M) v) : gi M 139 9 = iz v.1.length := by
  rw [← h.1, rd_fld (j := 9) _ (by omega) (by omega)]
def turnW (ws : List Word) (a : Nat) (q : Word) : List Word := ws.set a (q.1, 1 - q.2)
theorem ch_forces {v : PV} (hv : okN v) {a : Nat} {q : Word} (ha : v.1[a]? = some q) :
    chC (fun (M4 : Mem) => bq2 (f_X7_turnForced 3 (iz (a : Int)) M4) (fun (x6 : Int32) (M7 : Mem) => some (x6, M7))) v (turnW v.1 a q, v.2) (iz ((1 - q.2 : Nat) : Int)) ∧
    chM (fun (M4 : Mem) => gq (inB (iz (a : Int)) 16) (gq (inB (iz (a : Int)) 16) (nmq (si M4 144 ((iz (a : Int) : Int32).toNatClampNeg) ((1 : Int32) - (gi M4 144 ((iz (a : Int) : Int32).toNatClampNeg)))) (fun (M8 : Mem) => gq (inB (iz (a : Int)) 16) (some ((gi M8 144 ((iz (a : Int) : Int32).toNatClampNeg)), M8)))))) v (turnW v.1 a q, v.2) (iz ((1 - q.2 : Nat) : Int)) := by
  have hl : a < v.1.length := (List.getElem?_eq_some_iff.mp ha).1
  have h16 : a < 16 := by have := hv.1.1; omega
  have hq := hv.1.2.1 q (List.mem_of_getElem? ha)
  have e1 : (1 : Int32) - iz (q.2 : Int) = iz ((1 - q.2 : Nat) : Int) := by
    rw [show (1 : Int32) = iz (1 : Int) from rfl, iz_sub]; congr 1; have := hq.2; omega
  have hset : ∀ (w : Nat) (q' : Word), (turnW v.1 a q)[w]? = some q' → (w = a ∧ q' = (q.1, 1 - q.2)) ∨ (w ≠ a ∧ v.1[w]? = some q') := fun w q' hw => by
    unfold turnW at hw
    rw [List.getElem?_set] at hw
    by_cases r : a = w
    · rw [if_pos r, if_pos (by omega)] at hw
      cases hw; exact Or.inl ⟨r.symm, rfl⟩
    · rw [if_neg r] at hw
      exact Or.inr ⟨fun e => r e.symm, hw⟩
  have hlen : (turnW v.1 a q).length = v.1.length := List.length_set
  refine ⟨fun M h => ⟨si M 6 a (iz ((1 - q.2 : Nat) : Int)), ?_, ?_, sameOn.si (by omega)⟩, fun M h => ⟨si M 144 a (iz ((1 - q.2 : Nat) : Int)), ?_, ?_, sameOn.si (by omega), fun j hj => by rw [gi_si, if_neg (by omega)]⟩⟩
  · have al : alen 6 = 16 := rfl
    have e0 : gi M 6 a = iz q.2 := (h.1.2 a q ha).2.2
    show bq2 (bq1 (f_X8_at 6 _ _) _) _ = _
    rw [c_at al (by omega) h16, b_s1]
    show bq2 (bq1 (f_X8_put 6 _ _ _) _) _ = _
    rw [c_put al (by omega) h16, b_s1]
    show bq2 (bq1 (f_X8_at 6 _ _) _) _ = _
    rw [c_at al (by omega) h16, b_s1, b_s2, e0, e1, gi_si, if_pos ⟨rfl, rfl⟩]
  · obtain ⟨h1, h2, h3, h4⟩ := h
    refine ⟨⟨?_, fun w q' hw => ?_⟩, h2.same (sameOn.si (by omega)), fun j hj => ?_, fun j hj => ?_⟩
    · rw [gi_si, if_neg (by omega)]; exact h1.1.trans (by rw [← hlen])
    · rcases hset w q' hw with ⟨r1, r2⟩ | ⟨r1, r2⟩
      · obtain ⟨b1, b2, b3⟩ := h1.2 a q ha
        rw [r1, r2]
        exact ⟨b1, by rw [gi_si, if_neg (by omega)]; exact b2, by rw [gi_si, if_pos ⟨rfl, rfl⟩]⟩
      · obtain ⟨b1, b2, b3⟩ := h1.2 w q' r2
        exact ⟨b1, by rw [gi_si, if_neg (by omega)]; exact b2, by rw [gi_si, if_neg (by omega)]; exact b3⟩
    · rw [gi_si, if_neg (by omega)]; exact h3 j hj
    · rw [gi_si, if_neg (by omega)]; exact h4 j hj
  · have e0 : gi M 144 a = iz q.2 := by
      rw [← rd_in M (k := 144) (n := 16) (c := 216) (by omega) a h16]
      exact (h.2.1 a q ha).2.2
    show gq _ _ = _
    rw [g_t (inB_n h16 (by omega)), g_t (inB_n h16 (by omega)), nmq_q, g_t (inB_n h16 (by omega)), clN (by omega), e0, e1, gi_si, if_pos ⟨rfl, rfl⟩]
  · have hb : blkOf 144 16 216 := by unfold blkOf; omega
    have hr := fun o ho => rd_si (M := M) (x := iz ((1 - q.2 : Nat) : Int)) hb h16 o ho
    refine h.words hv.1 ?_ (fun w q' hw => ?_) (fun o ho => ?_)
    · rw [hr _ (by omega), if_neg (by omega), h.1, hlen]
    · have hw16 : w < 16 := by have := (List.getElem?_eq_some_iff.mp hw).1; have := hv.1.1; omega
      rcases hset w q' hw with ⟨r1, r2⟩ | ⟨r1, r2⟩
      · obtain ⟨b1, b2, b3⟩ := h.2.1 a q ha
        rw [r1, r2]
        refine ⟨by rw [hr _ (by omega), if_neg (by omega)]; exact b1, fun k x hk => ?_, by rw [hr _ (by omega), if_pos rfl]⟩
        have hk2 : k < 12 := Nat.lt_of_lt_of_le (List.getElem?_eq_some_iff.mp hk).1 hq.1.2.1
        rw [hr _ (by omega), if_neg (by omega)]; exact b2 k x hk
      · obtain ⟨b1, b2, b3⟩ := h.2.1 w q' r2
        refine ⟨by rw [hr _ (by omega), if_neg (by omega)]; exact b1, fun k x hk => ?_, by rw [hr _ (by omega), if_neg (by omega)]; exact b3⟩
        have hk2 : k < 12 := Nat.lt_of_lt_of_le (List.getElem?_eq_some_iff.mp hk).1 (hv.1.2.1 q' (List.mem_of_getElem? r2)).1.2.1
        rw [hr _ (by omega), if_neg (by omega)]; exact b2 k x hk
    · rw [hr _ (by omega), if_neg (by omega)]
theorem op_forces {M : Mem} (hI : Inv M) (p : Int32) : both M (f_X8_forces p) (f_X9_forces p) := by
  have hI' := hI
  obtain ⟨now, img, st, ct, hist, ls, rw_, R, hg, hC, hM⟩ := hI
  obtain ⟨z, z1, z2, rfl⟩ := iz_ex p
  have hf' : f_X8_forces (iz z) M = _ := b1_some (c_has hC.1.1.1 hg.1.1.1 z1 z2)
  have hg' : ∀ M', gi M' 139 9 = gi M 139 9 → f_X9_forces (iz z) M' = _ := fun M' e => b1_some (m_isWord (e.trans hM.1.count) hg.1.1.1 z1 z2)
  by_cases q : 0 ≤ z ∧ z < now.1.length
  · rw [if_pos q] at hf'
    obtain ⟨a, rfl⟩ : ∃ a : Nat, z = (a : Int) := ⟨z.toNat, by omega⟩
    have ha : now.1[a]? = some now.1[a] := List.getElem?_eq_getElem (by omega)
    refine both_change' hg hC hM (hf'.trans (if_neg (by decide))) (fun M' hs => ?_) ⟨_, _, ?_, (ch_forces hg.1 ha).1, (ch_forces hg.1 ha).2⟩
    · have h1 := hg' M' (by rw [(hs 139 (by omega)).1])
      rw [if_pos q] at h1
      exact h1.trans (if_neg (by decide))
    · obtain ⟨⟨v1, v2, v3⟩, h0⟩ := hg.1
      refine ⟨⟨by show (turnW _ _ _).length ≤ 16; unfold turnW; rw [List.length_set]; exact v1, fun w hw => ?_, v3⟩, h0⟩
      have hw : w ∈ turnW now.1 a now.1[a] := hw
      unfold turnW at hw
      rcases List.mem_or_eq_of_mem_set hw with r | r
      · exact v2 w r
      · have := v2 _ (List.mem_of_getElem? ha)
        rw [r]; exact ⟨this.1, by show 1 - _ ≤ 1; omega⟩
  · rw [if_neg q] at hf'
    refine both_no' hI' (v := 1) (by omega) (hf'.trans ?_) (fun M' hs => ?_)
    · show (if (0 : Int32) = 0 then _ else _) = _
      rw [if_pos rfl, b2_id]; rfl
    · have h1 := hg' M' (by rw [(hs 139 (by omega)).1])
      rw [if_neg q] at h1
      refine h1.trans ?_
      show (if (0 : Int32) = 0 then _ else _) = _
      rw [if_pos rfl, b2_id]; rfl
