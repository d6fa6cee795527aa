/-! .. by the reference too; and what a changing call is -/
variable {M M' : Mem} {now now' : PV} {img : Option PV} {st ct : Nat} {hist : Nat → PV} {ls rw_ : List Nat} {R : Nat → Int32}
theorem m_remember (hg : okG now img st ct hist ls rw_) (h : IM M now img st ct hist ls rw_ R) :
    ∃ M', f_X9_remembers M = some M' ∧ IM M' now img (pushSt st ct) (pushCt ct) (pushH st ct hist now) ls rw_ R ∧ sameOn (fun k => k ≠ 139 ∧ k ≠ 163) M M' := by
  have hI := h
  obtain ⟨h1, h2, h3, ⟨h4, h5, h6⟩, h7⟩ := h
  have hg0 := hg
  obtain ⟨g1, g2, g3, g4, g5, g6⟩ := hg
  obtain ⟨M1, e1, r1, r2, r3, s1⟩ : ∃ M1, (if (gi M 139 46) = (8 : Int32) then (nmq (si M 139 45 (irm ((gi M 139 45) + (1 : Int32)) (8 : Int32))) (fun (M8 : Mem) => (some (M8)))) else (nmq (si M 139 46 ((gi M 139 46) + (1 : Int32))) (fun (M7 : Mem) => (some (M7))))) = some M1 ∧ gi M1 139 45 = iz (pushSt st ct : Nat) ∧ gi M1 139 46 = iz (pushCt ct : Nat) ∧ (∀ j, j < 45 ∨ 47 ≤ j → gi M1 139 j = gi M 139 j) ∧ sameOn (fun k => k ≠ 139) M M1 := by
    by_cases q : ct = 8
    · have q0 : gi M 139 46 = (8 : Int32) := by rw [h5, q]; rfl
      have e : irm (gi M 139 45 + (1 : Int32)) (8 : Int32) = iz (pushSt st ct : Nat) := by
        rw [h4, iz_s, show (8 : Int32) = iz (8 : Int) from rfl, iz_irm (by omega) (by omega) (by omega) (by omega)]
        unfold pushSt; rw [if_pos q]; rfl
      refine ⟨si M 139 45 (iz (pushSt st ct : Nat)), ?_, ?_, ?_, fun j hj => ?_, sameOn.si (by omega)⟩
      · rw [if_pos q0, nmq_q, e]
      · rw [gi_si, if_pos ⟨rfl, rfl⟩]
      · rw [gi_si, if_neg (by omega), q0]; unfold pushCt; rw [if_pos q]; rfl
      · rw [gi_si, if_neg (by omega)]
    · have q0 : ¬ gi M 139 46 = (8 : Int32) := by
        rw [h5]; exact fun e => q ((iz_cnt (n := ct) (m := 8) (by omega) (by omega)).2.1.mp e)
      refine ⟨si M 139 46 (iz ((ct + 1 : Nat) : Int)), ?_, ?_, ?_, fun j hj => ?_, sameOn.si (by omega)⟩
      · rw [if_neg q0, nmq_q, h5, iz_s]
      · rw [gi_si, if_neg (by omega), h4]; unfold pushSt; rw [if_neg q]
      · rw [gi_si, if_pos ⟨rfl, rfl⟩]; unfold pushCt; rw [if_neg q]
      · rw [gi_si, if_neg (by omega)]
  have hsl8 : (st + ct) % 8 < 8 := Nat.mod_lt _ (by omega)
  have hp1 : 1 ≤ pushCt ct ∧ pushCt ct ≤ 8 := by unfold pushCt; split <;> omega
  have hp2 : pushSt st ct < 8 := pushSt_lt g3
  have hsl : (pushSt st ct + pushCt ct - 1) % 8 = (st + ct) % 8 := by unfold pushSt pushCt; split <;> omega
  have ew : (3 : Int32) + (irm (((gi M1 139 45) + (gi M1 139 46)) - (1 : Int32)) (8 : Int32)) = iz ((3 + (st + ct) % 8 : Nat) : Int) := by
    rw [r1, r2, iz_add, show (1 : Int32) = iz (1 : Int) from rfl, iz_sub, show (8 : Int32) = iz (8 : Int) from rfl, iz_irm (by omega) (by omega) (by omega) (by omega), show (3 : Int32) = iz (3 : Int) from rfl, iz_add, ← hsl]
    congr 1; omega
  obtain ⟨M2, e2, t1, t2, t3, t4, t5⟩ := m_keep (M := M1) (w := 3 + (st + ct) % 8) (by omega)
  refine ⟨M2, ?_, ?_, (s1.mono (fun k hk => by omega)).tr t5⟩
  · unfold f_X9_remembers
    rw [e1, b_s1, ew, e2, b_s1]
  · have hnow : mPar (rdNow M1) now := h1.congr g1.1 (rdNow.congr (s1.mono (fun a ha => by omega)) (fun j q1 q2 => r3 j (by omega)))
    have hseg : ∀ (v : PV) (s : Nat), okV v → s ≤ 10 → s ≠ 3 + (st + ct) % 8 → mPar (rdSeg M s) v → mPar (rdSeg M2 s) v := fun v s hv hs8 hne hp => by
      refine hp.congr hv (fun o ho => ?_)
      unfold rdSeg
      rw [t1, if_neg (by omega), (s1 163 (by omega)).1]
    refine hI.setHist hg0 (((s1.mono (fun k hk => by omega)).tr (t5.mono (fun k hk => by omega)))) (fun j hj => (t3 j (by omega)).trans (r3 j (by omega))) (fun x hx => ?_) ⟨?_, ?_, fun a ha => ?_⟩
    · rw [t1, if_neg (by omega), (s1 163 (by omega)).1]
    · rw [t3 45 (by omega)]; exact r1
    · rw [t3 46 (by omega)]; exact r2
    · unfold pushH
      rcases push_of g3 g4 ha with q | ⟨b, q1, q2, q3⟩
      · rw [q, if_pos rfl]
        refine hnow.congr g1.1 (fun o ho => ?_)
        unfold rdSeg
        rw [t1, if_pos (by omega)]; congr 1; omega
      · rw [q2, if_neg q3]
        have hb8 : (st + b) % 8 < 8 := Nat.mod_lt _ (by omega)
        exact hseg _ _ (g5 b q1).1 (by omega) (by omega) (h6 b q1)
/-- the class's part of a change -/
def chC (F : Mem → Option (Int32 × Mem)) (now now' : PV) (r : Int32) : Prop := ∀ M, cPar M 1 now → ∃ M', F M = some (r, M') ∧ cPar M' 1 now' ∧ sameOn (fun k => k = 0 ∨ 12 ≤ k) M M'
/-- the reference's -/
def chM (G : Mem → Option (Int32 × Mem)) (now now' : PV) (r : Int32) : Prop := ∀ M, mPar (rdNow M) now → ∃ M', G M = some (r, M') ∧ mPar (rdNow M') now' ∧ sameOn (fun k => k < 139 ∨ k = 140 ∨ k = 156 ∨ k = 163 ∨ k = 168) M M' ∧ fldM (fun j => 21 ≤ j) M M'
theorem both_change {M : Mem} {f g F G : Mem → Option (Int32 × Mem)} (hI : Inv M) (hf : f M = bq1 (f_X1_remember 1 M) F) (hg' : ∀ M', g M' = bq1 (f_X9_remembers M') G)
    (h : ∀ now, okN now → cPar M 1 now → mPar (rdNow M) now → ∃ r now', okN now' ∧ chC F now now' r ∧ chM G now now' r) : both M f g := by
  obtain ⟨now, img, st, ct, hist, ls, rw_, R, hg, hC, hM⟩ := hI
  obtain ⟨r, now', hn, hF, hG⟩ := h now hg.1 hC.1 hM.1
  obtain ⟨M1, e1, c1, s1⟩ := c_remember hg hC
  obtain ⟨M2, e2, c2, s2⟩ := hF M1 c1.1
  have hM2 := hM.same hg ((s1.mono (fun k hk => by omega)).tr (s2.mono (fun k hk => by omega) : sameOn (fun k => 139 ≤ k) M1 M2))
  obtain ⟨M3, e3, c3, s3⟩ := m_remember hg hM2
  obtain ⟨M4, e4, c4, s4, f4⟩ := hG M3 c3.1
  refine ⟨r, M2, M4, by rw [hf, e1, b_s1]; exact e2, by rw [hg', e3, b_s1]; exact e4, now', img, _, _, _, ls, rw_, R, hg.push.setN hn, ?_, ?_⟩
  · refine IC.same ?_ (s4.mono (fun k hk => by omega))
    refine IC.same ?_ (s3.mono (fun k hk => by omega))
    exact c1.setNow (s2.mono (fun k hk => by omega)) c2
  · exact c3.setNow hg.push (s4.mono (fun k hk => by omega)) f4 c4
