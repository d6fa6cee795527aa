/-! sheet: the reference's, and both -/
theorem m_sheet {M : Mem} {now : PV} {img : Option PV} {st ct : Nat} {hist : Nat → PV} {ls rw_ : List Nat} {R : Nat → Int32} (hg : okG now img st ct hist ls rw_) (hM : IM M now img st ct hist ls rw_ R) : ∃ M', f_X9_sheet M = some (iz (shV ls now), M') ∧ IM M' (shW ls now) img st (shC ls now ct) hist [] rw_ R ∧ okN (shW ls now) ∧ sameOn (fun k => k < 139) M M' := by
  have hl : okSh ls := ⟨hg.2.2.2.2.2.1, hg.2.2.2.2.2.2.1⟩
  have h96 := hl.1
  have hs : mSh M ls := hM.2.2.2.2.1
  have hst := hM.2.2.2.1
  obtain ⟨M2, e2⟩ : ∃ M2, M2 = si (si M 139 37 (0 : Int32)) 139 38 (0 : Int32) := ⟨_, rfl⟩
  have s2 : sameOn (fun k => k ≠ 139) M M2 := by rw [e2]; exact (sameOn.si (by omega)).tr (sameOn.si (by omega))
  have f2 : ∀ j, j ≠ 37 → j ≠ 38 → gi M2 139 j = gi M 139 j := fun j h1 h2 => by rw [e2, gi_si, if_neg (by omega), gi_si, if_neg (by omega)]
  obtain ⟨M8, m1, m2⟩ := m_pass1 hl (M := M2) ⟨(f2 36 (by omega) (by omega)).trans hs.1, fun i a ha => by rw [(s2 156 (by omega)).1]; exact hs.2 i a ha⟩ (by rw [e2, gi_si, if_neg (by omega), gi_si, if_pos ⟨rfl, rfl⟩]) (by rw [e2, gi_si, if_pos ⟨rfl, rfl⟩])
  obtain ⟨M9, e9⟩ : ∃ M9, M9 = si M8 139 36 (0 : Int32) := ⟨_, rfl⟩
  have s9 : sameOn (fun k => k ≠ 139) M8 M9 := by rw [e9]; exact sameOn.si (by omega)
  have f9 : ∀ j, j ≠ 36 → j ≠ 37 → j ≠ 38 → j ≠ 39 → gi M9 139 j = gi M 139 j := fun j h0 h1 h2 h3 => by rw [e9, gi_si, if_neg (by omega), m2.2 j h1 h2 h3, f2 j h1 h2]
  have sA : sameOn (fun k => k ≠ 139 ∧ (k < 157 ∨ 161 < k)) M M9 := ((s2.mono (fun a ha => by omega)).tr m2.1).tr (s9.mono (fun a ha => by omega))
  have hm9 : mPar (rdNow M9) now := hM.1.congr hg.1.1 (rdNow.congr (sA.mono (fun a ha => by omega)) (fun j h1 h2 => f9 j (by omega) (by omega) (by omega) (by omega)))
  have h36 : gi M9 139 36 = 0 := by rw [e9, gi_si, if_pos ⟨rfl, rfl⟩]
  have hpre : ∀ x7, lq2 f_X9_sheet_L12 FU (1 : Int32) M2 = some (x7, M8) → f_X9_sheet M = (if x7 = 0 then some (((-1000 : Int32) - (gi M9 139 37)), M9) else (bq1 (f_X9_passesAll (1 : Int32) (1 : Int32) M9) (fun (M11 : Mem) => (lq2 f_X9_sheet_L86 FU (0 : Int32) M11)))) := fun x7 hx => by
    unfold f_X9_sheet
    rw [nmq_q, nmq_q, ← e2, hx, b_s2, nmq_q, ← e9]
  unfold shV shW shC
  cases hp : (par0 ls).2 with
  | some e =>
    rw [hp] at m1
    obtain ⟨m1a, m1b⟩ := m1
    refine ⟨M9, ?_, hM.sheet hg (sA.mono (fun a ha => by omega)) (fun x _ => by rw [(sA 163 (by omega)).1]) (f9 42 (by omega) (by omega) (by omega) (by omega)) (f9 45 (by omega) (by omega) (by omega) (by omega)) (f9 52 (by omega) (by omega) (by omega) (by omega)) ((f9 46 (by omega) (by omega) (by omega) (by omega)).trans hst.2.1) (Nat.le_refl _) h36 hm9, hg.1, sA.mono (fun a ha => by omega)⟩
    rw [hpre _ m1a, if_pos rfl, e9, gi_si, if_neg (by omega), m1b, show (-1000 : Int32) = iz (-1000 : Int) by decide, iz_sub]
  | none =>
    rw [hp] at m1
    obtain ⟨m1a, m1b, m1c⟩ := m1
    obtain ⟨M11, k1, k2, -, k3, -, k5⟩ := m_keep (M := M9) (w := 1) (by omega)
    have k1 : f_X9_passesAll (1 : Int32) (1 : Int32) M9 = some M11 := k1
    have hm11 : mPar (rdNow M11) now := hm9.congr hg.1.1 (rdNow.congr (k5.mono (fun a ha => by omega)) (fun j h1 h2 => k3 j (by omega)))
    have e0 := par0_96 hl hp
    rw [e0] at m1b m1c ⊢
    have hgood := par_good (ls := ls) 96 0 (by omega)
    have hsg : mSg M11 ls := fun i a ha => by rw [(k5 156 (by omega)).1, (sA 156 (by omega)).1]; exact hs.2 i a ha
    have hrec : recsM M11 ls (par ls 96 0).1 := fun t s ht => ((m1c t s ht).same (s9.mono (fun a ha => by omega))).same (k5.mono (fun a ha => by omega))
    have h38 : gi M11 139 38 = iz (((par ls 96 0).1.length : Nat) : Int) := by rw [k3 38 (by omega), e9, gi_si, if_neg (by omega)]; exact m1b
    obtain ⟨M', r1, r2, r3⟩ := m_p2L hl (S := (par ls 96 0).1) (by omega) hgood.1 (rd0 := rdNow M9) (par ls 96 0).1 FU 0 now M11 List.drop_zero (by omega) (by rw [FU_eq]; omega) hg.1 hm11 hsg hrec h38 (fun o ho => by rw [k2, if_pos (by omega), show 295 + o - 295 * 1 = o by omega])
    have sB : sameOn (fun k => k < 139 ∨ k = 140 ∨ k = 168) M M' := ((sA.mono (fun a ha => by omega)).tr (k5.mono (fun a ha => by omega))).tr (r2.mono (fun a ha => by omega))
    have h163 : ∀ x, x < 292 ∨ 885 ≤ x → gi M' 163 x = gi M 163 x := fun x hx => by
      rw [(r2 163 (by omega)).1, k2, if_neg (by omega), (sA 163 (by omega)).1]
    have fB : ∀ j, j = 42 ∨ j = 45 ∨ j = 52 → gi M' 139 j = gi M 139 j := fun j hj => by rw [r3 j (by omega), k3 j (by omega), f9 j (by omega) (by omega) (by omega) (by omega)]
    have h36' : gi M' 139 36 = 0 := by rw [r3 36 (by omega), k3 36 (by omega)]; exact h36
    rw [hpre _ m1a, if_neg (by decide), k1, b_s1]
    cases ht : (tellL ls (par ls 96 0).1 now).2 with
    | some s =>
      rw [ht] at r1
      obtain ⟨q1, q2, q3⟩ := r1
      exact ⟨M', q1, hM.sheet hg (sB.mono (fun a ha => by omega)) h163 (fB 42 (by omega)) (fB 45 (by omega)) (fB 52 (by omega)) (by rw [q3, k3 46 (by omega), f9 46 (by omega) (by omega) (by omega) (by omega)]; exact hst.2.1) (Nat.le_refl _) h36' (hm9.congr hg.1.1 q2), hg.1, sB.mono (fun a ha => by omega)⟩
    | none =>
      rw [ht] at r1
      obtain ⟨q1, q2, q3, q4⟩ := r1
      exact ⟨M', q1, hM.sheet hg (sB.mono (fun a ha => by omega)) h163 (fB 42 (by omega)) (fB 45 (by omega)) (fB 52 (by omega)) q3 (Nat.zero_le _) h36' q2, q4, sB.mono (fun a ha => by omega)⟩
theorem op_sheet {M : Mem} (hI : Inv M) : both M f_X8_sheet f_X9_sheet := by
  obtain ⟨now, img, st, ct, hist, ls, rw_, R, hg, hC, hM⟩ := hI
  obtain ⟨M1, c1, c2, c3⟩ := c_sheet hg hC
  obtain ⟨M2, m1, m2, m3, m4⟩ := m_sheet hg (hM.same hg c3)
  have hct : shC ls now ct ≤ ct := by
    unfold shC
    repeat' split
    all_goals omega
  refine ⟨_, M1, M2, c1, m1, shW ls now, img, st, shC ls now ct, hist, [], rw_, R, ?_, c2.same m4, m2⟩
  obtain ⟨g1, g2, g3, g4, g5, g6, g7, g8, g9⟩ := hg
  exact ⟨m3, g2, g3, by omega, fun a ha => g5 a (by omega), by show (0 : Nat) ≤ 96; omega, (fun a ha => by cases ha), g8, g9⟩
