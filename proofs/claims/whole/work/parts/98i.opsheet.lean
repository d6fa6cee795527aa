/-! sheet: the call -/
theorem IC.sheet {M M' : Mem} {now now' : PV} {img : Option PV} {st ct ct' : Nat} {hist : Nat → PV} {ls rw_ : List Nat} {R : Nat → Int32} (h : IC M now img st ct hist ls rw_ R) (hs : sameOn (fun k => (k = 0 ∨ 23 ≤ k) ∧ k ≠ 124 ∧ k ≠ 34 ∧ k < 139) M M') (h1 : gi M' 34 1 = gi M 34 1) (h2 : gi M' 34 2 = iz (ct' : Int)) (hct : ct' ≤ ct) (h3 : gi M' 124 1 = 0) (hn : cPar M' 1 now') : IC M' now' img st ct' hist [] rw_ R := by
  obtain ⟨a1, a2, a3, ⟨a4, a5, a6⟩, ⟨a7, a8⟩, ⟨a9, a10⟩, a11⟩ := h
  refine ⟨hn, fun v hv => (a2 v hv).same (hs.mono (fun a ha => by omega)), by rw [(hs 0 (by omega)).1]; exact a3, ⟨h1.trans a4, h2, fun a ha => (a6 a (by omega)).same (hs.mono (fun b hb => by omega))⟩, ⟨h3, fun i a ha => by simp at ha⟩, ⟨by rw [(hs 0 (by omega)).1]; exact a9, fun i a ha => by rw [(hs 137 (by omega)).1]; exact a10 i a ha⟩, fun i hi => by rw [(hs 138 (by omega)).1]; exact a11 i hi⟩
theorem IM.sheet {M M' : Mem} {now now' : PV} {img : Option PV} {st ct ct' : Nat} {hist : Nat → PV} {ls rw_ : List Nat} {R : Nat → Int32} (hg : okG now img st ct hist ls rw_) (h : IM M now img st ct hist ls rw_ R) (hs : sameOn (fun k => k = 140 ∨ k = 168) M M') (h163 : ∀ x, x < 292 ∨ 885 ≤ x → gi M' 163 x = gi M 163 x) (h42 : gi M' 139 42 = gi M 139 42) (h45 : gi M' 139 45 = gi M 139 45) (h52 : gi M' 139 52 = gi M 139 52) (h46 : gi M' 139 46 = iz (ct' : Int)) (hct : ct' ≤ ct) (h36 : gi M' 139 36 = 0) (hn : mPar (rdNow M') now') : IM M' now' img st ct' hist [] rw_ R := by
  obtain ⟨a1, a2, a3, ⟨a4, a5, a6⟩, ⟨a7, a8⟩, ⟨a9, a10⟩, a11⟩ := h
  obtain ⟨g1, g2, g3, g4, g5, -⟩ := hg
  refine ⟨hn, fun v hv => (a2 v hv).congr (g2 v hv).1 (fun o ho => h163 _ (Or.inl (by omega))), h42.trans a3, ⟨h45.trans a4, h46, fun a ha => (a6 a (by omega)).congr (g5 a (by omega)).1 (fun o ho => h163 _ (Or.inr (by omega)))⟩, ⟨h36, fun i a ha => by simp at ha⟩, ⟨h52.trans a9, fun i a ha => by rw [(hs 168 (by omega)).1]; exact a10 i a ha⟩, fun i hi => by rw [(hs 140 (by omega)).1]; exact a11 i hi⟩
theorem erV_lt {o : Option Nat} (h : ∀ e, o = some e → e < 1000) : (iz (erV o) < 0 ↔ o = none) ∧ (0 ≤ iz (erV o) ↔ o ≠ none) := by
  cases o with
  | none => exact ⟨⟨fun _ => rfl, fun _ => by show iz (-1 : Int) < 0; decide⟩, fun h => absurd h (by show ¬ 0 ≤ iz (-1 : Int); decide), fun h => absurd rfl h⟩
  | some e =>
    have := h e rfl
    exact ⟨⟨fun t => absurd t (not_neg e (by omega)), (fun t => by cases t)⟩, (fun _ t => by cases t), fun _ => le_iz (a := 0) (b := (e : Int)) (by omega) (by omega) (by omega) (by omega) (by omega)⟩
theorem par_er {ls : List Nat} (hl : okSh ls) : ∀ d p e, p ≤ 96 → (par ls d p).2 = some e → e < 1000
  | 0, p, e, hp, h => by cases h
  | d + 1, p, e, hp, h => by
    have h96 := hl.1
    have e2 : par ls (d + 1) p = (if ls.length ≤ p then ([], none) else if (pst ls p).1 = true then (p :: (par ls d (pst ls p).2).1, (par ls d (pst ls p).2).2) else ([], some (pst ls p).2)) := rfl
    rw [e2] at h
    by_cases q0 : ls.length ≤ p
    · rw [if_pos q0] at h; cases h
    rw [if_neg q0] at h
    by_cases q : (pst ls p).1 = true
    · have := pst_ok q
      rw [if_pos q] at h
      exact par_er hl d _ e (by omega) h
    · rw [if_neg q] at h
      have h : some (pst ls p).2 = some e := h
      have := pst_le (ls := ls) (p := p)
      cases h; omega
theorem par0_er {ls : List Nat} (hl : okSh ls) (e : Nat) (h : (par0 ls).2 = some e) : e < 1000 := by
  have h96 := hl.1
  unfold par0 at h
  by_cases q : (pst ls 0).1 = true
  · have := pst_ok q
    rw [if_pos q] at h
    exact par_er hl 94 _ e (by omega) h
  · rw [if_neg q] at h
    have h : some (pst ls 0).2 = some e := h
    have := pst_le (ls := ls) (p := 0)
    cases h; omega
theorem tellL_er {ls : List Nat} : ∀ (S : List Nat) (v : PV) (s : Nat), (tellL ls S v).2 = some s → s ∈ S
  | [], v, s, h => by cases h
  | a :: S, v, s, h => by
    have h : (match tell ls v a with | none => (v, some a) | some v' => tellL ls S v').2 = some s := h
    cases ht : tell ls v a with
    | none => rw [ht] at h; cases h; exact List.mem_cons_self
    | some v' => rw [ht] at h; exact List.mem_cons_of_mem _ (tellL_er S v' s h)
/-- what sheet answers -/
def shV (ls : List Nat) (v : PV) : Int := match (par0 ls).2 with
  | some e => -1000 - (e : Int)
  | none => match (tellL ls (par0 ls).1 v).2 with
    | some s => -2000 - (s : Int)
    | none => ((par0 ls).1.length : Int)
def shW (ls : List Nat) (v : PV) : PV := match (par0 ls).2 with
  | some _ => v
  | none => match (tellL ls (par0 ls).1 v).2 with
    | some _ => v
    | none => (tellL ls (par0 ls).1 v).1
def shC (ls : List Nat) (v : PV) (ct : Nat) : Nat := match (par0 ls).2 with
  | some _ => ct
  | none => match (tellL ls (par0 ls).1 v).2 with
    | some _ => ct
    | none => 0
theorem c_sheet {M : Mem} {now : PV} {img : Option PV} {st ct : Nat} {hist : Nat → PV} {ls rw_ : List Nat} {R : Nat → Int32} (hg : okG now img st ct hist ls rw_) (hC : IC M now img st ct hist ls rw_ R) : ∃ M', f_X8_sheet M = some (iz (shV ls now), M') ∧ IC M' (shW ls now) img st (shC ls now ct) hist [] rw_ R ∧ sameOn (fun k => 139 ≤ k) M M' := by
  have hl : okSh ls := ⟨hg.2.2.2.2.2.1, hg.2.2.2.2.2.2.1⟩
  have h96 := hl.1
  have hs : cSh M ls := hC.2.2.2.2.1
  have hst := hC.2.2.2.1
  obtain ⟨M2, m1, m2⟩ := c_misspelt hl hs
  unfold shV shW shC
  have her := erV_lt (o := (par0 ls).2) (fun e he => par0_er hl e he)
  cases hp : (par0 ls).2 with
  | some e =>
    have he := par0_er hl e hp
    rw [hp] at m1 her
    have ss : sameOn (fun k => k ≠ 124) M (si M2 124 1 (0 : Int32)) := m2.1.tr (sameOn.si (by omega))
    refine ⟨si M2 124 1 (0 : Int32), ?_, hC.sheet (ss.mono (fun a ha => by omega)) (by rw [(ss 34 (by omega)).1]) (by rw [(ss 34 (by omega)).1]; exact hst.2.1) (Nat.le_refl _) (by rw [gi_si, if_pos ⟨rfl, rfl⟩]) (hC.1.same (ss.mono (fun a ha => by omega))), ss.mono (fun a ha => by omega)⟩
    unfold f_X8_sheet
    rw [m1, b_s2, if_pos (her.2.mpr (by intro t; cases t)), b_s3]
    unfold f_X5_forget
    rw [nmq_q, b_s1, if_neg (fun t => by have := her.1.mp t; cases this)]
    show some ((-1000 : Int32) - iz (e : Int), _) = _
    rw [show (-1000 : Int32) = iz (-1000 : Int) by decide, iz_sub]
  | none =>
    rw [hp] at m1 her
    have hc2 : cPar M2 1 now := m2.par (by omega) hC.1
    obtain ⟨M3, b1, b2, b3⟩ := c_become (p := 12) (q := 1) (by unfold isT; decide) (by unfold isT; decide) (by omega) hc2 hg.1.1
    obtain ⟨M4, e4⟩ : ∃ M4, M4 = si (si M3 124 3 (0 : Int32)) 124 2 (0 : Int32) := ⟨_, rfl⟩
    have s4 : sameOn (fun k => k ≠ 124) M3 M4 := by rw [e4]; exact (sameOn.si (by omega)).tr (sameOn.si (by omega))
    have h1 : gi M4 124 1 = gi M 124 1 := by rw [e4, gi_si, if_neg (by omega), gi_si, if_neg (by omega), (b3 124 (by omega)).1, m2.2 1 (by omega)]
    have hs4 : cSh M4 ls := ⟨h1.trans hs.1, fun i a ha => by rw [(s4 125 (by omega)).1, (b3 125 (by omega)).1, (m2.1 125 (by omega)).1]; exact hs.2 i a ha⟩
    have e0 := par0_96 hl hp
    have hp' := hp
    rw [e0] at hp' ⊢
    obtain ⟨M5, t1, t2, t3⟩ := c_p2L hl 96 FU 0 0 0 now M4 (by omega) (by omega) (by omega) (by omega) (by rw [FU_eq]; omega) hg.1 hs4 (by rw [e4, gi_si, if_neg (by omega), gi_si, if_pos ⟨rfl, rfl⟩]; rfl) (by rw [e4, gi_si, if_pos ⟨rfl, rfl⟩]; rfl) (b2.same (s4.mono (fun a ha => by omega))) hp'
    have hgood := par_good (ls := ls) 96 0 (by omega)
    have hte := erV_lt (o := (tellL ls (par ls 96 0).1 now).2) (fun s hs' => by
      have := (hgood.1 s (tellL_er _ _ _ hs')).2
      omega)
    have tT : f_X5_tellTo 12 M3 = some (iz (erV (tellL ls (par ls 96 0).1 now).2), M5) := by
      unfold f_X5_tellTo
      rw [nmq_q, nmq_q, ← e4]; exact t1
    obtain ⟨M6, e6⟩ : ∃ M6, M6 = si M5 124 1 (0 : Int32) := ⟨_, rfl⟩
    have s6 : sameOn (fun k => k ≠ 124) M5 M6 := by rw [e6]; exact sameOn.si (by omega)
    have sA : sameOn (fun k => (k < 12 ∨ 23 ≤ k) ∧ k ≠ 124) M M6 := (((m2.1.mono (fun a ha => by omega)).tr (b3.mono (fun a ha => by omega))).tr (s4.mono (fun a ha => by omega))).tr (t3.1.tr (s6.mono (fun a ha => by omega)))
    have hpre : f_X8_sheet M = (if iz (erV (tellL ls (par ls 96 0).1 now).2) < 0 then (bq1 (f_X3_become 1 12 M6) (fun (M11 : Mem) => bq1 (f_X1_forget M11) (fun (M13 : Mem) => some ((gi M13 124 2), M13)))) else some (((-2000 : Int32) - iz (erV (tellL ls (par ls 96 0).1 now).2)), M6)) := by
      unfold f_X8_sheet
      rw [m1, b_s2, if_neg (fun t => (her.2.mp t) rfl), b1, b_s1, tT, b_s2, b_s3]
      unfold f_X5_forget
      rw [nmq_q, b_s1, ← e6]
    rw [hpre]
    cases ht : (tellL ls (par ls 96 0).1 now).2 with
    | some s =>
      rw [ht] at hte
      refine ⟨M6, ?_, hC.sheet (sA.mono (fun a ha => by omega)) (by rw [(sA 34 (by omega)).1]) (by rw [(sA 34 (by omega)).1]; exact hst.2.1) (Nat.le_refl _) (by rw [e6, gi_si, if_pos ⟨rfl, rfl⟩]) (hC.1.same (sA.mono (fun a ha => by omega))), sA.mono (fun a ha => by omega)⟩
      rw [if_neg (fun t => by have := hte.1.mp t; cases this)]
      show some ((-2000 : Int32) - iz (s : Int), _) = _
      rw [show (-2000 : Int32) = iz (-2000 : Int) by decide, iz_sub]
    | none =>
      rw [ht] at hte
      obtain ⟨u1, u2⟩ := t2 ht
      have hok : okN (tellL ls (par ls 96 0).1 now).1 := by
        have : ∀ (S : List Nat) (v : PV), okN v → (∀ s ∈ S, (pst ls s).1 = true) → okN (tellL ls S v).1 := by
          intro S
          induction S with
          | nil => intro v hv _; exact hv
          | cons a S ih =>
            intro v hv hS
            show okN (match tell ls v a with | none => (v, some a) | some v' => tellL ls S v').1
            cases hh : tell ls v a with
            | none => exact hv
            | some v' => exact ih v' (tell_ok hv (hS a List.mem_cons_self) hh) (fun s hs => hS s (List.mem_cons_of_mem _ hs))
        exact this _ _ hg.1 (fun s hs' => (hgood.1 s hs').1)
      obtain ⟨M7, w1, w2, w3⟩ := c_become (p := 1) (q := 12) (by unfold isT; decide) (by unfold isT; decide) (by omega) (u1.same (s6.mono (fun a ha => by omega))) hok.1
      have s8 : sameOn (fun k => k ≠ 34) M7 (si M7 34 2 (0 : Int32)) := sameOn.si (by omega)
      have sB : sameOn (fun k => (k = 0 ∨ 23 ≤ k) ∧ k ≠ 124 ∧ k ≠ 34) M (si M7 34 2 (0 : Int32)) := ((sA.mono (fun a ha => by omega)).tr (w3.mono (fun a ha => by omega))).tr (s8.mono (fun a ha => by omega))
      refine ⟨si M7 34 2 (0 : Int32), ?_, hC.sheet (sB.mono (fun a ha => by omega)) ?_ (by rw [gi_si, if_pos ⟨rfl, rfl⟩]; rfl) (Nat.zero_le _) ?_ (w2.same (s8.mono (fun a ha => by omega))), sB.mono (fun a ha => by omega)⟩
      · rw [if_pos (hte.1.mpr rfl), w1, b_s1]
        unfold f_X1_forget
        rw [nmq_q, b_s1, gi_si, if_neg (by omega), (w3 124 (by omega)).1, e6, gi_si, if_neg (by omega), u2, Nat.zero_add]
      · rw [gi_si, if_neg (by omega), (w3 34 (by omega)).1, (sA 34 (by omega)).1]
      · rw [gi_si, if_neg (by omega), (w3 124 (by omega)).1, e6, gi_si, if_pos ⟨rfl, rfl⟩]
