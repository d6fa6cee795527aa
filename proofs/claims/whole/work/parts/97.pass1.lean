/-! the first pass -/
def par (ls : List Nat) : Nat → Nat → List Nat × Option Nat
  | 0, _ => ([], none)
  | f + 1, p => if ls.length ≤ p then ([], none) else if (pst ls p).1 = true then (p :: (par ls f (pst ls p).2).1, (par ls f (pst ls p).2).2) else ([], some (pst ls p).2)
def par0 (ls : List Nat) : List Nat × Option Nat := if (pst ls 0).1 = true then (0 :: (par ls 94 (pst ls 0).2).1, (par ls 94 (pst ls 0).2).2) else ([], some (pst ls 0).2)
theorem pst_ok {ls : List Nat} {p : Nat} (h : (pst ls p).1 = true) : 0 ≤ dbv (sg ls p) ∧ (rdR ls (sg ls p) (p + 1)).1 = true ∧ sg ls (rdR ls (sg ls p) (p + 1)).2 = 59 ∧ (pst ls p).2 = (rdR ls (sg ls p) (p + 1)).2 + 1 ∧ p + 2 ≤ (pst ls p).2 ∧ (pst ls p).2 ≤ ls.length := by
  have hr := rdR_le (ls := ls) (x := sg ls p) (p := p + 1)
  by_cases q0 : dbv (sg ls p) < 0
  · unfold pst at h; rw [if_pos q0] at h; cases h
  by_cases q1 : (rdR ls (sg ls p) (p + 1)).1 = true
  · by_cases q2 : sg ls (rdR ls (sg ls p) (p + 1)).2 = 59
    · have e : pst ls p = (true, (rdR ls (sg ls p) (p + 1)).2 + 1) := by unfold pst; rw [if_neg q0, if_pos q1, if_pos q2]
      have hi := sg_in (ls := ls) (i := (rdR ls (sg ls p) (p + 1)).2) (by omega)
      rw [e]
      exact ⟨by omega, q1, q2, rfl, by show p + 2 ≤ (rdR ls (sg ls p) (p + 1)).2 + 1; omega, by show (rdR ls (sg ls p) (p + 1)).2 + 1 ≤ ls.length; omega⟩
    · unfold pst at h; rw [if_neg q0, if_pos q1, if_neg q2] at h; cases h
  · unfold pst at h; rw [if_neg q0, if_neg q1] at h; cases h
theorem pst_le {ls : List Nat} {p : Nat} : (pst ls p).2 ≤ p + 17 := by
  have hr := rdR_le (ls := ls) (x := sg ls p) (p := p + 1)
  unfold pst
  repeat' split
  · show p ≤ p + 17; omega
  · show (rdR ls (sg ls p) (p + 1)).2 + 1 ≤ p + 17; omega
  · show (rdR ls (sg ls p) (p + 1)).2 ≤ p + 17; omega
  · show (rdR ls (sg ls p) (p + 1)).2 ≤ p + 17; omega
def erV (o : Option Nat) : Int := match o with
  | none => -1
  | some e => (e : Int)
theorem c_p1L {ls : List Nat} (hl : okSh ls) : ∀ (d f x p : Nat) (M : Mem), ls.length ≤ p + d → x + d ≤ 95 → p ≤ ls.length → d < f → cSh M ls → gi M 124 3 = iz (p : Int) →
    ∃ M', lq2 f_X5_misspelt_L19 f (iz (x : Int)) M = some (iz (erV (par ls d p).2), M') ∧ kC M M' := by
  have h96 := hl.1
  intro d
  induction d with
  | zero =>
    intro f x p M e1 e2 e3 e4 hs hp
    obtain ⟨f, rfl⟩ : ∃ g, f = g + 1 := ⟨f - 1, by omega⟩
    refine ⟨M, ?_, kC.rf⟩
    rw [lq2_s]
    generalize lq2 f_X5_misspelt_L19 f = K
    unfold f_X5_misspelt_L19
    rw [if_neg (show ¬ (96 : Int32) ≤ iz (x : Int) from nle_cnt (n := 96) (by omega) (by omega)), hs.1, hp, if_pos (le_cnt (by omega) (by omega))]; rfl
  | succ d ih =>
    intro f x p M e1 e2 e3 e4 hs hp
    obtain ⟨f, rfl⟩ : ∃ g, f = g + 1 := ⟨f - 1, by omega⟩
    have eP : par ls (d + 1) p = (if ls.length ≤ p then ([], none) else if (pst ls p).1 = true then (p :: (par ls d (pst ls p).2).1, (par ls d (pst ls p).2).2) else ([], some (pst ls p).2)) := rfl
    rw [eP]
    by_cases q : ls.length ≤ p
    · rw [if_pos q]
      refine ⟨M, ?_, kC.rf⟩
      rw [lq2_s]
      generalize lq2 f_X5_misspelt_L19 f = K
      unfold f_X5_misspelt_L19
      rw [if_neg (show ¬ (96 : Int32) ≤ iz (x : Int) from nle_cnt (n := 96) (by omega) (by omega)), hs.1, hp, if_pos (le_cnt (by omega) (by omega))]; rfl
    · rw [if_neg q]
      obtain ⟨M1, r1, r2, r3⟩ := c_statement hl (p := p) (by omega) hs hp
      by_cases q1 : (pst ls p).1 = true
      · have ho := pst_ok q1
        obtain ⟨M', t1, t2⟩ := ih f (x + 1) (pst ls p).2 M1 (by omega) (by omega) (by omega) (by omega) (r3.sh hs) r2
        refine ⟨M', ?_, r3.tr t2⟩
        rw [lq2_s]
        generalize lq2 f_X5_misspelt_L19 f = K at t1 ⊢
        unfold f_X5_misspelt_L19
        rw [if_neg (show ¬ (96 : Int32) ≤ iz (x : Int) from nle_cnt (n := 96) (by omega) (by omega)), hs.1, hp, if_neg (nle_cnt (by omega) (by omega)), r1, b_s2, if_pos q1, if_neg (by decide), nmq_q, iz_s, t1, if_pos q1]
      · refine ⟨M1, ?_, r3⟩
        rw [lq2_s]
        generalize lq2 f_X5_misspelt_L19 f = K
        unfold f_X5_misspelt_L19
        rw [if_neg (show ¬ (96 : Int32) ≤ iz (x : Int) from nle_cnt (n := 96) (by omega) (by omega)), hs.1, hp, if_neg (nle_cnt (by omega) (by omega)), r1, b_s2, if_neg q1, if_pos rfl, r2, if_neg q1]; rfl
theorem c_misspelt {ls : List Nat} (hl : okSh ls) {M : Mem} (hs : cSh M ls) : ∃ M', f_X5_misspelt M = some (iz (erV (par0 ls).2), M') ∧ kC M M' := by
  have h96 := hl.1
  obtain ⟨M1, r1, r2, r3⟩ := c_statement hl (p := 0) (by omega) (kC.si.sh hs) (M := si M 124 3 (0 : Int32)) (by rw [gi_si, if_pos ⟨rfl, rfl⟩]; rfl)
  unfold par0
  by_cases q1 : (pst ls 0).1 = true
  · have ho := pst_ok q1
    obtain ⟨M', t1, t2⟩ := c_p1L hl 94 FU 1 (pst ls 0).2 M1 (by omega) (by omega) (by omega) (by rw [FU_eq]; omega) (r3.sh (kC.si.sh hs)) r2
    have t1' : lq2 f_X5_misspelt_L19 FU (1 : Int32) M1 = _ := t1
    refine ⟨M', ?_, (kC.si.tr r3).tr t2⟩
    unfold f_X5_misspelt
    rw [nmq_q, r1, b_s2, if_pos q1, if_neg (by decide), t1', if_pos q1]
  · refine ⟨M1, ?_, kC.si.tr r3⟩
    unfold f_X5_misspelt
    rw [nmq_q, r1, b_s2, if_neg q1, if_pos rfl, r2, if_neg q1]; rfl
/-! .. and the reference's only one -/
def kP (M M' : Mem) : Prop := sameOn (fun k => k ≠ 139 ∧ (k < 157 ∨ 161 < k)) M M' ∧ ∀ j, j ≠ 37 → j ≠ 38 → j ≠ 39 → gi M' 139 j = gi M 139 j
theorem kP.rf {M : Mem} : kP M M := ⟨sameOn.rf, fun _ _ _ _ => rfl⟩
theorem kP.tr {M M' M'' : Mem} (h : kP M M') (h' : kP M' M'') : kP M M'' := ⟨h.1.tr h'.1, fun j h1 h2 h3 => (h'.2 j h1 h2 h3).trans (h.2 j h1 h2 h3)⟩
theorem kP.sh {M M' : Mem} {ls : List Nat} (h : kP M M') (hs : mSh M ls) : mSh M' ls := ⟨(h.2 36 (by omega) (by omega) (by omega)).trans hs.1, fun i a ha => by rw [(h.1 156 (by omega)).1]; exact hs.2 i a ha⟩
theorem kT.toP {i : Nat} {M M' : Mem} (h : kT i M M') : kP M M' := ⟨h.1, fun j h1 _ h3 => h.2.1 j h1 h3⟩
def recsM (M : Mem) (ls : List Nat) (S : List Nat) : Prop := ∀ (t s : Nat), S[t]? = some s → recS M ls t s
theorem recS.same {i p : Nat} {ls : List Nat} {M M' : Mem} (h : recS M ls i p) (hs : sameOn (fun k => 157 ≤ k ∧ k ≤ 161) M M') : recS M' ls i p := by
  obtain ⟨a1, a2, a3, a4⟩ := h
  exact ⟨by rw [(hs 157 (by omega)).1]; exact a1, by rw [(hs 158 (by omega)).1]; exact a2, fun e => ⟨by rw [(hs 160 (by omega)).1]; exact (a3 e).1, by rw [(hs 161 (by omega)).1]; exact (a3 e).2⟩, fun t ht => by rw [(hs 159 (by omega)).1]; exact a4 t ht⟩
/-- one turn of the loop, when it reads -/
theorem m_p1S {ls : List Nat} (hl : okSh ls) {i p : Nat} (hi : i < 49) (hp2 : p ≤ 100) {S : List Nat} (hS : S.length = i) {M : Mem} (hs : mSh M ls) (hp : gi M 139 37 = iz (p : Int)) (h38 : gi M 139 38 = iz (i : Int)) (hr : recsM M ls S) (hgo : p < ls.length ∨ i = 0) :
    ∃ M', (∀ K, f_X9_sheet_L12 K (1 : Int32) M = K (if (pst ls p).1 = true then 1 else 0) M') ∧ gi M' 139 37 = iz ((pst ls p).2 : Int) ∧ ((pst ls p).1 = true → gi M' 139 38 = iz ((i + 1 : Nat) : Int) ∧ recsM M' ls (S ++ [p])) ∧ kP M M' := by
  have h96 := hl.1
  obtain ⟨M1, r1, r2, r3, r4⟩ := m_statement hl hi hp2 hs hp h38
  have h38' : gi M1 139 38 = iz (i : Int) := (r4.2.1 38 (by omega) (by omega)).trans h38
  obtain ⟨M2, e2⟩ : ∃ M2, M2 = si M1 139 38 (gi M1 139 38 + (if (if (pst ls p).1 = true then (1 : Int32) else 0) = 0 then ((0 : Int32)) else ((1 : Int32)))) := ⟨_, rfl⟩
  have s2 : sameOn (fun k => k ≠ 139) M1 M2 := by rw [e2]; exact sameOn.si (by omega)
  have f2 : ∀ j, j ≠ 38 → gi M2 139 j = gi M1 139 j := fun j hj => by rw [e2, gi_si, if_neg (by omega)]
  refine ⟨M2, fun K => ?_, (f2 37 (by omega)).trans r2, fun h => ⟨?_, fun t s ht => ?_⟩, r4.toP.tr ⟨s2.mono (fun a ha => by omega), fun j h1 h2 h3 => f2 j h2⟩⟩
  · have hgo' : ∀ (A B : Option (Int32 × Mem)), (if (gi M 139 37) < (gi M 139 36) then A else (if (gi M 139 38) = 0 then A else B)) = A := fun A B => by
      rw [hp, hs.1, h38]
      by_cases q : p < ls.length
      · rw [if_pos (lt_iz (by omega) (by omega) (by omega) (by omega) (by omega))]
      · rw [if_neg (fun e => q (by have := (iz_lt (a := (p : Int)) (b := (ls.length : Int)) (by omega) (by omega) (by omega) (by omega)).mp e; omega)), if_pos]
        rw [show i = 0 by omega]; rfl
    unfold f_X9_sheet_L12
    rw [if_neg (by decide), jq_q, hgo']
    show bq2 (f_X9_statement M) _ = _
    rw [r1, b_s2, nmq_q, nmq_q, ← e2]
  · rw [e2, gi_si, if_pos ⟨rfl, rfl⟩, h38', if_pos h, if_neg (by decide), iz_s]
  · by_cases q : t < i
    · have hS2 : S[t]? = some s := by rw [List.getElem?_append_left (by omega)] at ht; exact ht
      exact ((hr t s hS2).keep r4 q).same (s2.mono (fun a ha => by omega))
    · have ht2 : t < (S ++ [p]).length := (List.getElem?_eq_some_iff.mp ht).1
      rw [List.length_append] at ht2
      have : t = i := by
        have : ([p] : List Nat).length = 1 := rfl
        omega
      subst this
      rw [← hS, List.getElem?_append_right (Nat.le_refl _), Nat.sub_self] at ht
      have ht : some p = some s := ht
      cases ht
      exact (r3 h).same (s2.mono (fun a ha => by omega))
theorem m_p1L {ls : List Nat} (hl : okSh ls) : ∀ (d f i p : Nat) (S : List Nat) (M : Mem), S.length = i → 1 ≤ i → 2 * i ≤ p → p ≤ ls.length → ls.length ≤ p + d → d + 1 < f → mSh M ls → gi M 139 37 = iz (p : Int) → gi M 139 38 = iz (i : Int) → recsM M ls S →
    ∃ M', (match (par ls d p).2 with
      | none => lq2 f_X9_sheet_L12 f (1 : Int32) M = some ((1 : Int32), M') ∧ gi M' 139 38 = iz ((i + (par ls d p).1.length : Nat) : Int) ∧ recsM M' ls (S ++ (par ls d p).1)
      | some e => lq2 f_X9_sheet_L12 f (1 : Int32) M = some ((0 : Int32), M') ∧ gi M' 139 37 = iz (e : Int)) ∧ kP M M' := by
  have h96 := hl.1
  have hstop : ∀ (f i p : Nat) (M : Mem), 1 ≤ i → i < 100 → ls.length ≤ p → p < 1000 → mSh M ls → gi M 139 37 = iz (p : Int) → gi M 139 38 = iz (i : Int) → lq2 f_X9_sheet_L12 (f + 1) (1 : Int32) M = some ((1 : Int32), M) := by
    intro f i p M h1 h2 h3 h4 hs hp h38
    rw [lq2_s]
    generalize lq2 f_X9_sheet_L12 f = K
    unfold f_X9_sheet_L12
    rw [if_neg (by decide), jq_q, hp, hs.1, h38, if_neg (fun e => by have := (iz_lt (a := (p : Int)) (b := (ls.length : Int)) (by omega) (by omega) (by omega) (by omega)).mp e; omega), if_neg (show ¬ iz (i : Int) = 0 from ne_cnt (i := 0) (by omega) (by omega) (by omega))]
  intro d
  induction d with
  | zero =>
    intro f i p S M e1 e2 e3 e4 e5 e6 hs hp h38 hr
    obtain ⟨f, rfl⟩ : ∃ g, f = g + 1 := ⟨f - 1, by omega⟩
    refine ⟨M, ⟨hstop f i p M e2 (by omega) (by omega) (by omega) hs hp h38, ?_, ?_⟩, kP.rf⟩
    · show gi M 139 38 = iz ((i + 0 : Nat) : Int)
      exact h38
    · show recsM M ls (S ++ [])
      rw [List.append_nil]; exact hr
  | succ d ih =>
    intro f i p S M e1 e2 e3 e4 e5 e6 hs hp h38 hr
    obtain ⟨f, rfl⟩ : ∃ g, f = g + 1 := ⟨f - 1, by omega⟩
    have eP : par ls (d + 1) p = (if ls.length ≤ p then ([], none) else if (pst ls p).1 = true then (p :: (par ls d (pst ls p).2).1, (par ls d (pst ls p).2).2) else ([], some (pst ls p).2)) := rfl
    rw [eP]
    by_cases q : ls.length ≤ p
    · rw [if_pos q]
      refine ⟨M, ⟨hstop f i p M e2 (by omega) q (by omega) hs hp h38, ?_, ?_⟩, kP.rf⟩
      · show gi M 139 38 = iz ((i + 0 : Nat) : Int)
        exact h38
      · show recsM M ls (S ++ [])
        rw [List.append_nil]; exact hr
    · rw [if_neg q]
      obtain ⟨M1, r1, r2, r3, r4⟩ := m_p1S hl (i := i) (p := p) (by omega) (by omega) e1 hs hp h38 hr (Or.inl (by omega))
      by_cases q1 : (pst ls p).1 = true
      · have ho := pst_ok q1
        obtain ⟨u1, u2⟩ := r3 q1
        obtain ⟨M', t1, t2⟩ := ih f (i + 1) (pst ls p).2 (S ++ [p]) M1 (by rw [List.length_append, e1]; rfl) (by omega) (by omega) (by omega) (by omega) (by omega) (r4.sh hs) r2 u1 u2
        refine ⟨M', ?_, r4.tr t2⟩
        have hst : lq2 f_X9_sheet_L12 (f + 1) (1 : Int32) M = lq2 f_X9_sheet_L12 f (1 : Int32) M1 := by rw [lq2_s, r1, if_pos q1]
        rw [if_pos q1, hst]
        show (match (par ls d (pst ls p).2).2 with
          | none => lq2 f_X9_sheet_L12 f (1 : Int32) M1 = some ((1 : Int32), M') ∧ gi M' 139 38 = iz ((i + (p :: (par ls d (pst ls p).2).1).length : Nat) : Int) ∧ recsM M' ls (S ++ p :: (par ls d (pst ls p).2).1)
          | some e => lq2 f_X9_sheet_L12 f (1 : Int32) M1 = some ((0 : Int32), M') ∧ gi M' 139 37 = iz (e : Int))
        cases hh : (par ls d (pst ls p).2).2 with
        | some e => rw [hh] at t1; exact t1
        | none =>
          rw [hh] at t1
          obtain ⟨v1, v2, v3⟩ := t1
          refine ⟨v1, ?_, ?_⟩
          · rw [v2, List.length_cons]; congr 2; omega
          · rw [List.append_assoc] at v3; exact v3
      · rw [if_neg q1]
        refine ⟨M1, ⟨?_, r2⟩, r4⟩
        obtain ⟨f, rfl⟩ : ∃ g, f = g + 1 := ⟨f - 1, by omega⟩
        rw [lq2_s, r1, if_neg q1, lq2_s]
        generalize lq2 f_X9_sheet_L12 f = K
        unfold f_X9_sheet_L12
        rw [if_pos rfl]
theorem m_pass1 {ls : List Nat} (hl : okSh ls) {M : Mem} (hs : mSh M ls) (hp : gi M 139 37 = 0) (h38 : gi M 139 38 = 0) :
    ∃ M', (match (par0 ls).2 with
      | none => lq2 f_X9_sheet_L12 FU (1 : Int32) M = some ((1 : Int32), M') ∧ gi M' 139 38 = iz (((par0 ls).1.length : Nat) : Int) ∧ recsM M' ls (par0 ls).1
      | some e => lq2 f_X9_sheet_L12 FU (1 : Int32) M = some ((0 : Int32), M') ∧ gi M' 139 37 = iz (e : Int)) ∧ kP M M' := by
  have h96 := hl.1
  obtain ⟨M1, r1, r2, r3, r4⟩ := m_p1S hl (i := 0) (p := 0) (S := []) (by omega) (by omega) rfl hs hp h38 (fun t s h => by simp at h) (Or.inr rfl)
  obtain ⟨f, hf⟩ : ∃ g, FU = g + 1 := ⟨FU - 1, by rw [FU_eq]⟩
  have hf96 : 96 < f := by rw [FU_eq] at hf; omega
  unfold par0
  by_cases q1 : (pst ls 0).1 = true
  · have ho := pst_ok q1
    obtain ⟨u1, u2⟩ := r3 q1
    obtain ⟨M', t1, t2⟩ := m_p1L hl 94 f 1 (pst ls 0).2 [0] M1 rfl (by omega) (by omega) (by omega) (by omega) (by omega) (r4.sh hs) r2 u1 u2
    refine ⟨M', ?_, r4.tr t2⟩
    have hst : lq2 f_X9_sheet_L12 FU (1 : Int32) M = lq2 f_X9_sheet_L12 f (1 : Int32) M1 := by rw [hf, lq2_s, r1, if_pos q1]
    rw [if_pos q1, hst]
    show (match (par ls 94 (pst ls 0).2).2 with
      | none => lq2 f_X9_sheet_L12 f (1 : Int32) M1 = some ((1 : Int32), M') ∧ gi M' 139 38 = iz (((0 :: (par ls 94 (pst ls 0).2).1).length : Nat) : Int) ∧ recsM M' ls (0 :: (par ls 94 (pst ls 0).2).1)
      | some e => lq2 f_X9_sheet_L12 f (1 : Int32) M1 = some ((0 : Int32), M') ∧ gi M' 139 37 = iz (e : Int))
    cases hh : (par ls 94 (pst ls 0).2).2 with
    | some e => rw [hh] at t1; exact t1
    | none =>
      rw [hh] at t1
      obtain ⟨v1, v2, v3⟩ := t1
      refine ⟨v1, ?_, v3⟩
      rw [v2, List.length_cons]; congr 2; omega
  · rw [if_neg q1]
    refine ⟨M1, ⟨?_, r2⟩, r4⟩
    obtain ⟨f, rfl⟩ : ∃ g, f = g + 1 := ⟨f - 1, by omega⟩
    rw [hf, lq2_s, r1, if_neg q1, lq2_s]
    generalize lq2 f_X9_sheet_L12 f = K
    unfold f_X9_sheet_L12
    rw [if_pos rfl]
