/-! the sheet: its signs, read by both -/
def sg (ls : List Nat) (i : Nat) : Int := match ls[i]? with
  | some a => (a : Int)
  | none => -1
def cSh (M : Mem) (ls : List Nat) : Prop := gi M 124 1 = iz (ls.length : Int) ∧ ∀ (i a : Nat), ls[i]? = some a → gi M 125 i = iz (a : Int)
def mSh (M : Mem) (ls : List Nat) : Prop := gi M 139 36 = iz (ls.length : Int) ∧ ∀ (i a : Nat), ls[i]? = some a → gi M 156 i = iz (a : Int)
def okSh (ls : List Nat) : Prop := ls.length ≤ 96 ∧ ∀ a ∈ ls, a ≤ 255
theorem sg_b {ls : List Nat} (h : okSh ls) (i : Nat) : -1 ≤ sg ls i ∧ sg ls i ≤ 255 := by
  unfold sg
  cases hx : ls[i]? with
  | none => exact ⟨by show (-1 : Int) ≤ -1; omega, by show (-1 : Int) ≤ 255; omega⟩
  | some a =>
    have := h.2 a (List.mem_of_getElem? hx)
    exact ⟨by show (-1 : Int) ≤ (a : Int); omega, by show (a : Int) ≤ 255; omega⟩
theorem sg_in {ls : List Nat} {i : Nat} (h : 0 ≤ sg ls i) : i < ls.length := by
  unfold sg at h
  cases hx : ls[i]? with
  | none => rw [hx] at h; exact absurd h (by show ¬ (0 : Int) ≤ -1; omega)
  | some a => exact (List.getElem?_eq_some_iff.mp hx).1
theorem sg_out {ls : List Nat} {i : Nat} (h : ls.length ≤ i) : sg ls i = -1 := by
  unfold sg
  rw [List.getElem?_eq_none h]
theorem sg_at {ls : List Nat} {i : Nat} (h : i < ls.length) : ∃ a : Nat, ls[i]? = some a ∧ sg ls i = (a : Int) := by
  refine ⟨ls[i], List.getElem?_eq_getElem h, ?_⟩
  unfold sg
  rw [List.getElem?_eq_getElem h]
def kC (M M' : Mem) : Prop := sameOn (fun k => k ≠ 124) M M' ∧ ∀ j, j ≠ 3 → gi M' 124 j = gi M 124 j
theorem kC.rf {M : Mem} : kC M M := ⟨sameOn.rf, fun _ _ => rfl⟩
theorem kC.tr {M M' M'' : Mem} (h : kC M M') (h' : kC M' M'') : kC M M'' := ⟨h.1.tr h'.1, fun j hj => (h'.2 j hj).trans (h.2 j hj)⟩
theorem kC.sh {M M' : Mem} {ls : List Nat} (h : kC M M') (hs : cSh M ls) : cSh M' ls := ⟨(h.2 1 (by omega)).trans hs.1, fun i a ha => by rw [(h.1 125 (by omega)).1]; exact hs.2 i a ha⟩
theorem kC.si {M : Mem} {x : Int32} : kC M (si M 124 3 x) := ⟨sameOn.si (by omega), fun j hj => by rw [gi_si, if_neg (by omega)]⟩
theorem c_here {M : Mem} {ls : List Nat} (hl : okSh ls) (hs : cSh M ls) {p : Nat} (hp : gi M 124 3 = iz (p : Int)) (hp2 : p < 5000) : f_X5_here M = some (iz (sg ls p)) := by
  have h96 := hl.1
  unfold f_X5_here
  rw [hs.1, hp]
  by_cases q : ls.length ≤ p
  · rw [if_pos (le_cnt q hp2), sg_out q]; rfl
  · obtain ⟨a, ha, ea⟩ := sg_at (ls := ls) (i := p) (by omega)
    rw [if_neg (nle_cnt (by omega) (by omega)), c_at (n := 96) rfl (by omega) (by omega), b_s1, hs.2 p a ha, ea]
theorem m_sign {M : Mem} {ls : List Nat} (hl : okSh ls) (hs : mSh M ls) {p : Nat} (hp : gi M 139 37 = iz (p : Int)) (hp2 : p < 5000) : f_X9_sign M = some (iz (sg ls p)) := by
  have h96 := hl.1
  unfold f_X9_sign
  rw [hs.1, hp]
  by_cases q : ls.length ≤ p
  · rw [if_pos (le_cnt q hp2), sg_out q]; rfl
  · obtain ⟨a, ha, ea⟩ := sg_at (ls := ls) (i := p) (by omega)
    rw [if_neg (nle_cnt (by omega) (by omega)), g_t (inB_n (by omega) (by omega)), clN (by omega), hs.2 p a ha, ea]
def isL (ls : List Nat) (p : Nat) : Bool := decide (97 ≤ sg ls p ∧ sg ls p ≤ 104)
def isD (ls : List Nat) (p : Nat) : Bool := decide (48 ≤ sg ls p ∧ sg ls p ≤ 57)
theorem c_isL {M : Mem} {ls : List Nat} (hl : okSh ls) (hs : cSh M ls) {p : Nat} (hp : gi M 124 3 = iz (p : Int)) (hp2 : p < 5000) : f_X5_isLetterHere M = some (if isL ls p = true then 1 else 0) := by
  have hb := sg_b hl p
  have j1 : (iz (sg ls p) < (97 : Int32)) ↔ sg ls p < 97 := iz_lt (a := sg ls p) (b := 97) (by omega) (by omega) (by omega) (by omega)
  have j2 : ((104 : Int32) < iz (sg ls p)) ↔ 104 < sg ls p := iz_lt (a := 104) (b := sg ls p) (by omega) (by omega) (by omega) (by omega)
  unfold f_X5_isLetterHere isL
  rw [c_here hl hs hp hp2, b_s1]
  by_cases q1 : sg ls p < 97
  · rw [if_pos (j1.mpr q1), if_neg (by rw [decide_eq_false (by omega)]; decide)]
  · rw [if_neg (fun e => q1 (j1.mp e)), b_s1]
    by_cases q2 : 104 < sg ls p
    · rw [if_pos (j2.mpr q2), if_neg (by rw [decide_eq_false (by omega)]; decide)]
    · rw [if_neg (fun e => q2 (j2.mp e)), if_pos (decide_eq_true (by omega))]
theorem c_isD {M : Mem} {ls : List Nat} (hl : okSh ls) (hs : cSh M ls) {p : Nat} (hp : gi M 124 3 = iz (p : Int)) (hp2 : p < 5000) : f_X5_isDigitHere M = some (if isD ls p = true then 1 else 0) := by
  have hb := sg_b hl p
  have j1 : (iz (sg ls p) < (48 : Int32)) ↔ sg ls p < 48 := iz_lt (a := sg ls p) (b := 48) (by omega) (by omega) (by omega) (by omega)
  have j2 : ((57 : Int32) < iz (sg ls p)) ↔ 57 < sg ls p := iz_lt (a := 57) (b := sg ls p) (by omega) (by omega) (by omega) (by omega)
  unfold f_X5_isDigitHere isD
  rw [c_here hl hs hp hp2, b_s1]
  by_cases q1 : sg ls p < 48
  · rw [if_pos (j1.mpr q1), if_neg (by rw [decide_eq_false (by omega)]; decide)]
  · rw [if_neg (fun e => q1 (j1.mp e)), b_s1]
    by_cases q2 : 57 < sg ls p
    · rw [if_pos (j2.mpr q2), if_neg (by rw [decide_eq_false (by omega)]; decide)]
    · rw [if_neg (fun e => q2 (j2.mp e)), if_pos (decide_eq_true (by omega))]
/-- how many letters, digits from p, at most so many -/
def lrun (ls : List Nat) : Nat → Nat → Nat
  | 0, _ => 0
  | m + 1, p => if isL ls p = true then lrun ls m (p + 1) + 1 else 0
def drun (ls : List Nat) : Nat → Nat → Nat
  | 0, _ => 0
  | m + 1, p => if isD ls p = true then drun ls m (p + 1) + 1 else 0
theorem lrun_le {ls : List Nat} : ∀ m p, lrun ls m p ≤ m
  | 0, _ => Nat.le_refl _
  | m + 1, p => by
    have := lrun_le (ls := ls) m (p + 1)
    unfold lrun
    by_cases q : isL ls p = true
    · rw [if_pos q]; omega
    · rw [if_neg q]; omega
theorem drun_le {ls : List Nat} : ∀ m p, drun ls m p ≤ m
  | 0, _ => Nat.le_refl _
  | m + 1, p => by
    have := drun_le (ls := ls) m (p + 1)
    unfold drun
    by_cases q : isD ls p = true
    · rw [if_pos q]; omega
    · rw [if_neg q]; omega
theorem drun_add {ls : List Nat} (b : Nat) : ∀ a p, drun ls (a + b) p = (if drun ls a p = a then a + drun ls b (p + a) else drun ls a p)
  | 0, p => by
    rw [Nat.zero_add, if_pos (show drun ls 0 p = 0 from rfl), Nat.add_zero, Nat.zero_add]
  | a + 1, p => by
    have ih := drun_add (ls := ls) b a (p + 1)
    have hle := drun_le (ls := ls) a (p + 1)
    rw [show a + 1 + b = (a + b) + 1 by omega]
    show (if isD ls p = true then drun ls (a + b) (p + 1) + 1 else 0) = (if (if isD ls p = true then drun ls a (p + 1) + 1 else 0) = a + 1 then a + 1 + drun ls b (p + (a + 1)) else (if isD ls p = true then drun ls a (p + 1) + 1 else 0))
    by_cases q : isD ls p = true
    · simp only [if_pos q]
      rw [ih]
      by_cases q2 : drun ls a (p + 1) = a
      · rw [if_pos q2, if_pos (by omega), show p + 1 + a = p + (a + 1) by omega]; omega
      · rw [if_neg q2, if_neg (by omega)]
    · simp only [if_neg q]
      rw [if_neg (by omega)]
theorem c_lettersL {ls : List Nat} (hl : okSh ls) {m : Nat} (hm : m ≤ 12) : ∀ (d f i p : Nat) (M : Mem), i + d = m → d < f → p + d ≤ 500 → cSh M ls → gi M 124 3 = iz (p : Int) →
    ∃ M', lq2 (f_X5_readLetters_L2 (iz (m : Int))) f (iz (i : Int)) M = some (iz ((i + lrun ls d p : Nat) : Int), M') ∧ gi M' 124 3 = iz ((p + lrun ls d p : Nat) : Int) ∧ kC M M' := by
  intro d
  induction d with
  | zero =>
    intro f i p M e1 e2 e3 hs hp
    obtain ⟨f, rfl⟩ : ∃ g, f = g + 1 := ⟨f - 1, by omega⟩
    refine ⟨M, ?_, hp, kC.rf⟩
    rw [lq2_s]
    generalize lq2 (f_X5_readLetters_L2 (iz (m : Int))) f = K
    unfold f_X5_readLetters_L2
    rw [if_pos (le_cnt (by omega) (by omega))]; rfl
  | succ d ih =>
    intro f i p M e1 e2 e3 hs hp
    obtain ⟨f, rfl⟩ : ∃ g, f = g + 1 := ⟨f - 1, by omega⟩
    have hst := c_isL hl hs hp (by omega)
    have eL : lrun ls (d + 1) p = (if isL ls p = true then lrun ls d (p + 1) + 1 else 0) := rfl
    rw [eL]
    by_cases q : isL ls p = true
    · rw [if_pos q] at hst ⊢
      have e124 : gi (si M 124 3 (gi M 124 3 + 1)) 124 3 = iz ((p + 1 : Nat) : Int) := by rw [gi_si, if_pos ⟨rfl, rfl⟩, hp, iz_s]
      obtain ⟨M', r1, r2, r3⟩ := ih f (i + 1) (p + 1) (si M 124 3 (gi M 124 3 + 1)) (by omega) (by omega) (by omega) (kC.si.sh hs) e124
      refine ⟨M', ?_, by rw [r2]; congr 1; omega, kC.si.tr r3⟩
      rw [lq2_s]
      generalize lq2 (f_X5_readLetters_L2 (iz (m : Int))) f = K at r1 ⊢
      unfold f_X5_readLetters_L2
      rw [if_neg (nle_cnt (by omega) (by omega)), hst, b_s1, if_neg (by decide), nmq_q, nmq_q, iz_s, r1, show i + 1 + lrun ls d (p + 1) = i + (lrun ls d (p + 1) + 1) by omega]
    · rw [if_neg q] at hst ⊢
      refine ⟨M, ?_, hp, kC.rf⟩
      rw [lq2_s]
      generalize lq2 (f_X5_readLetters_L2 (iz (m : Int))) f = K
      unfold f_X5_readLetters_L2
      rw [if_neg (nle_cnt (by omega) (by omega)), hst, b_s1, if_pos rfl]; rfl
theorem c_letters {ls : List Nat} (hl : okSh ls) {m : Nat} (hm : m ≤ 12) {p : Nat} (hp2 : p ≤ 300) {M : Mem} (hs : cSh M ls) (hp : gi M 124 3 = iz (p : Int)) : ∃ M', f_X5_readLetters (iz (m : Int)) M = some ((if lrun ls m p = 0 then 0 else 1), M') ∧ gi M' 124 3 = iz ((p + lrun ls m p : Nat) : Int) ∧ kC M M' := by
  obtain ⟨M', r1, r2, r3⟩ := c_lettersL hl hm m FU 0 p M (by omega) (by rw [FU_eq]; omega) (by omega) hs hp
  have hle := lrun_le (ls := ls) m p
  have r1' : lq2 (f_X5_readLetters_L2 (iz (m : Int))) FU (0 : Int32) M = _ := r1
  refine ⟨M', ?_, r2, r3⟩
  unfold f_X5_readLetters
  rw [r1', b_s2, Nat.zero_add]
  by_cases q : lrun ls m p = 0
  · rw [if_pos q, if_pos ((pos_iz (by omega) (by omega)).mpr (by omega))]
  · rw [if_neg q, if_neg (fun e => by have := (pos_iz (by omega) (by omega)).mp e; omega)]
theorem c_digitsL {ls : List Nat} (hl : okSh ls) {m : Nat} (hm : m ≤ 12) : ∀ (d f i p : Nat) (M : Mem), i + d = m → d < f → p + d ≤ 500 → cSh M ls → gi M 124 3 = iz (p : Int) →
    ∃ M', lq2 (f_X5_readDigits_L2 (iz (m : Int))) f (iz (i : Int)) M = some ((if drun ls d p = d then 1 else 0), M') ∧ gi M' 124 3 = iz ((p + drun ls d p : Nat) : Int) ∧ kC M M' := by
  intro d
  induction d with
  | zero =>
    intro f i p M e1 e2 e3 hs hp
    obtain ⟨f, rfl⟩ : ∃ g, f = g + 1 := ⟨f - 1, by omega⟩
    refine ⟨M, ?_, hp, kC.rf⟩
    rw [lq2_s]
    generalize lq2 (f_X5_readDigits_L2 (iz (m : Int))) f = K
    unfold f_X5_readDigits_L2
    rw [if_pos (le_cnt (by omega) (by omega)), if_pos (show drun ls 0 p = 0 from rfl)]
  | succ d ih =>
    intro f i p M e1 e2 e3 hs hp
    obtain ⟨f, rfl⟩ : ∃ g, f = g + 1 := ⟨f - 1, by omega⟩
    have hst := c_isD hl hs hp (by omega)
    have eL : drun ls (d + 1) p = (if isD ls p = true then drun ls d (p + 1) + 1 else 0) := rfl
    rw [eL]
    by_cases q : isD ls p = true
    · rw [if_pos q] at hst ⊢
      have e124 : gi (si M 124 3 (gi M 124 3 + 1)) 124 3 = iz ((p + 1 : Nat) : Int) := by rw [gi_si, if_pos ⟨rfl, rfl⟩, hp, iz_s]
      obtain ⟨M', r1, r2, r3⟩ := ih f (i + 1) (p + 1) (si M 124 3 (gi M 124 3 + 1)) (by omega) (by omega) (by omega) (kC.si.sh hs) e124
      refine ⟨M', ?_, by rw [r2]; congr 1; omega, kC.si.tr r3⟩
      have ee : (if drun ls d (p + 1) + 1 = d + 1 then (1 : Int32) else 0) = (if drun ls d (p + 1) = d then (1 : Int32) else 0) := by
        by_cases q2 : drun ls d (p + 1) = d
        · rw [if_pos q2, if_pos (by omega)]
        · rw [if_neg q2, if_neg (by omega)]
      rw [lq2_s]
      generalize lq2 (f_X5_readDigits_L2 (iz (m : Int))) f = K at r1 ⊢
      unfold f_X5_readDigits_L2
      rw [if_neg (nle_cnt (by omega) (by omega)), hst, b_s1, if_neg (by decide), nmq_q, nmq_q, iz_s, r1, ee]
    · rw [if_neg q] at hst ⊢
      refine ⟨M, ?_, hp, kC.rf⟩
      rw [lq2_s]
      generalize lq2 (f_X5_readDigits_L2 (iz (m : Int))) f = K
      unfold f_X5_readDigits_L2
      rw [if_neg (nle_cnt (by omega) (by omega)), hst, b_s1, if_pos rfl, if_neg (by omega)]
theorem c_digits {ls : List Nat} (hl : okSh ls) {m : Nat} (hm : m ≤ 12) {p : Nat} (hp2 : p ≤ 300) {M : Mem} (hs : cSh M ls) (hp : gi M 124 3 = iz (p : Int)) : ∃ M', f_X5_readDigits (iz (m : Int)) M = some ((if drun ls m p = m then 1 else 0), M') ∧ gi M' 124 3 = iz ((p + drun ls m p : Nat) : Int) ∧ kC M M' := c_digitsL hl hm m FU 0 p M (by omega) (by rw [FU_eq]; omega) (by omega) hs hp
/-- the digits behind a sign; none for a sign that begins no statement -/
def dbv (x : Int) : Int := if x = 103 then 3 else if x = 104 ∨ x = 107 ∨ x = 108 ∨ x = 112 ∨ x = 116 then 2 else if x = 109 ∨ x = 111 then 1 else if x = 110 ∨ x = 119 then 0 else -1
def lmx (x : Int) : Nat := if x = 119 then 12 else if x = 112 then 3 else 0
theorem c_db {x : Int} (h1 : -1 ≤ x) (h2 : x ≤ 255) : f_X5_digitsBehind (iz x) = some (iz (dbv x)) := by
  have h : ∀ k : Fin 257, f_X5_digitsBehind (iz ((k.val : Int) - 1)) = some (iz (dbv ((k.val : Int) - 1))) := by decide +kernel
  have := h ⟨(x + 1).toNat, by omega⟩
  have e : (((x + 1).toNat : Nat) : Int) - 1 = x := by omega
  rw [← e]; exact this
/-- what a sign is followed by, and where that ends -/
def rdR (ls : List Nat) (x : Int) (p : Nat) : Bool × Nat := if lmx x ≠ 0 ∧ lrun ls (lmx x) p = 0 then (false, p) else (decide (drun ls (dbv x).toNat (p + lrun ls (lmx x) p) = (dbv x).toNat), p + lrun ls (lmx x) p + drun ls (dbv x).toNat (p + lrun ls (lmx x) p))
/-- a statement from p: whether it is well, and where it ends -/
def pst (ls : List Nat) (p : Nat) : Bool × Nat := if dbv (sg ls p) < 0 then (false, p) else if (rdR ls (sg ls p) (p + 1)).1 = true then (if sg ls (rdR ls (sg ls p) (p + 1)).2 = 59 then (true, (rdR ls (sg ls p) (p + 1)).2 + 1) else (false, (rdR ls (sg ls p) (p + 1)).2)) else (false, (rdR ls (sg ls p) (p + 1)).2)
theorem dbv_b (x : Int) : -1 ≤ dbv x ∧ dbv x ≤ 3 := by
  unfold dbv
  repeat' split
  all_goals omega
theorem lmx_b (x : Int) : lmx x ≤ 12 := by
  unfold lmx
  repeat' split
  all_goals omega
theorem c_statement {ls : List Nat} (hl : okSh ls) {p : Nat} (hp2 : p ≤ 100) {M : Mem} (hs : cSh M ls) (hp : gi M 124 3 = iz (p : Int)) : ∃ M', f_X5_readStatement M = some ((if (pst ls p).1 = true then 1 else 0), M') ∧ gi M' 124 3 = iz (((pst ls p).2 : Nat) : Int) ∧ kC M M' := by
  have hb := sg_b hl p
  obtain ⟨d1, d2⟩ := dbv_b (sg ls p)
  have hm12 := lmx_b (sg ls p)
  have hh := c_here hl hs hp (by omega)
  have hdb := c_db hb.1 hb.2
  by_cases q0 : dbv (sg ls p) < 0
  · have ep : pst ls p = (false, p) := by unfold pst; rw [if_pos q0]
    rw [ep]
    refine ⟨M, ?_, hp, kC.rf⟩
    unfold f_X5_readStatement
    rw [hh, b_s1, hdb, b_s1, if_neg (fun e => by have := (iz_le (a := 0) (b := dbv (sg ls p)) (by omega) (by omega) (by omega) (by omega)).mp e; omega)]; rfl
  obtain ⟨D, hD⟩ : ∃ D : Nat, dbv (sg ls p) = (D : Int) := ⟨(dbv (sg ls p)).toNat, by omega⟩
  have h0le : (0 : Int32) ≤ iz (dbv (sg ls p)) := le_iz (a := 0) (by omega) (by omega) (by omega) (by omega) (by omega)
  obtain ⟨M6, hM6⟩ : ∃ M6, M6 = si M 124 3 (gi M 124 3 + 1) := ⟨_, rfl⟩
  have k6 : kC M M6 := by rw [hM6]; exact kC.si
  have p6 : gi M6 124 3 = iz ((p + 1 : Nat) : Int) := by rw [hM6, gi_si, if_pos ⟨rfl, rfl⟩, hp, iz_s]
  have j119 : (iz (sg ls p) = (119 : Int32)) ↔ sg ls p = 119 := iz_eq (a := sg ls p) (b := 119) (by omega) (by omega) (by omega) (by omega)
  have j112 : (iz (sg ls p) = (112 : Int32)) ↔ sg ls p = 112 := iz_eq (a := sg ls p) (b := 112) (by omega) (by omega) (by omega) (by omega)
  -- the end of it
  have hend : ∀ (q : Nat) (M7 : Mem), q ≤ 200 → cSh M7 ls → gi M7 124 3 = iz (q : Int) → ∃ M', (bq1 (f_X5_digitsBehind (iz (sg ls p))) (fun (x13 : Int32) => bq2 (f_X5_readDigits x13 M7) (fun (x15 : Int32) (M16 : Mem) => (if x15 = 0 then some ((0 : Int32), M16) else (bq1 (f_X5_here M16) (fun (x19 : Int32) => (if x19 = (59 : Int32) then (nmq (si M16 124 3 ((gi M16 124 3) + (1 : Int32))) (fun (M22 : Mem) => some ((1 : Int32), M22))) else some ((0 : Int32), M16)))))))) = some ((if drun ls D q = D ∧ sg ls (q + drun ls D q) = 59 then 1 else 0), M') ∧ gi M' 124 3 = iz ((q + drun ls D q + (if drun ls D q = D ∧ sg ls (q + drun ls D q) = 59 then 1 else 0) : Nat) : Int) ∧ kC M7 M' := by
    intro q M7 hq hs7 hp7
    have hdl := drun_le (ls := ls) D q
    obtain ⟨M8, r1, r2, r3⟩ := c_digits hl (m := D) (by omega) (p := q) (by omega) hs7 hp7
    have hb2 := sg_b hl (q + drun ls D q)
    rw [hdb, b_s1, hD, r1, b_s2]
    by_cases q1 : drun ls D q = D
    · rw [if_pos q1, if_neg (by decide), c_here hl (r3.sh hs7) r2 (by omega), b_s1]
      have j59 : (iz (sg ls (q + drun ls D q)) = (59 : Int32)) ↔ sg ls (q + drun ls D q) = 59 := iz_eq (a := sg ls (q + drun ls D q)) (b := 59) (by omega) (by omega) (by omega) (by omega)
      by_cases q2 : sg ls (q + drun ls D q) = 59
      · rw [if_pos (j59.mpr q2), if_pos ⟨q1, q2⟩, if_pos ⟨q1, q2⟩, nmq_q]
        exact ⟨_, rfl, by rw [gi_si, if_pos ⟨rfl, rfl⟩, r2, iz_s], r3.tr kC.si⟩
      · rw [if_neg (fun e => q2 (j59.mp e)), if_neg (fun e => q2 e.2), if_neg (fun e => q2 e.2)]
        exact ⟨_, rfl, r2, r3⟩
    · rw [if_neg q1, if_pos rfl, if_neg (fun e => q1 e.1), if_neg (fun e => q1 e.1)]
      exact ⟨_, rfl, r2, r3⟩
  -- with the letters, if any
  have hres : ∀ (a : Nat), a = lrun ls (lmx (sg ls p)) (p + 1) → (lmx (sg ls p) ≠ 0 → a ≠ 0) → pst ls p = (decide (drun ls D (p + 1 + a) = D ∧ sg ls (p + 1 + a + drun ls D (p + 1 + a)) = 59), p + 1 + a + drun ls D (p + 1 + a) + (if drun ls D (p + 1 + a) = D ∧ sg ls (p + 1 + a + drun ls D (p + 1 + a)) = 59 then 1 else 0)) := by
    intro a ha h0
    have er : rdR ls (sg ls p) (p + 1) = (decide (drun ls D (p + 1 + a) = D), p + 1 + a + drun ls D (p + 1 + a)) := by
      unfold rdR
      rw [if_neg (fun e => h0 e.1 (ha.trans e.2)), ← ha, hD, Int.toNat_natCast]
    unfold pst
    rw [if_neg q0, er]
    by_cases q1 : drun ls D (p + 1 + a) = D
    · rw [if_pos (decide_eq_true q1)]
      by_cases q2 : sg ls (p + 1 + a + drun ls D (p + 1 + a)) = 59
      · have hP : drun ls D (p + 1 + a) = D ∧ sg ls (p + 1 + a + drun ls D (p + 1 + a)) = 59 := ⟨q1, q2⟩
        rw [if_pos q2, if_pos hP, decide_eq_true hP]
      · have hP : ¬ (drun ls D (p + 1 + a) = D ∧ sg ls (p + 1 + a + drun ls D (p + 1 + a)) = 59) := fun e => q2 e.2
        rw [if_neg q2, if_neg hP, decide_eq_false hP]; rfl
    · have hP : ¬ (drun ls D (p + 1 + a) = D ∧ sg ls (p + 1 + a + drun ls D (p + 1 + a)) = 59) := fun e => q1 e.1
      rw [if_neg (show ¬ (decide (drun ls D (p + 1 + a) = D)) = true from fun e => q1 (of_decide_eq_true e)), if_neg hP, decide_eq_false hP]; rfl
  have hres' : ∀ (a : Nat), a = lrun ls (lmx (sg ls p)) (p + 1) → (lmx (sg ls p) ≠ 0 → a ≠ 0) → (pst ls p).1 = decide (drun ls D (p + 1 + a) = D ∧ sg ls (p + 1 + a + drun ls D (p + 1 + a)) = 59) ∧ (pst ls p).2 = p + 1 + a + drun ls D (p + 1 + a) + (if drun ls D (p + 1 + a) = D ∧ sg ls (p + 1 + a + drun ls D (p + 1 + a)) = 59 then 1 else 0) := fun a ha h0 => by
    rw [hres a ha h0]; exact ⟨rfl, rfl⟩
  have hcl : ∀ (P : Prop) [Decidable P], (if decide P = true then (1 : Int32) else 0) = (if P then 1 else 0) := fun P _ => by
    by_cases q : P
    · rw [if_pos (decide_eq_true q), if_pos q]
    · rw [if_neg (by rw [decide_eq_false q]; decide), if_neg q]
  have hun : f_X5_readStatement M = (jq (fun (M7 : Mem) => (jq (fun (M10 : Mem) => (bq1 (f_X5_digitsBehind (iz (sg ls p))) (fun (x13 : Int32) => bq2 (f_X5_readDigits x13 M10) (fun (x15 : Int32) (M16 : Mem) => (if x15 = 0 then some ((0 : Int32), M16) else (bq1 (f_X5_here M16) (fun (x19 : Int32) => (if x19 = (59 : Int32) then (nmq (si M16 124 3 ((gi M16 124 3) + (1 : Int32))) (fun (M22 : Mem) => some ((1 : Int32), M22))) else some ((0 : Int32), M16))))))))) (fun (K12 : Mem → Option (Int32 × Mem)) => (if iz (sg ls p) = (112 : Int32) then (bq2 (f_X5_readLetters (3 : Int32) M7) (fun (x24 : Int32) (M25 : Mem) => (if x24 = 0 then some ((0 : Int32), M25) else (K12 M25)))) else (K12 M7))))) (fun (K9 : Mem → Option (Int32 × Mem)) => (if iz (sg ls p) = (119 : Int32) then (bq2 (f_X5_readLetters (12 : Int32) M6) (fun (x29 : Int32) (M30 : Mem) => (if x29 = 0 then some ((0 : Int32), M30) else (K9 M30)))) else (K9 M6)))) := by
    unfold f_X5_readStatement
    rw [hh, b_s1, hdb, b_s1, if_pos h0le, nmq_q, ← hM6]
  rw [hun]
  by_cases qw : sg ls p = 119
  · have em : lmx (sg ls p) = 12 := by unfold lmx; rw [if_pos qw]
    obtain ⟨M7, r1, r2, r3⟩ := c_letters hl (m := 12) (by omega) (p := p + 1) (by omega) (k6.sh hs) p6
    have hle := lrun_le (ls := ls) 12 (p + 1)
    have r1' : f_X5_readLetters (12 : Int32) M6 = _ := r1
    rw [jq_q, if_pos (j119.mpr qw), r1', b_s2]
    by_cases q1 : lrun ls 12 (p + 1) = 0
    · have ep : pst ls p = (false, p + 1) := by
        have er0 : rdR ls (sg ls p) (p + 1) = (false, p + 1) := by unfold rdR; rw [em]; exact if_pos ⟨by omega, q1⟩
        unfold pst
        rw [if_neg q0, er0]; rfl
      rw [if_pos q1, if_pos rfl, ep]
      exact ⟨M7, rfl, by rw [r2, q1], k6.tr r3⟩
    · obtain ⟨M', t1, t2, t3⟩ := hend (p + 1 + lrun ls 12 (p + 1)) M7 (by omega) (r3.sh (k6.sh hs)) r2
      obtain ⟨w1, w2⟩ := hres' (lrun ls 12 (p + 1)) (by rw [em]) (fun _ => q1)
      rw [if_neg q1, if_neg (by decide), w1, w2, hcl]
      show ∃ M', jq _ _ = _ ∧ _
      rw [jq_q, if_neg (fun e => by have := j112.mp e; omega)]
      exact ⟨M', t1, t2, (k6.tr r3).tr t3⟩
  · by_cases qp : sg ls p = 112
    · have em : lmx (sg ls p) = 3 := by unfold lmx; rw [if_neg qw, if_pos qp]
      obtain ⟨M7, r1, r2, r3⟩ := c_letters hl (m := 3) (by omega) (p := p + 1) (by omega) (k6.sh hs) p6
      have hle := lrun_le (ls := ls) 3 (p + 1)
      have r1' : f_X5_readLetters (3 : Int32) M6 = _ := r1
      rw [jq_q, if_neg (fun e => qw (j119.mp e))]
      show ∃ M', jq _ _ = _ ∧ _
      rw [jq_q, if_pos (j112.mpr qp), r1', b_s2]
      by_cases q1 : lrun ls 3 (p + 1) = 0
      · have ep : pst ls p = (false, p + 1) := by
          have er0 : rdR ls (sg ls p) (p + 1) = (false, p + 1) := by unfold rdR; rw [em]; exact if_pos ⟨by omega, q1⟩
          unfold pst
          rw [if_neg q0, er0]; rfl
        rw [if_pos q1, if_pos rfl, ep]
        exact ⟨M7, rfl, by rw [r2, q1], k6.tr r3⟩
      · obtain ⟨M', t1, t2, t3⟩ := hend (p + 1 + lrun ls 3 (p + 1)) M7 (by omega) (r3.sh (k6.sh hs)) r2
        obtain ⟨w1, w2⟩ := hres' (lrun ls 3 (p + 1)) (by rw [em]) (fun _ => q1)
        rw [if_neg q1, if_neg (by decide), w1, w2, hcl]
        exact ⟨M', t1, t2, (k6.tr r3).tr t3⟩
    · have em : lmx (sg ls p) = 0 := by unfold lmx; rw [if_neg qw, if_neg qp]
      obtain ⟨M', t1, t2, t3⟩ := hend (p + 1) M6 (by omega) (k6.sh hs) p6
      obtain ⟨w1, w2⟩ := hres' 0 (by rw [em]; rfl) (fun h => absurd em h)
      rw [w1, w2, hcl, jq_q, if_neg (fun e => qw (j119.mp e))]
      show ∃ M', jq _ _ = _ ∧ _
      rw [jq_q, if_neg (fun e => qp (j112.mp e))]
      exact ⟨M', t1, t2, k6.tr t3⟩
