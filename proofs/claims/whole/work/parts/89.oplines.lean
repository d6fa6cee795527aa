/-! lines -/
def ag (L : List Nat) (i : Nat) : Nat := (L[i]?).getD 0
def cntP (P : Nat → Bool) : Nat → Nat → Int
  | 0, _ => 0
  | d + 1, k => (if P k = true then 1 else 0) + cntP P d (k + 1)
theorem bgs_len' {F : List Fr} {s : Nat → Int} (h : (bst F s F.length).isSome = true) : (bgs F s F.length).length ≤ F.length := bgs_len F.length F.length (Nat.le_refl _) h
theorem bgs_ag {F : List Fr} {s : Nat → Int} {i : Nat} (hi : i < (bgs F s F.length).length) : (bgs F s F.length)[i]? = some (ag (bgs F s F.length) i) := by
  unfold ag
  rw [List.getElem?_eq_getElem hi]; rfl
theorem c_showA {F : List Fr} (hk : okFs F) {s : Nat → Int} (hs : okS s) {M : Mem} (hF : cFr M F) (hm : cMs M s) (hS : cSol M F s) (hsome : (bst F s F.length).isSome = true) {i : Nat} (hi : i < (bgs F s F.length).length) : ∃ M', f_X6_show (iz (i : Int)) M = some M' ∧ cLn M' F s (ag (bgs F s F.length) i) (nxt (bgs F s F.length) F.length i) ∧ cMs M' s ∧ sameOn (fun k => k ≠ 127) M M' := c_show hk hs hF hm hS hsome (bgs_ag hi)
theorem cSol.same {M M' : Mem} {F : List Fr} {s : Nat → Int} (h : cSol M F s) (hs : sameOn (fun k => k ≠ 127) M M') : cSol M' F s := by
  unfold cSol
  rw [(hs 133 (by omega)).2.2, (hs 126 (by omega)).1, (hs 132 (by omega)).1]; exact h
theorem cSol.n {M : Mem} {F : List Fr} {s : Nat → Int} (h : cSol M F s) (hsome : (bst F s F.length).isSome = true) : gi M 126 3 = iz ((bgs F s F.length).length : Int) := by
  have := h.2.1
  rw [if_pos hsome] at this; exact this
theorem lnB {F : List Fr} {s : Nat → Int} (hsome : (bst F s F.length).isSome = true) {i : Nat} (hi : i < (bgs F s F.length).length) : ag (bgs F s F.length) i < nxt (bgs F s F.length) F.length i ∧ nxt (bgs F s F.length) F.length i ≤ F.length ∧ fitV F s (ag (bgs F s F.length) i) (nxt (bgs F s F.length) F.length i) = true := by
  obtain ⟨o1, o2, o3⟩ := bgs_ok hsome (bgs_ag hi)
  exact ⟨o1, o2, (okB_iff.mp o3).1⟩
def hypP (F : List Fr) (s : Nat → Int) (i : Nat) : Bool := decide (fe F (nxt (bgs F s F.length) F.length i - 1) = 1)
def widP (F : List Fr) (s : Nat → Int) (i : Nat) : Bool := widB F (ag (bgs F s F.length) i) (nxt (bgs F s F.length) F.length i)
theorem c_hypL {F : List Fr} (hk : okFs F) {s : Nat → Int} (hs : okS s) (hsome : (bst F s F.length).isSome = true) : ∀ (d f k : Nat) (x : Int) (M : Mem), k + d = (bgs F s F.length).length → d < f → cFr M F → cMs M s → cSol M F s →
    ∃ M', lq3 f_X6_hyphenedLines_L4 f (iz x) (iz (k : Int)) M = some (iz (x + cntP (hypP F s) d k), M') ∧ sameOn (fun k => k ≠ 127) M M' := by
  have hl := hk.1
  have hbl := bgs_len' hsome
  intro d
  induction d with
  | zero =>
    intro f k x M e1 e2 hF hm hS
    obtain ⟨f, rfl⟩ : ∃ g, f = g + 1 := ⟨f - 1, by omega⟩
    refine ⟨M, ?_, sameOn.rf⟩
    rw [lq3_s]
    generalize lq3 f_X6_hyphenedLines_L4 f = K
    unfold f_X6_hyphenedLines_L4
    rw [hS.n hsome, if_pos (le_cnt (by omega) (by omega))]
    show _ = some (iz (x + 0), M)
    rw [Int.add_zero]
  | succ d ih =>
    intro f k x M e1 e2 hF hm hS
    obtain ⟨f, rfl⟩ : ∃ g, f = g + 1 := ⟨f - 1, by omega⟩
    obtain ⟨o1, o2, o3⟩ := lnB hsome (i := k) (by omega)
    obtain ⟨M1, s1, s2, s3, s4⟩ := c_showA hk hs hF hm hS hsome (i := k) (by omega)
    have e5 := (s2.2.2.2.2.2 o1).1
    have hb5 := fw_b hk (nxt (bgs F s F.length) F.length k - 1)
    have ihs := fun y => ih f (k + 1) y M1 (by omega) (by omega) (hF.same (s4.mono (fun a ha => by omega))) s3 (hS.same s4)
    rw [lq3_s]
    show ∃ M', _ = some (iz (x + ((if hypP F s k = true then 1 else 0) + cntP (hypP F s) d (k + 1))), M') ∧ _
    have hstep : ∀ K, f_X6_hyphenedLines_L4 K (iz x) (iz (k : Int)) M = (if iz (fe F (nxt (bgs F s F.length) F.length k - 1) : Int) = (1 : Int32) then K (iz (x + 1)) (iz ((k + 1 : Nat) : Int)) M1 else K (iz x) (iz ((k + 1 : Nat) : Int)) M1) := fun K => by
      unfold f_X6_hyphenedLines_L4
      rw [hS.n hsome, if_neg (nle_cnt (by omega) (by omega)), s1, b_s1, e5, nmq_q, nmq_q, nmq_q, iz_s, show (1 : Int32) = iz (1 : Int) from rfl, iz_add]
    by_cases q : fe F (nxt (bgs F s F.length) F.length k - 1) = 1
    · obtain ⟨M', r1, r2⟩ := ihs (x + 1)
      refine ⟨M', ?_, s4.tr r2⟩
      rw [hstep, if_pos (show iz (fe F (nxt (bgs F s F.length) F.length k - 1) : Int) = (1 : Int32) by rw [q]; rfl), r1, if_pos (show hypP F s k = true from decide_eq_true q), Int.add_assoc]
    · obtain ⟨M', r1, r2⟩ := ihs x
      refine ⟨M', ?_, s4.tr r2⟩
      rw [hstep, if_neg (show ¬ iz (fe F (nxt (bgs F s F.length) F.length k - 1) : Int) = (1 : Int32) from ne_cnt (i := 1) q (by omega) (by omega)), r1, if_neg (show ¬ hypP F s k = true from fun e => q (of_decide_eq_true e)), Int.zero_add]
theorem c_widL {F : List Fr} (hk : okFs F) {s : Nat → Int} (hs : okS s) (hsome : (bst F s F.length).isSome = true) : ∀ (d f k : Nat) (x : Int) (M : Mem), k + d = (bgs F s F.length).length → d < f → cFr M F → cMs M s → cSol M F s →
    ∃ M', lq3 f_X6_widowLines_L4 f (iz x) (iz (k : Int)) M = some (iz (x + cntP (widP F s) d k), M') ∧ sameOn (fun k => k ≠ 127) M M' := by
  have hl := hk.1
  have hbl := bgs_len' hsome
  intro d
  induction d with
  | zero =>
    intro f k x M e1 e2 hF hm hS
    obtain ⟨f, rfl⟩ : ∃ g, f = g + 1 := ⟨f - 1, by omega⟩
    refine ⟨M, ?_, sameOn.rf⟩
    rw [lq3_s]
    generalize lq3 f_X6_widowLines_L4 f = K
    unfold f_X6_widowLines_L4
    rw [hS.n hsome, if_pos (le_cnt (by omega) (by omega))]
    show _ = some (iz (x + 0), M)
    rw [Int.add_zero]
  | succ d ih =>
    intro f k x M e1 e2 hF hm hS
    obtain ⟨f, rfl⟩ : ∃ g, f = g + 1 := ⟨f - 1, by omega⟩
    obtain ⟨o1, o2, o3⟩ := lnB hsome (i := k) (by omega)
    obtain ⟨M1, s1, s2, s3, s4⟩ := c_showA hk hs hF hm hS hsome (i := k) (by omega)
    have ew := s2.wid hk o1 o2
    have ihs := fun y => ih f (k + 1) y M1 (by omega) (by omega) (hF.same (s4.mono (fun a ha => by omega))) s3 (hS.same s4)
    rw [lq3_s]
    show ∃ M', _ = some (iz (x + ((if widP F s k = true then 1 else 0) + cntP (widP F s) d (k + 1))), M') ∧ _
    have hstep : ∀ K, f_X6_widowLines_L4 K (iz x) (iz (k : Int)) M = (if (if widP F s k = true then (1 : Int32) else 0) = 0 then K (iz x) (iz ((k + 1 : Nat) : Int)) M1 else K (iz (x + 1)) (iz ((k + 1 : Nat) : Int)) M1) := fun K => by
      unfold f_X6_widowLines_L4
      rw [hS.n hsome, if_neg (nle_cnt (by omega) (by omega)), s1, b_s1, ew, b_s1, nmq_q, nmq_q, nmq_q, iz_s, show (1 : Int32) = iz (1 : Int) from rfl, iz_add]; rfl
    by_cases q : widP F s k = true
    · obtain ⟨M', r1, r2⟩ := ihs (x + 1)
      refine ⟨M', ?_, s4.tr r2⟩
      rw [hstep, if_pos q, if_neg (by decide), r1, if_pos q, Int.add_assoc]
    · obtain ⟨M', r1, r2⟩ := ihs x
      refine ⟨M', ?_, s4.tr r2⟩
      rw [hstep, if_neg q, if_pos rfl, r1, if_neg q, Int.zero_add]
/-! the reference's -/
theorem mSol.atA {M : Mem} {F : List Fr} (hk : okFs F) {s : Nat → Int} (h : mSol M F s) (hsome : (bst F s F.length).isSome = true) {i : Nat} (hi : i < (bgs F s F.length).length) : gi M 155 i = iz (ag (bgs F s F.length) i : Int) ∧ gi M 155 (i + 1) = iz (nxt (bgs F s F.length) F.length i : Int) := by
  have e : bgL F s = bgs F s F.length := by unfold bgL; rw [if_pos hsome]
  have := h.at' hk (i := i) (a := ag (bgs F s F.length) i) (by rw [e]; exact bgs_ag hi)
  exact this.2
theorem mSol.n {M : Mem} {F : List Fr} {s : Nat → Int} (h : mSol M F s) (hsome : (bst F s F.length).isSome = true) : gi M 139 29 = iz ((bgs F s F.length).length : Int) := by
  rw [h.1]
  unfold cntV
  cases hb : bst F s F.length with
  | none => rw [hb] at hsome; cases hsome
  | some x => rfl
theorem m_hypL {M : Mem} {F : List Fr} (hk : okFs F) {s : Nat → Int} (hF : mFr M F) (hS : mSol M F s) (hsome : (bst F s F.length).isSome = true) : ∀ (d f k : Nat) (x : Int), k + d = (bgs F s F.length).length → d < f → lq2 (f_X9_hyphened_L4 M) f (iz x) (iz ((k + 1 : Nat) : Int)) = some (iz (x + cntP (hypP F s) d k)) := by
  have hl := hk.1
  have hbl := bgs_len' hsome
  intro d
  induction d with
  | zero =>
    intro f k x e1 e2
    obtain ⟨f, rfl⟩ : ∃ g, f = g + 1 := ⟨f - 1, by omega⟩
    rw [lq2_s]
    generalize lq2 (f_X9_hyphened_L4 M) f = K
    unfold f_X9_hyphened_L4
    rw [hS.n hsome, if_pos ((iz_cnt (by omega) (by omega)).1.mpr (by omega))]
    show _ = some (iz (x + 0))
    rw [Int.add_zero]
  | succ d ih =>
    intro f k x e1 e2
    obtain ⟨f, rfl⟩ : ∃ g, f = g + 1 := ⟨f - 1, by omega⟩
    obtain ⟨o1, o2, o3⟩ := lnB hsome (i := k) (by omega)
    obtain ⟨t1, t2⟩ := hS.atA hk hsome (i := k) (by omega)
    have u1 := (hF.2.2 (nxt (bgs F s F.length) F.length k - 1) (by omega)).1
    have hb5 := fw_b hk (nxt (bgs F s F.length) F.length k - 1)
    have ihs := fun y => ih f (k + 1) y (by omega) (by omega)
    rw [lq2_s]
    generalize lq2 (f_X9_hyphened_L4 M) f = K at ihs ⊢
    show _ = some (iz (x + ((if hypP F s k = true then 1 else 0) + cntP (hypP F s) d (k + 1))))
    unfold f_X9_hyphened_L4
    rw [hS.n hsome, if_neg (fun e => by have := (iz_cnt (n := (bgs F s F.length).length) (m := k + 1) (by omega) (by omega)).1.mp e; omega), g_t (inB_n (by omega) (by omega)), clN (by omega), t2, iz_m1n (by omega), g_t (inB_n (by omega) (by omega)), nmq_q, nmq_q, nmq_q, clN (by omega), u1, iz_s]
    by_cases q : fe F (nxt (bgs F s F.length) F.length k - 1) = 1
    · rw [if_pos (show iz (fe F (nxt (bgs F s F.length) F.length k - 1) : Int) = (1 : Int32) by rw [q]; rfl), show (1 : Int32) = iz (1 : Int) from rfl, iz_add, ihs, if_pos (show hypP F s k = true from decide_eq_true q), Int.add_assoc]
    · rw [if_neg (show ¬ iz (fe F (nxt (bgs F s F.length) F.length k - 1) : Int) = (1 : Int32) from ne_cnt (i := 1) q (by omega) (by omega)), show (0 : Int32) = iz (0 : Int) from rfl, iz_add, Int.add_zero, ihs, if_neg (show ¬ hypP F s k = true from fun e => q (of_decide_eq_true e)), Int.zero_add]
theorem m_widL {M : Mem} {F : List Fr} (hk : okFs F) {s : Nat → Int} (hF : mFr M F) (hS : mSol M F s) (hsome : (bst F s F.length).isSome = true) : ∀ (d f k : Nat) (x : Int), k + d = (bgs F s F.length).length → d < f → lq2 (f_X9_widows_L4 M) f (iz x) (iz (k : Int)) = some (iz (x + cntP (widP F s) d k)) := by
  have hl := hk.1
  have hbl := bgs_len' hsome
  intro d
  induction d with
  | zero =>
    intro f k x e1 e2
    obtain ⟨f, rfl⟩ : ∃ g, f = g + 1 := ⟨f - 1, by omega⟩
    rw [lq2_s]
    generalize lq2 (f_X9_widows_L4 M) f = K
    unfold f_X9_widows_L4
    rw [hS.n hsome, if_pos (le_cnt (by omega) (by omega))]
    show _ = some (iz (x + 0))
    rw [Int.add_zero]
  | succ d ih =>
    intro f k x e1 e2
    obtain ⟨f, rfl⟩ : ∃ g, f = g + 1 := ⟨f - 1, by omega⟩
    obtain ⟨o1, o2, o3⟩ := lnB hsome (i := k) (by omega)
    obtain ⟨t1, t2⟩ := hS.atA hk hsome (i := k) (by omega)
    have ew := hF.wid hk o1 o2
    have ihs := fun y => ih f (k + 1) y (by omega) (by omega)
    rw [lq2_s]
    generalize lq2 (f_X9_widows_L4 M) f = K at ihs ⊢
    show _ = some (iz (x + ((if widP F s k = true then 1 else 0) + cntP (widP F s) d (k + 1))))
    unfold f_X9_widows_L4
    rw [hS.n hsome, if_neg (nle_cnt (by omega) (by omega)), iz_s, g_t (inB_n (by omega) (by omega)), g_t (inB_n (by omega) (by omega)), clN (by omega), clN (by omega), t1, t2, ew, b_s1, nmq_q, nmq_q, nmq_q]
    show K (iz x + (if (if widP F s k = true then (1 : Int32) else 0) = 0 then (0 : Int32) else (1 : Int32))) (iz ((k + 1 : Nat) : Int)) = _
    by_cases q : widP F s k = true
    · rw [if_pos q, if_neg (show ¬ (1 : Int32) = 0 by decide), show (1 : Int32) = iz (1 : Int) from rfl, iz_add, ihs, if_pos q, Int.add_assoc]
    · rw [if_neg q, if_pos (show (0 : Int32) = 0 from rfl), show (0 : Int32) = iz (0 : Int) from rfl, iz_add, Int.add_zero, ihs, if_neg q, Int.zero_add]
/-! the loosest, the tightest -/
def rtV (F : List Fr) (s : Nat → Int) (i : Nat) : UInt32 := ratV F s (ag (bgs F s F.length) i) (nxt (bgs F s F.length) F.length i)
def extF (g : Bool) (r : Nat → UInt32) : Nat → Option Nat
  | 0 => none
  | k + 1 => match extF g r k with
    | none => some k
    | some j => if (if g = true then zv (r j) < zv (r k) else zv (r k) < zv (r j)) then some k else some j
theorem extF_lt {g : Bool} {r : Nat → UInt32} : ∀ k j, extF g r k = some j → j < k
  | 0, _, h => by cases h
  | k + 1, j, h => by
    unfold extF at h
    cases he : extF g r k with
    | none => rw [he] at h; cases h; omega
    | some i =>
      have := extF_lt k i he
      rw [he] at h
      have h : (if (if g = true then zv (r i) < zv (r k) else zv (r k) < zv (r i)) then some k else some i) = some j := h
      by_cases hq : (if g = true then zv (r i) < zv (r k) else zv (r k) < zv (r i))
      · rw [if_pos hq] at h; cases h; omega
      · rw [if_neg hq] at h; cases h; omega
theorem c_extL {F : List Fr} (hk : okFs F) {s : Nat → Int} (hs : okS s) (hsome : (bst F s F.length).isSome = true) {g : Bool} : ∀ (d f k : Nat) (e : UInt32) (M : Mem), k + d = (bgs F s F.length).length → d < f → (∀ j, extF g (rtV F s) k = some j → e = rtV F s j) → cFr M F → cMs M s → cSol M F s →
    ∃ M', lq4 (f_X6_extremeLine_L8 (if g = true then (1 : Int32) else 0)) f (iz (oI (-9) (extF g (rtV F s) k))) e (iz (k : Int)) M = some (iz (oI (-9) (extF g (rtV F s) (bgs F s F.length).length)), M') ∧ sameOn (fun k => k ≠ 127) M M' := by
  have hl := hk.1
  have hbl := bgs_len' hsome
  intro d
  induction d with
  | zero =>
    intro f k e M e1 e2 he hF hm hS
    obtain ⟨f, rfl⟩ : ∃ g, f = g + 1 := ⟨f - 1, by omega⟩
    refine ⟨M, ?_, sameOn.rf⟩
    rw [lq4_s]
    generalize lq4 (f_X6_extremeLine_L8 (if g = true then (1 : Int32) else 0)) f = K
    unfold f_X6_extremeLine_L8
    rw [hS.n hsome, if_pos (le_cnt (by omega) (by omega)), show k = (bgs F s F.length).length by omega]
  | succ d ih =>
    intro f k e M e1 e2 he hF hm hS
    obtain ⟨f, rfl⟩ : ∃ g, f = g + 1 := ⟨f - 1, by omega⟩
    obtain ⟨o1, o2, o3⟩ := lnB hsome (i := k) (by omega)
    obtain ⟨M1, s1, s2, s3, s4⟩ := c_showA hk hs hF hm hS hsome (i := k) (by omega)
    have e6 : gf M1 127 6 = rtV F s k := (s2.2.2.2.2.2 o1).2.2.2
    have hnk : fval (rtV F s k) ≠ .nan := rat_ne hk hs o1 o2
    have ihs := fun y h => ih f (k + 1) y M1 (by omega) (by omega) h (hF.same (s4.mono (fun a ha => by omega))) s3 (hS.same s4)
    rw [lq4_s]
    have eS : extF g (rtV F s) (k + 1) = (match extF g (rtV F s) k with
      | none => some k
      | some j => if (if g = true then zv (rtV F s j) < zv (rtV F s k) else zv (rtV F s k) < zv (rtV F s j)) then some k else some j) := rfl
    rw [eS] at ihs
    have hgp : (if g = true then (1 : Int32) else 0) = 0 ↔ g = false := by cases g <;> decide
    cases hx : extF g (rtV F s) k with
    | none =>
      rw [hx] at ihs
      obtain ⟨M', r1, r2⟩ := ihs (rtV F s k) (fun j hj => by cases hj; rfl)
      refine ⟨M', ?_, s4.tr r2⟩
      generalize lq4 (f_X6_extremeLine_L8 (if g = true then (1 : Int32) else 0)) f = K at r1 ⊢
      unfold f_X6_extremeLine_L8
      rw [hS.n hsome, if_neg (nle_cnt (by omega) (by omega)), s1, b_s1, jq_q, if_pos (show iz (oI (-9) none) = (-9 : Int32) by decide)]
      show nmq _ _ = _
      rw [nmq_q, e6, iz_s]; exact r1
    | some j =>
      have hjk := extF_lt k j hx
      obtain ⟨p1, p2, p3⟩ := lnB hsome (i := j) (by omega)
      have hnj : fval (rtV F s j) ≠ .nan := rat_ne hk hs p1 p2
      rw [hx] at ihs
      have ee := he j hx
      have hun : f_X6_extremeLine_L8 (if g = true then (1 : Int32) else 0) (lq4 (f_X6_extremeLine_L8 (if g = true then (1 : Int32) else 0)) f) (iz (oI (-9) (some j))) e (iz (k : Int)) M = (if (if g = true then zv (rtV F s j) < zv (rtV F s k) else zv (rtV F s k) < zv (rtV F s j)) then lq4 (f_X6_extremeLine_L8 (if g = true then (1 : Int32) else 0)) f (iz (k : Int)) (rtV F s k) (iz ((k + 1 : Nat) : Int)) M1 else lq4 (f_X6_extremeLine_L8 (if g = true then (1 : Int32) else 0)) f (iz (j : Int)) e (iz ((k + 1 : Nat) : Int)) M1) := by
        generalize lq4 (f_X6_extremeLine_L8 (if g = true then (1 : Int32) else 0)) f = K
        unfold f_X6_extremeLine_L8
        rw [hS.n hsome, if_neg (nle_cnt (by omega) (by omega)), s1, b_s1, jq_q, if_neg (show ¬ iz (oI (-9) (some j)) = (-9 : Int32) by show ¬ iz (j : Int) = (-9 : Int32); exact neq_iz (a := (j : Int)) (b := -9) (by omega) (by omega) (by omega) (by omega) (by omega)), e6, ee, (fc_val hnk hnj).1, (fc_val hnk hnj).2]
        cases g with
        | true =>
          rw [if_neg (show ¬ (if true = true then (1 : Int32) else 0) = 0 by decide)]
          show _ = (if zv (rtV F s j) < zv (rtV F s k) then _ else _)
          by_cases q : zv (rtV F s j) < zv (rtV F s k)
          · rw [if_neg (fun t => by have := cmp3_le.mp t; omega), if_pos q]
            show nmq _ _ = _
            rw [nmq_q, nmq_q, iz_s]
          · rw [if_pos (cmp3_le.mpr (by omega)), if_neg q, nmq_q, iz_s]; rfl
        | false =>
          rw [if_pos (show (if false = true then (1 : Int32) else 0) = 0 by decide)]
          show _ = (if zv (rtV F s k) < zv (rtV F s j) then _ else _)
          by_cases q : zv (rtV F s k) < zv (rtV F s j)
          · rw [if_neg (fun t => by have := cmp3_ge.mp t; omega), if_pos q]
            show nmq _ _ = _
            rw [nmq_q, nmq_q, iz_s]
          · rw [if_pos (cmp3_ge.mpr (by omega)), if_neg q, nmq_q, iz_s]; rfl
      rw [hun]
      have ihs : ∀ y, (∀ i, (if (if g = true then zv (rtV F s j) < zv (rtV F s k) else zv (rtV F s k) < zv (rtV F s j)) then some k else some j) = some i → y = rtV F s i) → ∃ M', lq4 (f_X6_extremeLine_L8 (if g = true then (1 : Int32) else 0)) f (iz (oI (-9) (if (if g = true then zv (rtV F s j) < zv (rtV F s k) else zv (rtV F s k) < zv (rtV F s j)) then some k else some j))) y (iz ((k + 1 : Nat) : Int)) M1 = some (iz (oI (-9) (extF g (rtV F s) (bgs F s F.length).length)), M') ∧ sameOn (fun k => k ≠ 127) M1 M' := ihs
      by_cases q : (if g = true then zv (rtV F s j) < zv (rtV F s k) else zv (rtV F s k) < zv (rtV F s j))
      · rw [if_pos q] at ihs ⊢
        obtain ⟨M', r1, r2⟩ := ihs (rtV F s k) (fun i hi => by cases hi; rfl)
        exact ⟨M', r1, s4.tr r2⟩
      · rw [if_neg q] at ihs ⊢
        obtain ⟨M', r1, r2⟩ := ihs e (fun i hi => by cases hi; exact ee)
        exact ⟨M', r1, s4.tr r2⟩
theorem m_rtV {v : PV} (hv : okV v) {M : Mem} {F : List Fr} (hk : okFs F) (hm : mPar (rdNow M) v) (hF : mFr M F) (hS : mSol M F v.2.2.2) (hsome : (bst F v.2.2.2 F.length).isSome = true) {i : Nat} (hi : i < (bgs F v.2.2.2 F.length).length) : f_X9_ratioOfLine (iz (i : Int)) M = some (rtV F v.2.2.2 i) := by
  have hl := hk.1
  have hbl := bgs_len' hsome
  obtain ⟨o1, o2, o3⟩ := lnB hsome hi
  obtain ⟨t1, t2⟩ := hS.atA hk hsome hi
  unfold f_X9_ratioOfLine
  rw [iz_s, g_t (inB_n (by omega) (by omega)), g_t (inB_n (by omega) (by omega)), clN (by omega), clN (by omega), t1, t2, hF.rat hv hm hk o1 o2, b_s1]; rfl
theorem m_looL {v : PV} (hv : okV v) {M : Mem} {F : List Fr} (hk : okFs F) (hm : mPar (rdNow M) v) (hF : mFr M F) (hS : mSol M F v.2.2.2) (hsome : (bst F v.2.2.2 F.length).isSome = true) : ∀ (d f k : Nat), k + d = (bgs F v.2.2.2 F.length).length → d < f →
    lq2 (f_X9_loosest_L5 M) f (iz (oI (-9) (extF true (rtV F v.2.2.2) k))) (iz (k : Int)) = some (iz (oI (-9) (extF true (rtV F v.2.2.2) (bgs F v.2.2.2 F.length).length))) ∧ lq2 (f_X9_tightest_L5 M) f (iz (oI (-9) (extF false (rtV F v.2.2.2) k))) (iz (k : Int)) = some (iz (oI (-9) (extF false (rtV F v.2.2.2) (bgs F v.2.2.2 F.length).length))) := by
  have hl := hk.1
  have hs := hv.2.2.2.2.2
  have hbl := bgs_len' hsome
  have hne : ∀ i, i < (bgs F v.2.2.2 F.length).length → fval (rtV F v.2.2.2 i) ≠ .nan := fun i hi => by
    obtain ⟨o1, o2, o3⟩ := lnB hsome hi
    exact rat_ne hk hs o1 o2
  intro d
  induction d with
  | zero =>
    intro f k e1 e2
    obtain ⟨f, rfl⟩ : ∃ g, f = g + 1 := ⟨f - 1, by omega⟩
    refine ⟨?_, ?_⟩
    · rw [lq2_s]
      generalize lq2 (f_X9_loosest_L5 M) f = K
      unfold f_X9_loosest_L5
      rw [hS.n hsome, if_pos (le_cnt (by omega) (by omega)), show k = (bgs F v.2.2.2 F.length).length by omega]
    · rw [lq2_s]
      generalize lq2 (f_X9_tightest_L5 M) f = K
      unfold f_X9_tightest_L5
      rw [hS.n hsome, if_pos (le_cnt (by omega) (by omega)), show k = (bgs F v.2.2.2 F.length).length by omega]
  | succ d ih =>
    intro f k e1 e2
    obtain ⟨f, rfl⟩ : ∃ g, f = g + 1 := ⟨f - 1, by omega⟩
    obtain ⟨ih1, ih2⟩ := ih f (k + 1) (by omega) (by omega)
    have er := m_rtV hv hk hm hF hS hsome (i := k) (by omega)
    have eS : ∀ g, extF g (rtV F v.2.2.2) (k + 1) = (match extF g (rtV F v.2.2.2) k with
      | none => some k
      | some j => if (if g = true then zv (rtV F v.2.2.2 j) < zv (rtV F v.2.2.2 k) else zv (rtV F v.2.2.2 k) < zv (rtV F v.2.2.2 j)) then some k else some j) := fun g => rfl
    rw [eS] at ih1 ih2
    refine ⟨?_, ?_⟩
    · rw [lq2_s]
      generalize lq2 (f_X9_loosest_L5 M) f = K at ih1 ⊢
      unfold f_X9_loosest_L5
      rw [hS.n hsome, if_neg (nle_cnt (by omega) (by omega))]
      cases hx : extF true (rtV F v.2.2.2) k with
      | none =>
        rw [hx] at ih1
        rw [if_pos (show iz (oI (-9) none) < 0 by decide), nmq_q, iz_s]; exact ih1
      | some j =>
        have hjk := extF_lt k j hx
        rw [hx] at ih1
        have ih1 : K (iz (oI (-9) (if zv (rtV F v.2.2.2 j) < zv (rtV F v.2.2.2 k) then some k else some j))) (iz ((k + 1 : Nat) : Int)) = _ := ih1
        rw [if_neg (show ¬ iz (oI (-9) (some j)) < 0 from not_neg j (by omega)), er, b_s1]
        show bq1 (f_X9_ratioOfLine (iz (j : Int)) M) _ = _
        rw [m_rtV hv hk hm hF hS hsome (i := j) (by omega), b_s1, (fc_val (hne k (by omega)) (hne j (by omega))).2, nmq_q, nmq_q, iz_s]
        by_cases q : zv (rtV F v.2.2.2 j) < zv (rtV F v.2.2.2 k)
        · rw [if_pos q] at ih1
          rw [if_neg (fun t => by have := cmp3_le.mp t; omega)]; exact ih1
        · rw [if_neg q] at ih1
          rw [if_pos (cmp3_le.mpr (by omega))]; exact ih1
    · rw [lq2_s]
      generalize lq2 (f_X9_tightest_L5 M) f = K at ih2 ⊢
      unfold f_X9_tightest_L5
      rw [hS.n hsome, if_neg (nle_cnt (by omega) (by omega))]
      cases hx : extF false (rtV F v.2.2.2) k with
      | none =>
        rw [hx] at ih2
        rw [if_pos (show iz (oI (-9) none) < 0 by decide), nmq_q, iz_s]; exact ih2
      | some j =>
        have hjk := extF_lt k j hx
        rw [hx] at ih2
        have ih2 : K (iz (oI (-9) (if zv (rtV F v.2.2.2 k) < zv (rtV F v.2.2.2 j) then some k else some j))) (iz ((k + 1 : Nat) : Int)) = _ := ih2
        rw [if_neg (show ¬ iz (oI (-9) (some j)) < 0 from not_neg j (by omega)), er, b_s1]
        show bq1 (f_X9_ratioOfLine (iz (j : Int)) M) _ = _
        rw [m_rtV hv hk hm hF hS hsome (i := j) (by omega), b_s1, (fc_val (hne k (by omega)) (hne j (by omega))).1, nmq_q, nmq_q, iz_s]
        by_cases q : zv (rtV F v.2.2.2 k) < zv (rtV F v.2.2.2 j)
        · rw [if_pos q] at ih2
          rw [if_neg (fun t => by have := cmp3_ge.mp t; omega)]; exact ih2
        · rw [if_neg q] at ih2
          rw [if_pos (cmp3_ge.mpr (by omega))]; exact ih2
/-- what lines answers -/
def linV (F : List Fr) (s : Nat → Int) (p : Int32) : Int :=
  if p = 5 then (F.length : Int) else if p = 0 ∨ cntV F s = -9 then cntV F s else if p = 1 then cntP (hypP F s) (bgs F s F.length).length 0 else if p = 2 then cntP (widP F s) (bgs F s F.length).length 0 else oI (-9) (extF (decide (p = 3)) (rtV F s) (bgs F s F.length).length)
theorem op_lines {M : Mem} (hI : Inv M) (p : Int32) : both M (f_X8_lines p) (f_X9_lines p) := by
  obtain ⟨y, y1, y2, hy⟩ := iz_ex p
  have eo : f_X8_isOther p (6 : Int32) = _ := hy ▸ c_isOther (z := y) (n := 6) y1 y2 (by omega) (by omega)
  have ei : f_X9_isIn p (0 : Int32) (5 : Int32) = _ := hy ▸ m_isIn (z := y) (lo := 0) (hi := 5) y1 y2 (by omega) (by omega) (by omega) (by omega)
  have kn2 : ∀ M', f_X9_no (-2 : Int32) M' = f_X9_no (iz (-((2 : Nat) : Int))) M' := fun _ => rfl
  have kc2 : ∀ M', f_X8_refuse (-2 : Int32) M' = f_X8_refuse (iz (-((2 : Nat) : Int))) M' := fun _ => rfl
  by_cases q3 : 0 ≤ y ∧ y < 6
  case neg =>
    rw [if_neg q3] at eo
    rw [if_neg (show ¬ (0 ≤ y ∧ y ≤ 5) by omega)] at ei
    refine both_no hI (v := 2) (by omega) ?_ (fun M' => ?_)
    · simp (decide := true) only [f_X8_lines, eo, b_s1, if_false, b2_id]; exact kc2 _
    · simp (decide := true) only [f_X9_lines, ei, b_s1, if_true, b2_id]; exact kn2 _
  rw [if_pos q3] at eo
  rw [if_pos (show 0 ≤ y ∧ y ≤ 5 by omega)] at ei
  have hI' := hI
  obtain ⟨now, img, st, ct, hist, ls, rw_, R, hg, hC, hM⟩ := hI
  have hv := hg.1.1
  have hs := hv.2.2.2.2.2
  have hk : okFs (frs now 0 now.1) := frs_okFs hv (fun q hq => hq) (Nat.le_refl _)
  have hl := hk.1
  have hb := cntV_b hk (s := now.2.2.2)
  obtain ⟨Mc, r1, r2, r3, r4, r5⟩ := c_set (p := 1) (Or.inl rfl) hv hC.1 (g := 0) (by omega)
  rw [leftW_0] at r1 r2 r3
  have r1' : f_X6_set 1 (0 : Int32) M = _ := r1
  have k5 : keepC M Mc := keepC.of (r5.mono (fun a ha => by omega))
  have hsm : cntV (frs now 0 now.1) now.2.2.2 ≠ -9 → (bst (frs now 0 now.1) now.2.2.2 (frs now 0 now.1).length).isSome = true := fun h => by
    cases hbs : bst (frs now 0 now.1) now.2.2.2 (frs now 0 now.1).length with
    | none => exact absurd (hb.2.2.mpr hbs) h
    | some x => rfl
  refine both_ask hI' (r := iz (linV (frs now 0 now.1) now.2.2.2 p)) ?_ (fun M' hs' => ?_)
  · unfold f_X8_lines linV
    rw [eo, b_s1, if_pos rfl, r1', b_s2]
    by_cases c5 : p = 5
    · rw [if_pos c5, if_pos c5, r3.1]; exact ⟨Mc, k5, rfl⟩
    rw [if_neg c5, if_neg c5]
    by_cases c0 : p = 0
    · rw [if_pos c0, if_pos (Or.inl c0)]; exact ⟨Mc, k5, rfl⟩
    rw [if_neg c0]
    by_cases c9 : cntV (frs now 0 now.1) now.2.2.2 = -9
    · rw [if_pos (show iz (cntV (frs now 0 now.1) now.2.2.2) = (-9 : Int32) by rw [c9]; decide), if_pos (Or.inr c9)]; exact ⟨Mc, k5, rfl⟩
    have hsome := hsm c9
    rw [if_neg (show ¬ iz (cntV (frs now 0 now.1) now.2.2.2) = (-9 : Int32) from neq_iz (b := -9) (by omega) (by omega) (by omega) (by omega) c9), if_neg (show ¬ (p = 0 ∨ cntV (frs now 0 now.1) now.2.2.2 = -9) from fun t => t.elim c0 c9)]
    have hbl := bgs_len' hsome
    by_cases c1 : p = 1
    · obtain ⟨M2, t1, t2⟩ := c_hypL hk hs hsome (bgs (frs now 0 now.1) now.2.2.2 (frs now 0 now.1).length).length FU 0 0 Mc (by omega) (by rw [FU_eq]; omega) r3 r4 r2
      have t1' : lq3 f_X6_hyphenedLines_L4 FU (0 : Int32) (0 : Int32) Mc = _ := t1
      rw [if_pos c1, if_pos c1]
      refine ⟨M2, k5.tr (keepC.of (t2.mono (fun a ha => by omega))), ?_⟩
      unfold f_X6_hyphenedLines
      rw [t1', b_s2, b_s2, Int.zero_add]
    rw [if_neg c1, if_neg c1]
    by_cases c2 : p = 2
    · obtain ⟨M2, t1, t2⟩ := c_widL hk hs hsome (bgs (frs now 0 now.1) now.2.2.2 (frs now 0 now.1).length).length FU 0 0 Mc (by omega) (by rw [FU_eq]; omega) r3 r4 r2
      have t1' : lq3 f_X6_widowLines_L4 FU (0 : Int32) (0 : Int32) Mc = _ := t1
      rw [if_pos c2, if_pos c2]
      refine ⟨M2, k5.tr (keepC.of (t2.mono (fun a ha => by omega))), ?_⟩
      unfold f_X6_widowLines
      rw [t1', b_s2, b_s2, Int.zero_add]
    rw [if_neg c2, if_neg c2, nmq_q]
    obtain ⟨M2, t1, t2⟩ := c_extL hk hs hsome (g := decide (p = 3)) (bgs (frs now 0 now.1) now.2.2.2 (frs now 0 now.1).length).length FU 0 FP.fconst0 Mc (by omega) (by rw [FU_eq]; omega) (fun j hj => by cases hj) r3 r4 r2
    have eg : (if p = (3 : Int32) then ((1 : Int32)) else ((0 : Int32))) = (if decide (p = 3) = true then (1 : Int32) else 0) := by
      by_cases c3 : p = 3
      · rw [if_pos c3, if_pos (decide_eq_true c3)]
      · rw [if_neg c3, if_neg (fun e => c3 (of_decide_eq_true e))]
    have t1' : lq4 (f_X6_extremeLine_L8 (if decide (p = 3) = true then (1 : Int32) else 0)) FU (-9 : Int32) FP.fconst0 (0 : Int32) Mc = _ := t1
    refine ⟨M2, k5.tr (keepC.of (t2.mono (fun a ha => by omega))), ?_⟩
    unfold f_X6_extremeLine
    rw [eg, t1', b_s2, b_s2]
  · have hm := (hM.same hg hs').1
    obtain ⟨M2, f1, f2, f3, f4⟩ := m_find hv hm
    have hm2 := f4.par hv hm
    refine ⟨M2, f4.keep, ?_⟩
    unfold f_X9_lines linV
    rw [ei, b_s1, if_neg (by decide), f1, b_s2, f3.1]
    by_cases c5 : p = 5
    · rw [if_pos c5, if_pos c5]
    rw [if_neg c5, if_neg c5, f2.1]
    by_cases c9 : cntV (frs now 0 now.1) now.2.2.2 = -9
    · rw [if_neg (show ¬ (0 : Int32) ≤ iz (cntV (frs now 0 now.1) now.2.2.2) by rw [c9]; decide), if_pos (Or.inr c9), c9]; rfl
    have hsome := hsm c9
    have hbl := bgs_len' hsome
    rw [if_pos (show (0 : Int32) ≤ iz (cntV (frs now 0 now.1) now.2.2.2) from le_iz (a := 0) (by omega) (by omega) (by omega) (by omega) (by omega))]
    by_cases c0 : p = 0
    · rw [if_pos c0, if_pos (Or.inl c0)]
    rw [if_neg c0, if_neg (show ¬ (p = 0 ∨ cntV (frs now 0 now.1) now.2.2.2 = -9) from fun t => t.elim c0 c9)]
    by_cases c1 : p = 1
    · have t1 := m_hypL hk f3 f2 hsome (bgs (frs now 0 now.1) now.2.2.2 (frs now 0 now.1).length).length FU 0 0 (by omega) (by rw [FU_eq]; omega)
      have t1' : lq2 (f_X9_hyphened_L4 M2) FU (0 : Int32) (1 : Int32) = _ := t1
      rw [if_pos c1, if_pos c1]
      unfold f_X9_hyphened
      rw [t1', b_s1, b_s1, Int.zero_add]
    rw [if_neg c1, if_neg c1]
    by_cases c2 : p = 2
    · have t1 := m_widL hk f3 f2 hsome (bgs (frs now 0 now.1) now.2.2.2 (frs now 0 now.1).length).length FU 0 0 (by omega) (by rw [FU_eq]; omega)
      have t1' : lq2 (f_X9_widows_L4 M2) FU (0 : Int32) (0 : Int32) = _ := t1
      rw [if_pos c2, if_pos c2]
      unfold f_X9_widows
      rw [t1', b_s1, b_s1, Int.zero_add]
    rw [if_neg c2, if_neg c2]
    obtain ⟨t1, t2⟩ := m_looL hv hk hm2 f3 f2 hsome (bgs (frs now 0 now.1) now.2.2.2 (frs now 0 now.1).length).length FU 0 (by omega) (by rw [FU_eq]; omega)
    have t1' : lq2 (f_X9_loosest_L5 M2) FU (-9 : Int32) (0 : Int32) = _ := t1
    have t2' : lq2 (f_X9_tightest_L5 M2) FU (-9 : Int32) (0 : Int32) = _ := t2
    by_cases c3 : p = 3
    · rw [if_pos c3, decide_eq_true c3]
      unfold f_X9_loosest
      rw [t1', b_s1, b_s1]
    · rw [if_neg c3, decide_eq_false c3]
      unfold f_X9_tightest
      rw [t2', b_s1, b_s1]
