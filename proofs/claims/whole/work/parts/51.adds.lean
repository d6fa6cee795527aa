/-! adds: the call -/
def adG (p1 p2 p3 : Int32) (M8 : Mem) : Option (Int32 × Mem) := (nmq ((if 0 ≤ p2 then (if 0 ≤ p3 then ((3 : Int32)) else ((2 : Int32))) else ((1 : Int32)))) (fun (x10 : Int32) => (gq (inB (gi M8 139 9) 16) (nmq (si M8 142 (((gi M8 139 9) : Int32).toNatClampNeg) x10) (fun (M13 : Mem) => gq (inB ((12 : Int32) * (gi M13 139 9)) 192) (nmq (si M13 143 ((((12 : Int32) * (gi M13 139 9)) : Int32).toNatClampNeg) p1) (fun (M15 : Mem) => gq (inB (((12 : Int32) * (gi M15 139 9)) + (1 : Int32)) 192) (nmq (si M15 143 (((((12 : Int32) * (gi M15 139 9)) + (1 : Int32)) : Int32).toNatClampNeg) p2) (fun (M17 : Mem) => gq (inB (((12 : Int32) * (gi M17 139 9)) + (2 : Int32)) 192) (nmq (si M17 143 (((((12 : Int32) * (gi M17 139 9)) + (2 : Int32)) : Int32).toNatClampNeg) p3) (fun (M19 : Mem) => gq (inB (gi M19 139 9) 16) (nmq (si M19 144 (((gi M19 139 9) : Int32).toNatClampNeg) (0 : Int32)) (fun (M21 : Mem) => nmq (si M21 139 9 ((gi M21 139 9) + (1 : Int32))) (fun (M22 : Mem) => some (((gi M22 139 9) - (1 : Int32)), M22)))))))))))))))
def adF (p1 p2 p3 : Int32) (M21 : Mem) : Option (Int32 × Mem) := (nmq ((if p3 < 0 then (if p2 < 0 then ((1 : Int32)) else ((2 : Int32))) else ((3 : Int32)))) (fun (x23 : Int32) => (bq1 (f_X8_spellingOf p1 p2 p3) (fun (x25 : Int64) => bq2 (f_X7_add 3 x25 x23 M21) (fun (x27 : Int32) (M28 : Mem) => some (x27, M28))))))
theorem ch_adds {v : PV} (hv : okN v) (hl : v.1.length < 16) {p1 p2 p3 : Int32} {l : List Nat} (hl3 : l.length ≤ 3) (h1 : (if p3 < 0 then (if p2 < 0 then ((1 : Int32)) else ((2 : Int32))) else ((3 : Int32))) = iz (l.length : Int)) (h2 : (if 0 ≤ p2 then (if 0 ≤ p3 then ((3 : Int32)) else ((2 : Int32))) else ((1 : Int32))) = iz (l.length : Int))
    (hs : f_X8_spellingOf p1 p2 p3 = some (pk l)) (hx : ∀ a : Nat, l[0]? = some a → p1 = iz (a : Int)) (hy : ∀ a : Nat, l[1]? = some a → p2 = iz (a : Int)) (hz : ∀ a : Nat, l[2]? = some a → p3 = iz (a : Int)) :
    chC (adF p1 p2 p3) v (v.1 ++ [(l, 0)], v.2) (iz (v.1.length : Int)) ∧ chM (adG p1 p2 p3) v (v.1 ++ [(l, 0)], v.2) (iz (v.1.length : Int)) := by
  refine ⟨fun M h => ?_, fun M h => ?_⟩
  · obtain ⟨e, q⟩ := h.addW hl (l := l)
    refine ⟨_, ?_, q, ((((sameOn.sl (by omega)).tr (sameOn.si (by omega))).tr (sameOn.si (by omega))).tr (sameOn.si (by omega)))⟩
    unfold adF
    rw [nmq_q, h1, hs, b_s1, b2_id]; exact e
  · refine ⟨mAdd M v.1.length (iz (l.length : Int)) p1 p2 p3, ?_, h.addW hv.1 hl hl3 hx hy hz, ?_, fun j hj => ?_⟩
    · unfold adG
      rw [nmq_q, h2]; exact m_addE h.count hl
    · unfold mAdd
      exact ((((((sameOn.si (by omega)).tr (sameOn.si (by omega))).tr (sameOn.si (by omega))).tr (sameOn.si (by omega))).tr (sameOn.si (by omega))).tr (sameOn.si (by omega)))
    · unfold mAdd
      rw [gi_si, if_neg (by omega), gi_si, if_neg (by omega), gi_si, if_neg (by omega), gi_si, if_neg (by omega), gi_si, if_neg (by omega), gi_si, if_neg (by omega)]
theorem okN.addW {v : PV} (h : okN v) (hl : v.1.length < 16) {l : List Nat} (h1 : okL 12 l) : okN (v.1 ++ [(l, 0)], v.2) := by
  obtain ⟨⟨v1, v2, v3⟩, h0⟩ := h
  refine ⟨⟨by show (v.1 ++ [(l, 0)]).length ≤ 16; rw [List.length_append]; show _ + 1 ≤ 16; omega, fun q hq => ?_, v3⟩, h0⟩
  rcases List.mem_append.mp hq with r | r
  · exact v2 q r
  · rw [List.mem_singleton.mp r]; exact ⟨h1, by show 0 ≤ 1; omega⟩
theorem iz_minus1 : iz (-1 : Int) = (-1 : Int32) := by decide
theorem op_adds {M : Mem} (hI : Inv M) (p1 p2 p3 : Int32) : both M (f_X8_adds p1 p2 p3) (f_X9_adds p1 p2 p3) := by
  have hI' := hI
  obtain ⟨now, img, st, ct, hist, ls, rw_, R, hg, hC, hM⟩ := hI
  obtain ⟨x, x1, x2, rfl⟩ := iz_ex p1
  obtain ⟨y, y1, y2, rfl⟩ := iz_ex p2
  obtain ⟨z, z1, z2, rfl⟩ := iz_ex p3
  have ec1 := c_isLetter x1 x2
  have em1 := m_isLetter x1 x2
  have ec2 := c_lon y1 y2
  have em2 := m_lon y1 y2
  have ec3 := c_lon z1 z2
  have em3 := m_lon z1 z2
  have kn : ∀ M', f_X9_no (-1 : Int32) M' = f_X9_no (iz (-((1 : Nat) : Int))) M' := fun _ => rfl
  have kc : ∀ M', f_X8_refuse (-1 : Int32) M' = f_X8_refuse (iz (-((1 : Nat) : Int))) M' := fun _ => rfl
  by_cases q1 : 0 ≤ x ∧ x ≤ 7
  case neg =>
    rw [if_neg q1] at ec1 em1
    refine both_no hI' (v := 1) (by omega) ?_ (fun M' => ?_)
    · simp (decide := true) only [f_X8_adds, jq, ec1, b_s1, if_true, b2_id]; exact kc _
    · simp (decide := true) only [f_X9_adds, nmq, em1, b_s1, if_true, if_false, b2_id]; exact kn _
  rw [if_pos q1] at ec1 em1
  by_cases q2 : -1 ≤ y ∧ y ≤ 7
  case neg =>
    rw [if_neg q2] at ec2 em2
    refine both_no hI' (v := 1) (by omega) ?_ (fun M' => ?_)
    · simp (decide := true) only [f_X8_adds, jq, ec1, ec2, b_s1, if_true, if_false, b2_id]; exact kc _
    · simp (decide := true) only [f_X9_adds, nmq, em1, em2, b_s1, if_true, if_false, b2_id]; exact kn _
  rw [if_pos q2] at ec2 em2
  by_cases q3 : -1 ≤ z ∧ z ≤ 7
  case neg =>
    rw [if_neg q3] at ec3 em3
    refine both_no hI' (v := 1) (by omega) ?_ (fun M' => ?_)
    · simp (decide := true) only [f_X8_adds, jq, ec1, ec2, ec3, b_s1, if_true, if_false, b2_id]; exact kc _
    · simp (decide := true) only [f_X9_adds, nmq, em1, em2, em3, b_s1, if_true, if_false, b2_id]; exact kn _
  rw [if_pos q3] at ec3 em3
  by_cases q4 : y < 0 ∧ 0 ≤ z
  case pos =>
    have c1 : ¬ (0 : Int32) ≤ iz y := nle_iz (a := 0) (by omega) (by omega) y1 y2 (by omega)
    have c2 : ¬ iz z < (0 : Int32) := nlt_iz (b := 0) z1 z2 (by omega) (by omega) (by omega)
    have c3 : (0 : Int32) ≤ iz z := le_iz (a := 0) (by omega) (by omega) z1 z2 (by omega)
    refine both_no hI' (v := 1) (by omega) ?_ (fun M' => ?_)
    · simp (decide := true) only [f_X8_adds, jq, ec1, ec2, ec3, c1, c2, b_s1, if_true, if_false, b2_id]; exact kc _
    · simp (decide := true) only [f_X9_adds, nmq, em1, em2, em3, c1, c3, b_s1, if_true, if_false, b2_id]; exact kn _
  have hf' : f_X8_adds (iz x) (iz y) (iz z) M = (bq1 (f_X7_isFull 3 M) (fun (x18 : Int32) => (if x18 = 0 then (bq1 (f_X1_remember 1 M) (adF (iz x) (iz y) (iz z))) else (f_X8_refuse (-6 : Int32) M)))) := by
    by_cases q5 : 0 ≤ y
    · have c1 : (0 : Int32) ≤ iz y := le_iz (a := 0) (by omega) (by omega) y1 y2 q5
      simp (decide := true) only [f_X8_adds, jq, ec1, ec2, ec3, c1, b_s1, if_true, if_false, b2_id]
      unfold adF; simp only [b2_id, nmq]
    · have c1 : ¬ (0 : Int32) ≤ iz y := nle_iz (a := 0) (by omega) (by omega) y1 y2 q5
      have c2 : iz z < (0 : Int32) := lt_iz (b := 0) z1 z2 (by omega) (by omega) (by omega)
      simp (decide := true) only [f_X8_adds, jq, ec1, ec2, ec3, c1, c2, b_s1, if_true, if_false, b2_id]
      unfold adF; simp (decide := true) only [b2_id, nmq, c2, if_true]
  have hg' : ∀ M', f_X9_adds (iz x) (iz y) (iz z) M' = (if (if (gi M' 139 9) = (16 : Int32) then ((-6 : Int32)) else ((0 : Int32))) = 0 then (bq1 (f_X9_remembers M') (adG (iz x) (iz y) (iz z))) else (f_X9_no (if (gi M' 139 9) = (16 : Int32) then ((-6 : Int32)) else ((0 : Int32))) M')) := fun M' => by
    by_cases q5 : 0 ≤ y
    · have c1 : (0 : Int32) ≤ iz y := le_iz (a := 0) (by omega) (by omega) y1 y2 q5
      simp (decide := true) only [f_X9_adds, nmq, em1, em2, em3, c1, b_s1, if_true, if_false, b2_id]
      unfold adG; simp (decide := true) only [nmq, c1, if_true]
    · have c1 : ¬ (0 : Int32) ≤ iz y := nle_iz (a := 0) (by omega) (by omega) y1 y2 q5
      have c2 : ¬ (0 : Int32) ≤ iz z := nle_iz (a := 0) (by omega) (by omega) z1 z2 (by omega)
      simp (decide := true) only [f_X9_adds, nmq, em1, em2, em3, c1, c2, b_s1, if_true, if_false, b2_id]
      unfold adG; simp (decide := true) only [nmq, c1, if_false]
  have hl16 := hg.1.1.1
  by_cases q6 : now.1.length = 16
  · refine both_no' hI' (v := 6) (by omega) ?_ (fun M' hs => ?_)
    · rw [hf']
      have : f_X7_isFull 3 M = some (1 : Int32) := by
        unfold f_X7_isFull
        rw [hC.1.1.1, q6, if_neg (by decide)]
      rw [this, b_s1, if_neg (by decide)]; rfl
    · have : gi M' 139 9 = (16 : Int32) := by rw [(hs 139 (by omega)).1, hM.1.count, q6]; rfl
      rw [hg', if_pos this, if_neg (by decide)]; rfl
  have hl : now.1.length < 16 := by omega
  have hF : f_X8_adds (iz x) (iz y) (iz z) M = bq1 (f_X1_remember 1 M) (adF (iz x) (iz y) (iz z)) := by
    rw [hf']
    have : f_X7_isFull 3 M = some (0 : Int32) := by
      unfold f_X7_isFull
      rw [hC.1.1.1, if_pos (show iz (now.1.length : Int) < (16 : Int32) from (iz_cnt (n := now.1.length) (m := 16) (by omega) (by omega)).1.mpr hl)]
    rw [this, b_s1, if_pos rfl]
  have hG : ∀ M', sameOn (fun k => 139 ≤ k) M M' → f_X9_adds (iz x) (iz y) (iz z) M' = bq1 (f_X9_remembers M') (adG (iz x) (iz y) (iz z)) := fun M' hs => by
    have : ¬ gi M' 139 9 = (16 : Int32) := by
      rw [(hs 139 (by omega)).1, hM.1.count]
      exact fun e => q6 ((iz_cnt (n := now.1.length) (m := 16) (by omega) (by omega)).2.1.mp e)
    rw [hg', if_neg this, if_pos rfl]
  refine both_change' hg hC hM hF hG ?_
  obtain ⟨a, rfl⟩ : ∃ a : Nat, x = (a : Int) := ⟨x.toNat, by omega⟩
  by_cases q5 : 0 ≤ y
  · obtain ⟨b, rfl⟩ : ∃ b : Nat, y = (b : Int) := ⟨y.toNat, by omega⟩
    have cy : (0 : Int32) ≤ iz (b : Int) := le_iz (a := 0) (by omega) (by omega) y1 y2 q5
    have cy' : ¬ iz (b : Int) < (0 : Int32) := nlt_iz (b := 0) y1 y2 (by omega) (by omega) (by omega)
    by_cases q7 : 0 ≤ z
    · obtain ⟨c, rfl⟩ : ∃ c : Nat, z = (c : Int) := ⟨z.toNat, by omega⟩
      have cz : (0 : Int32) ≤ iz (c : Int) := le_iz (a := 0) (by omega) (by omega) z1 z2 q7
      have cz' : ¬ iz (c : Int) < (0 : Int32) := nlt_iz (b := 0) z1 z2 (by omega) (by omega) (by omega)
      obtain ⟨r1, r2⟩ := ch_adds hg.1 hl (p1 := iz (a : Int)) (p2 := iz (b : Int)) (p3 := iz (c : Int)) (l := [a, b, c]) (by show 3 ≤ 3; omega) (by rw [if_neg cz']; rfl) (by rw [if_pos cy, if_pos cz]; rfl) (spell3 ⟨a, by omega⟩ ⟨b, by omega⟩ ⟨c, by omega⟩) (fun d hd => by cases hd; rfl) (fun d hd => by cases hd; rfl) (fun d hd => by cases hd; rfl)
      exact ⟨_, _, hg.1.addW hl ⟨by show 1 ≤ 3; omega, by show 3 ≤ 12; omega, fun d hd => by simp only [List.mem_cons, List.not_mem_nil, or_false] at hd; omega⟩, r1, r2⟩
    · have ez : z = -1 := by omega
      subst ez
      have cz : ¬ (0 : Int32) ≤ iz (-1) := by decide
      have cz' : iz (-1) < (0 : Int32) := by decide
      obtain ⟨r1, r2⟩ := ch_adds hg.1 hl (p1 := iz (a : Int)) (p2 := iz (b : Int)) (p3 := iz (-1)) (l := [a, b]) (by show 2 ≤ 3; omega) (by rw [if_pos cz', if_neg cy']; rfl) (by rw [if_pos cy, if_neg cz]; rfl) (by rw [iz_minus1]; exact spell2 ⟨a, by omega⟩ ⟨b, by omega⟩) (fun d hd => by cases hd; rfl) (fun d hd => by cases hd; rfl) (fun d hd => by cases hd)
      exact ⟨_, _, hg.1.addW hl ⟨by show 1 ≤ 2; omega, by show 2 ≤ 12; omega, fun d hd => by simp only [List.mem_cons, List.not_mem_nil, or_false] at hd; omega⟩, r1, r2⟩
  · have ey : y = -1 := by omega
    have ez : z = -1 := by omega
    subst ey; subst ez
    have cz : ¬ (0 : Int32) ≤ iz (-1) := by decide
    have cz' : iz (-1) < (0 : Int32) := by decide
    obtain ⟨r1, r2⟩ := ch_adds hg.1 hl (p1 := iz (a : Int)) (p2 := iz (-1)) (p3 := iz (-1)) (l := [a]) (by show 1 ≤ 3; omega) (by rw [if_pos cz', if_pos cz']; rfl) (by rw [if_neg cz]; rfl) (by rw [iz_minus1]; exact spell1 ⟨a, by omega⟩) (fun d hd => by cases hd; rfl) (fun d hd => by cases hd) (fun d hd => by cases hd)
    exact ⟨_, _, hg.1.addW hl ⟨by show 1 ≤ 1; omega, by show 1 ≤ 12; omega, fun d hd => by simp only [List.mem_cons, List.not_mem_nil, or_false] at hd; omega⟩, r1, r2⟩
