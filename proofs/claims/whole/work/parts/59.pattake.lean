/-! patterns: one comes -/
def putP (ps : List Pat) (n : Nat) (x : Pat) : List Pat := if n < ps.length then ps.set n x else ps ++ [x]
theorem putP_len (ps : List Pat) (n : Nat) (x : Pat) : (putP ps n x).length = if n < ps.length then ps.length else ps.length + 1 := by
  unfold putP
  by_cases h : n < ps.length
  · rw [if_pos h, if_pos h, List.length_set]
  · rw [if_neg h, if_neg h, List.length_append]; rfl
theorem putP_at {ps : List Pat} {n : Nat} {x : Pat} (hn : n ≤ ps.length) {w : Nat} {q : Pat} (h : (putP ps n x)[w]? = some q) : (w = n ∧ q = x) ∨ (w ≠ n ∧ ps[w]? = some q) := by
  unfold putP at h
  by_cases h1 : n < ps.length
  · rw [if_pos h1, List.getElem?_set] at h
    by_cases r : n = w
    · rw [if_pos r, if_pos (by omega)] at h
      cases h; exact Or.inl ⟨r.symm, rfl⟩
    · rw [if_neg r] at h
      exact Or.inr ⟨fun e => r e.symm, h⟩
  · rw [if_neg h1] at h
    rcases snoc_at h with ⟨r1, r2⟩ | ⟨r1, r2⟩
    · exact Or.inr ⟨by omega, r2⟩
    · exact Or.inl ⟨by omega, r2⟩
theorem putP_mem {ps : List Pat} {n : Nat} {x q : Pat} (hn : n ≤ ps.length) (h : q ∈ putP ps n x) : q = x ∨ q ∈ ps := by
  obtain ⟨w, hw⟩ := List.mem_iff_getElem?.mp h
  rcases putP_at hn hw with ⟨_, r⟩ | ⟨_, r⟩
  · exact Or.inl r
  · exact Or.inr (List.mem_of_getElem? r)
theorem c_take {M : Mem} {k : Nat} {ps : List Pat} (h : cPs M k ps) (a2 : alen (k + 2) = 8) (a3 : alen (k + 3) = 8) (a4 : alen (k + 4) = 8) (hl : ps.length ≤ 8) (hok : ∀ q ∈ ps, okP q) {l : List Nat} {p x n : Nat} (h1 : l.length ≤ 12) (h2 : ∀ a ∈ l, a < 8) (hp : p < 1000) (hn : n = ixF (patIs l p) ps) (hn8 : n < 8) :
    ∃ M', f_X4_take k (pk l) (iz (l.length : Int)) (iz (p : Int)) (iz (x : Int)) M = some (iz ((putP ps n (l, p, x)).length : Int), M') ∧ cPs M' k (putP ps n (l, p, x)) ∧ (∀ j, j ≠ 4 → gi M' k j = gi M k j) ∧ sameOn (fun b => b < k ∨ k + 5 ≤ b) M M' := by
  have hle := ixF_le (patIs l p) ps
  rw [← hn] at hle
  obtain ⟨M1, hM1⟩ : ∃ M1, M1 = si (si (si (sl M (k + 1) n (pk l)) (k + 2) n (iz (l.length : Int))) (k + 3) n (iz (p : Int))) (k + 4) n (iz (x : Int)) := ⟨_, rfl⟩
  have hs : sameOn (fun b => b ≤ k ∨ k + 5 ≤ b) M M1 := by rw [hM1]; exact (((sameOn.sl (by omega)).tr (sameOn.si (by omega))).tr (sameOn.si (by omega))).tr (sameOn.si (by omega))
  have g1 : ∀ w, gl M1 (k + 1) w = if w = n then pk l else gl M (k + 1) w := fun w => by
    have : gl M1 (k + 1) w = gl (sl M (k + 1) n (pk l)) (k + 1) w := by rw [hM1]; rfl
    rw [this, gl_sl']
    by_cases q : w = n
    · rw [if_pos ⟨rfl, q⟩, if_pos q]
    · rw [if_neg (by omega), if_neg q]
  have g2 : ∀ w, gi M1 (k + 2) w = if w = n then iz (l.length : Int) else gi M (k + 2) w := fun w => by
    rw [hM1, gi_si, if_neg (by omega), gi_si, if_neg (by omega), gi_si]
    by_cases q : w = n
    · rw [if_pos ⟨rfl, q⟩, if_pos q]
    · rw [if_neg (by omega), if_neg q]; rfl
  have g3 : ∀ w, gi M1 (k + 3) w = if w = n then iz (p : Int) else gi M (k + 3) w := fun w => by
    rw [hM1, gi_si, if_neg (by omega), gi_si]
    by_cases q : w = n
    · rw [if_pos ⟨rfl, q⟩, if_pos q]
    · rw [if_neg (by omega), if_neg q, gi_si, if_neg (by omega)]; rfl
  have g4 : ∀ w, gi M1 (k + 4) w = if w = n then iz (x : Int) else gi M (k + 4) w := fun w => by
    rw [hM1, gi_si]
    by_cases q : w = n
    · rw [if_pos ⟨rfl, q⟩, if_pos q]
    · rw [if_neg (by omega), if_neg q, gi_si, if_neg (by omega), gi_si, if_neg (by omega)]; rfl
  have gk : gi M1 k 4 = iz (ps.length : Int) := by rw [(hs k (by omega)).1]; exact h.1
  have hmax : f_J9_max_7cf53 (iz (ps.length : Int)) (iz (n : Int) + (1 : Int32)) = some (iz ((putP ps n (l, p, x)).length : Int)) := by
    unfold f_J9_max_7cf53
    rw [iz_s, putP_len]
    by_cases q : n < ps.length
    · rw [if_neg (fun e => by have := (iz_cnt (n := ps.length) (m := n + 1) (by omega) (by omega)).1.mp e; omega), if_pos q]
    · rw [if_pos ((iz_cnt (n := ps.length) (m := n + 1) (by omega) (by omega)).1.mpr (by omega)), if_neg q, show n + 1 = ps.length + 1 by omega]
  refine ⟨si M1 k 4 (iz ((putP ps n (l, p, x)).length : Int)), ?_, ⟨by rw [gi_si, if_pos ⟨rfl, rfl⟩], fun w q hq => ?_⟩, fun j hj => ?_, (hs.mono (fun b hb => by omega)).tr (sameOn.si (by omega))⟩
  · unfold f_X4_take
    rw [c_num h a3 hl hok h1 h2 hp, ← hn, b_s1, if_neg (not_neg n (by omega)), if_neg (show ¬ (8 : Int32) ≤ iz (n : Int) from nle_cnt (n := 8) hn8 (by omega)), g_t (inB_n hn8 (by omega)), nmq_q, clN (by omega), b_s1]
    rw [c_put a2 (by omega) hn8, b_s1, c_put a3 (by omega) hn8, b_s1, c_put a4 (by omega) hn8, b_s1, ← hM1, gk, hmax, b_s1, nmq_q, gi_si, if_pos ⟨rfl, rfl⟩]
  · rw [gl_si, gi_si, if_neg (by omega), gi_si, if_neg (by omega), gi_si, if_neg (by omega), g1, g2, g3, g4]
    rcases putP_at hle hq with ⟨r1, r2⟩ | ⟨r1, r2⟩
    · rw [if_pos r1, if_pos r1, if_pos r1, if_pos r1, r2]; exact ⟨rfl, rfl, rfl, rfl⟩
    · rw [if_neg r1, if_neg r1, if_neg r1, if_neg r1]; exact h.2 w q r2
  · rw [gi_si, if_neg (by omega), (hs k (by omega)).1]
theorem m_comesL {n m : Nat} (hn : n < 8) (hm : m ≤ 3) : ∀ (d f k : Nat) (M : Mem), k + d = m → d < f →
    ∃ M', lq2 (f_X9_comesPattern_L25 (iz (n : Int)) (iz (m : Int))) f (iz (k : Int)) M = some M' ∧ (∀ j, gi M' 146 j = if 3 * n + k ≤ j ∧ j < 3 * n + m then gi M 162 (j - 3 * n) else gi M 146 j) ∧ sameOn (fun b => b ≠ 146) M M' := by
  intro d
  induction d with
  | zero =>
    intro f k M e1 e2
    obtain ⟨f, rfl⟩ : ∃ g, f = g + 1 := ⟨f - 1, by omega⟩
    refine ⟨M, ?_, fun j => by rw [if_neg (by omega)], sameOn.rf⟩
    rw [lq2_s]
    generalize lq2 (f_X9_comesPattern_L25 (iz (n : Int)) (iz (m : Int))) f = K
    unfold f_X9_comesPattern_L25
    rw [if_pos (le_cnt (by omega) (by omega))]
  | succ d ih =>
    intro f k M e1 e2
    obtain ⟨f, rfl⟩ : ∃ g, f = g + 1 := ⟨f - 1, by omega⟩
    have i2 : (3 : Int32) * iz (n : Int) + iz (k : Int) = iz ((3 * n + k : Nat) : Int) := by
      rw [show (3 : Int32) = iz (3 : Int) from rfl, iz_mul, iz_add]; congr 1
    obtain ⟨M', r1, r2, r3⟩ := ih f (k + 1) (si M 146 (3 * n + k) (gi M 162 k)) (by omega) (by omega)
    refine ⟨M', ?_, fun j => ?_, (sameOn.si (by omega)).tr r3⟩
    · rw [lq2_s]
      generalize lq2 (f_X9_comesPattern_L25 (iz (n : Int)) (iz (m : Int))) f = K at r1 ⊢
      unfold f_X9_comesPattern_L25
      rw [if_neg (nle_cnt (by omega) (by omega)), g_t (inB_n (by omega) (by omega)), i2, g_t (inB_n (by omega) (by omega)), nmq_q, nmq_q, clN (by omega), clN (by omega), iz_s]; exact r1
    · have hne : gi (si M 146 (3 * n + k) (gi M 162 k)) 162 (j - 3 * n) = gi M 162 (j - 3 * n) := by rw [gi_si, if_neg (by omega)]
      rw [r2 j, hne]
      by_cases q : 3 * n + (k + 1) ≤ j ∧ j < 3 * n + m
      · rw [if_pos q, if_pos (by omega)]
      · rw [if_neg q, gi_si]
        by_cases q2 : j = 3 * n + k
        · rw [if_pos ⟨rfl, q2⟩, if_pos (by omega), q2]; congr 1; omega
        · rw [if_neg (by omega), if_neg (by omega)]
theorem m_comes {M : Mem} {v : PV} (hv : okV v) (h : mPar (rdNow M) v) {l : List Nat} {p x n : Nat} (hl3 : l.length ≤ 3) (hc : ∀ (k a : Nat), l[k]? = some a → gi M 162 k = iz (a : Int)) (hn : n ≤ v.2.1.length) (hn8 : n < 8) :
    ∃ M', f_X9_comesPattern (iz (n : Int)) (iz (l.length : Int)) (iz (p : Int)) (iz (x : Int)) M = some M' ∧ gi M' 139 10 = iz ((putP v.2.1 n (l, p, x)).length : Int) ∧ mPar (rdNow M') (v.1, putP v.2.1 n (l, p, x), v.2.2) ∧ sameOn (fun k => k < 139 ∨ k = 140 ∨ 149 ≤ k) M M' ∧ (∀ j, j ≠ 10 → gi M' 139 j = gi M 139 j) := by
  obtain ⟨M1, hM1⟩ : ∃ M1, M1 = si (si (si M 145 n (iz (l.length : Int))) 147 n (iz (p : Int))) 148 n (iz (x : Int)) := ⟨_, rfl⟩
  have hs1 : sameOn (fun k => k ≠ 145 ∧ k ≠ 147 ∧ k ≠ 148) M M1 := by rw [hM1]; exact ((sameOn.si (by omega)).tr (sameOn.si (by omega))).tr (sameOn.si (by omega))
  obtain ⟨M2, e2, r2, s2⟩ := m_comesL (n := n) (m := l.length) hn8 hl3 l.length FU 0 M1 (by omega) (by rw [FU_eq]; omega)
  have h10 : gi M2 139 10 = iz (v.2.1.length : Int) := by rw [(s2 139 (by omega)).1, (hs1 139 (by omega)).1]; exact h.pcount
  obtain ⟨M3, hM3⟩ : ∃ M3, M3 = si M2 139 10 (iz ((putP v.2.1 n (l, p, x)).length : Int)) := ⟨_, rfl⟩
  have hb145 : blkOf 145 8 232 := by unfold blkOf; omega
  have hb147 : blkOf 147 8 264 := by unfold blkOf; omega
  have hb148 : blkOf 148 8 272 := by unfold blkOf; omega
  have hb146 : blkOf 146 24 240 := by unfold blkOf; omega
  have hr1 : ∀ o, o < 292 → rdNow M1 o = if o = 272 + n then iz (x : Int) else if o = 264 + n then iz (p : Int) else if o = 232 + n then iz (l.length : Int) else rdNow M o := fun o ho => by
    rw [hM1, rd_si hb148 hn8 o ho, rd_si hb147 hn8 o ho, rd_si hb145 hn8 o ho]
  have hr2 : ∀ o, o < 292 → (o < 240 ∨ 264 ≤ o) → rdNow M2 o = rdNow M1 o := fun o ho hc =>
    rd_out hb146 (s2.mono (fun a ha => ha.2)) (fun j _ _ => by rw [(s2 139 (by omega)).1]) o ho (by omega)
  have hr2' : ∀ j, j < 24 → rdNow M2 (240 + j) = if 3 * n ≤ j ∧ j < 3 * n + l.length then gi M 162 (j - 3 * n) else rdNow M (240 + j) := fun j hj => by
    rw [rd_in M2 hb146 j hj, rd_in M hb146 j hj, r2 j]
    rw [(hs1 162 (by omega)).1, (hs1 146 (by omega)).1, Nat.add_zero]
  have hr3 : ∀ o, o < 292 → rdNow M3 o = if o = 281 then iz ((putP v.2.1 n (l, p, x)).length : Int) else rdNow M2 o := fun o ho => by
    rw [hM3, rd_sf (by omega) o ho]
  refine ⟨M3, ?_, ?_, ?_, ?_, fun j hj => ?_⟩
  · unfold f_X9_comesPattern
    rw [g_t (inB_n hn8 (by omega)), nmq_q, g_t (inB_n hn8 (by omega)), nmq_q, g_t (inB_n hn8 (by omega)), nmq_q, clN (by omega), ← hM1]
    have e2' : lq2 (f_X9_comesPattern_L25 (iz (n : Int)) (iz (l.length : Int))) FU (0 : Int32) M1 = some M2 := e2
    rw [e2', b_s1, h10, hM3, putP_len]
    have hl8 := hv.2.2.1
    by_cases q : n < v.2.1.length
    · rw [if_neg (ne_cnt (by omega) (by omega) (by omega)), if_pos q]
      refine congrArg some ?_
      have e : gi M2 139 10 = iz (v.2.1.length : Int) := h10
      rw [← e]
      refine Prod.ext ?_ rfl
      funext a b
      show gi M2 a b = u2 (gi M2) 139 10 (gi M2 139 10) a b
      unfold u2
      by_cases q3 : a = 139 ∧ b = 10
      · rw [if_pos q3, q3.1, q3.2]
      · rw [if_neg q3]
    · rw [if_pos (by rw [show n = v.2.1.length by omega]), nmq_q, iz_s, if_neg q]
  · rw [hM3, gi_si, if_pos ⟨rfl, rfl⟩]
  · refine h.pats hv ?_ (fun w q hq => ?_) (fun o ho => ?_)
    · rw [hr3 _ (by omega), if_pos rfl]
    · have hl8 := hv.2.2.1
      have hw8 : w < 8 := by
        have h1 := (List.getElem?_eq_some_iff.mp hq).1
        rw [putP_len] at h1
        by_cases q : n < v.2.1.length
        · rw [if_pos q] at h1; omega
        · rw [if_neg q] at h1; omega
      have t232 : rdNow M3 (232 + w) = if w = n then iz (l.length : Int) else rdNow M (232 + w) := by
        rw [hr3 _ (by omega), if_neg (by omega), hr2 _ (by omega) (by omega), hr1 _ (by omega), if_neg (by omega), if_neg (by omega)]
        by_cases q2 : w = n
        · rw [if_pos (by omega), if_pos q2]
        · rw [if_neg (by omega), if_neg q2]
      have t264 : rdNow M3 (264 + w) = if w = n then iz (p : Int) else rdNow M (264 + w) := by
        rw [hr3 _ (by omega), if_neg (by omega), hr2 _ (by omega) (by omega), hr1 _ (by omega), if_neg (by omega)]
        by_cases q2 : w = n
        · rw [if_pos (by omega), if_pos q2]
        · rw [if_neg (by omega), if_neg q2, if_neg (by omega)]
      have t272 : rdNow M3 (272 + w) = if w = n then iz (x : Int) else rdNow M (272 + w) := by
        rw [hr3 _ (by omega), if_neg (by omega), hr2 _ (by omega) (by omega), hr1 _ (by omega)]
        by_cases q2 : w = n
        · rw [if_pos (by omega), if_pos q2]
        · rw [if_neg (by omega), if_neg q2, if_neg (by omega), if_neg (by omega)]
      have t240 : ∀ k, k < 3 → rdNow M3 (240 + (3 * w + k)) = if 3 * n ≤ 3 * w + k ∧ 3 * w + k < 3 * n + l.length then gi M 162 (3 * w + k - 3 * n) else rdNow M (240 + (3 * w + k)) := fun k hk => by
        rw [hr3 _ (by omega), if_neg (by omega), hr2' _ (by omega)]
      rcases putP_at hn hq with ⟨q1, q2⟩ | ⟨q1, q2⟩
      · rw [t232, t264, t272, if_pos q1, if_pos q1, if_pos q1, q2]
        refine ⟨rfl, fun k a hk => ?_, rfl, rfl⟩
        have hkl : k < l.length := (List.getElem?_eq_some_iff.mp hk).1
        rw [t240 k (by omega), if_pos (by omega), show 3 * w + k - 3 * n = k by omega]
        exact hc k a hk
      · obtain ⟨b1, b2, b3, b4⟩ := h.2.2.2.1 w q q2
        rw [t232, t264, t272, if_neg q1, if_neg q1, if_neg q1]
        refine ⟨b1, fun k a hk => ?_, b3, b4⟩
        have hk3 : k < 3 := Nat.lt_of_lt_of_le (List.getElem?_eq_some_iff.mp hk).1 (hv.2.2.2.1 q (List.mem_of_getElem? q2)).1.2.1
        rw [t240 k hk3, if_neg (by omega)]
        exact b2 k a hk
    · rw [hr3 _ (by omega), if_neg (by omega), hr2 _ (by omega) (by omega), hr1 _ (by omega), if_neg (by omega), if_neg (by omega), if_neg (by omega)]
  · rw [hM3]
    exact ((hs1.mono (fun k hk => by omega)).tr (s2.mono (fun k hk => by omega))).tr (sameOn.si (by omega))
  · rw [hM3, gi_si, if_neg (by omega), (s2 139 (by omega)).1, (hs1 139 (by omega)).1]
