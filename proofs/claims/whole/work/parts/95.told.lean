/-! the reference reads, and keeps what it has read -/
def dval (ls : List Nat) : Nat → Nat → Int → Int
  | 0, _, x => x
  | n + 1, p, x => dval ls n (p + 1) (10 * x + sg ls p - 48)
def kR (M M' : Mem) : Prop := sameOn (fun k => k ≠ 139 ∧ k ≠ 159) M M' ∧ ∀ j, j ≠ 37 → j ≠ 39 → gi M' 139 j = gi M 139 j
theorem kR.rf {M : Mem} : kR M M := ⟨sameOn.rf, fun _ _ _ => rfl⟩
theorem kR.tr {M M' M'' : Mem} (h : kR M M') (h' : kR M' M'') : kR M M'' := ⟨h.1.tr h'.1, fun j h1 h2 => (h'.2 j h1 h2).trans (h.2 j h1 h2)⟩
theorem kR.sh {M M' : Mem} {ls : List Nat} (h : kR M M') (hs : mSh M ls) : mSh M' ls := ⟨(h.2 36 (by omega) (by omega)).trans hs.1, fun i a ha => by rw [(h.1 156 (by omega)).1]; exact hs.2 i a ha⟩
theorem m_digL {ls : List Nat} (hl : okSh ls) {n g : Nat} (hn : n ≤ 2) (hg : g < 147) : ∀ (d f i p : Nat) (x : Int) (M : Mem), i + d = n → d < f → p + d ≤ 500 → mSh M ls → gi M 139 37 = iz (p : Int) → gi M 139 39 = iz (g : Int) →
    ∃ M', lq3 (f_X9_readsDigits_L4 (iz (n : Int))) f (iz x) (iz (i : Int)) M = some ((if drun ls d p = d then 1 else 0), M') ∧ gi M' 139 37 = iz ((p + drun ls d p : Nat) : Int) ∧ (drun ls d p = d → gi M' 159 g = iz (dval ls d p x) ∧ gi M' 139 39 = iz ((g + 1 : Nat) : Int)) ∧ (∀ u, u ≠ g → gi M' 159 u = gi M 159 u) ∧ kR M M' := by
  intro d
  induction d with
  | zero =>
    intro f i p x M e1 e2 e3 hs hp h39
    obtain ⟨f, rfl⟩ : ∃ g, f = g + 1 := ⟨f - 1, by omega⟩
    have hn' : iz (n : Int) ≤ iz (i : Int) := le_cnt (by omega) (by omega)
    refine ⟨si (si M 159 g (iz x)) 139 39 (gi (si M 159 g (iz x)) 139 39 + 1), ?_, ?_, fun _ => ⟨?_, ?_⟩, fun u hu => ?_, ?_, fun j h1 h2 => ?_⟩
    · rw [lq3_s]
      generalize lq3 (f_X9_readsDigits_L4 (iz (n : Int))) f = K
      unfold f_X9_readsDigits_L4
      rw [if_pos hn', h39, g_t (inB_n hg (by omega)), nmq_q, nmq_q, clN (by omega), if_pos (show drun ls 0 p = 0 from rfl)]
    · rw [gi_si, if_neg (by omega), gi_si, if_neg (by omega)]; exact hp
    · rw [gi_si, if_neg (by omega), gi_si, if_pos ⟨rfl, rfl⟩]; rfl
    · rw [gi_si, if_pos ⟨rfl, rfl⟩, gi_si, if_neg (by omega), h39, iz_s]
    · rw [gi_si, if_neg (by omega), gi_si, if_neg (by omega)]
    · exact (sameOn.si (by omega)).tr (sameOn.si (by omega))
    · rw [gi_si, if_neg (by omega), gi_si, if_neg (by omega)]
  | succ d ih =>
    intro f i p x M e1 e2 e3 hs hp h39
    obtain ⟨f, rfl⟩ : ∃ g, f = g + 1 := ⟨f - 1, by omega⟩
    have hb := sg_b hl p
    have hst := m_sign hl hs hp (by omega)
    have hin : f_X9_isIn (iz (sg ls p)) (48 : Int32) (57 : Int32) = _ := m_isIn (z := sg ls p) (lo := 48) (hi := 57) (by omega) (by omega) (by omega) (by omega) (by omega) (by omega)
    have eL : drun ls (d + 1) p = (if isD ls p = true then drun ls d (p + 1) + 1 else 0) := rfl
    rw [eL]
    by_cases q : isD ls p = true
    · have qq : 48 ≤ sg ls p ∧ sg ls p ≤ 57 := of_decide_eq_true q
      rw [if_pos qq] at hin
      rw [if_pos q]
      have h37 : gi (si M 139 37 (gi M 139 37 + 1)) 139 37 = iz ((p + 1 : Nat) : Int) := by rw [gi_si, if_pos ⟨rfl, rfl⟩, hp, iz_s]
      have k1 : kR M (si M 139 37 (gi M 139 37 + 1)) := ⟨sameOn.si (by omega), fun j h1 h2 => by rw [gi_si, if_neg (by omega)]⟩
      obtain ⟨M', r1, r2, r3, r4, r5⟩ := ih f (i + 1) (p + 1) (10 * x + sg ls p - 48) (si M 139 37 (gi M 139 37 + 1)) (by omega) (by omega) (by omega) (k1.sh hs) h37 (by rw [gi_si, if_neg (by omega)]; exact h39)
      refine ⟨M', ?_, by rw [r2]; congr 1; omega, fun h => r3 (by omega), fun u hu => by rw [r4 u hu, gi_si, if_neg (by omega)], k1.tr r5⟩
      have ee : (if drun ls d (p + 1) + 1 = d + 1 then (1 : Int32) else 0) = (if drun ls d (p + 1) = d then (1 : Int32) else 0) := by
        by_cases q2 : drun ls d (p + 1) = d
        · rw [if_pos q2, if_pos (by omega)]
        · rw [if_neg q2, if_neg (by omega)]
      have ea : (((10 : Int32) * iz x) + iz (sg ls p)) - (48 : Int32) = iz (10 * x + sg ls p - 48) := by
        rw [show (10 : Int32) = iz 10 from rfl, iz_mul, iz_add, show (48 : Int32) = iz 48 from rfl, iz_sub]
      rw [lq3_s]
      generalize lq3 (f_X9_readsDigits_L4 (iz (n : Int))) f = K at r1 ⊢
      unfold f_X9_readsDigits_L4
      rw [if_neg (nle_cnt (by omega) (by omega)), hst, b_s1, hin, b_s1, if_neg (by decide), b_s1, nmq_q, nmq_q, nmq_q, ea, iz_s, r1, ee]
    · have qq : ¬ (48 ≤ sg ls p ∧ sg ls p ≤ 57) := fun e => q (decide_eq_true e)
      rw [if_neg qq] at hin
      rw [if_neg q]
      refine ⟨M, ?_, hp, fun h => by omega, fun _ _ => rfl, kR.rf⟩
      rw [lq3_s]
      generalize lq3 (f_X9_readsDigits_L4 (iz (n : Int))) f = K
      unfold f_X9_readsDigits_L4
      rw [if_neg (nle_cnt (by omega) (by omega)), hst, b_s1, hin, b_s1, if_pos rfl, if_neg (by omega)]
theorem m_dig {ls : List Nat} (hl : okSh ls) {n g : Nat} (hn : n ≤ 2) (hg : g < 147) {p : Nat} (hp2 : p ≤ 300) {M : Mem} (hs : mSh M ls) (hp : gi M 139 37 = iz (p : Int)) (h39 : gi M 139 39 = iz (g : Int)) :
    ∃ M', f_X9_readsDigits (iz (n : Int)) M = some ((if drun ls n p = n then 1 else 0), M') ∧ gi M' 139 37 = iz ((p + drun ls n p : Nat) : Int) ∧ (drun ls n p = n → gi M' 159 g = iz (dval ls n p 0) ∧ gi M' 139 39 = iz ((g + 1 : Nat) : Int)) ∧ (∀ u, u ≠ g → gi M' 159 u = gi M 159 u) ∧ kR M M' := m_digL hl hn hg n FU 0 p 0 M (by omega) (by rw [FU_eq]; omega) (by omega) hs hp h39
/-- so many single digits, as the reference reads them -/
def ones (m : Nat) (M : Mem) : Option (Int32 × Mem) := match m with
  | 0 => some ((1 : Int32), M)
  | m + 1 => bq2 (f_X9_readsDigits (1 : Int32) M) (fun (x : Int32) (M' : Mem) => if x = 0 then some ((0 : Int32), M') else ones m M')
theorem m_ones {ls : List Nat} (hl : okSh ls) : ∀ (m g p : Nat) (M : Mem), m ≤ 3 → g + m ≤ 147 → p + m ≤ 300 → mSh M ls → gi M 139 37 = iz (p : Int) → gi M 139 39 = iz (g : Int) →
    ∃ M', ones m M = some ((if drun ls m p = m then 1 else 0), M') ∧ gi M' 139 37 = iz ((p + drun ls m p : Nat) : Int) ∧ (drun ls m p = m → ∀ t, t < m → gi M' 159 (g + t) = iz (dval ls 1 (p + t) 0)) ∧ (∀ u, u < g ∨ g + m ≤ u → gi M' 159 u = gi M 159 u) ∧ kR M M'
  | 0, g, p, M, h1, h2, h3, hs, hp, h39 => ⟨M, rfl, hp, fun _ t ht => by omega, fun _ _ => rfl, kR.rf⟩
  | m + 1, g, p, M, h1, h2, h3, hs, hp, h39 => by
    obtain ⟨M1, r1, r2, r3, r4, r5⟩ := m_dig hl (n := 1) (g := g) (by omega) (by omega) (p := p) (by omega) hs hp h39
    have r1' : f_X9_readsDigits (1 : Int32) M = _ := r1
    have ha := drun_add (ls := ls) m 1 p
    rw [Nat.add_comm 1 m] at ha
    have hle := drun_le (ls := ls) m (p + 1)
    show ∃ M', bq2 (f_X9_readsDigits (1 : Int32) M) (fun (x : Int32) (M' : Mem) => if x = 0 then some ((0 : Int32), M') else ones m M') = _ ∧ _
    rw [r1', b_s2]
    by_cases q : drun ls 1 p = 1
    · rw [if_pos q] at ha
      obtain ⟨u1, u2⟩ := r3 q
      rw [q] at r2
      obtain ⟨M2, t1, t2, t3, t4, t5⟩ := m_ones hl m (g + 1) (p + 1) M1 (by omega) (by omega) (by omega) (r5.sh hs) r2 u2
      rw [if_pos q, if_neg (by decide), ha]
      refine ⟨M2, ?_, by rw [t2]; congr 1; omega, fun h t ht => ?_, fun u hu => by rw [t4 u (by omega), r4 u (by omega)], r5.tr t5⟩
      · rw [t1]
        by_cases q2 : drun ls m (p + 1) = m
        · rw [if_pos q2, if_pos (by omega)]
        · rw [if_neg q2, if_neg (by omega)]
      · by_cases h0 : t = 0
        · subst h0
          rw [t4 _ (by omega), Nat.add_zero, Nat.add_zero, u1]
        · have := t3 (by omega) (t - 1) (by omega)
          rw [show g + 1 + (t - 1) = g + t by omega, show p + 1 + (t - 1) = p + t by omega] at this
          exact this
    · rw [if_neg q] at ha
      have hle1 := drun_le (ls := ls) 1 p
      rw [if_neg q, if_pos rfl, ha]
      refine ⟨M1, ?_, r2, fun h => by omega, fun u hu => r4 u (by omega), r5⟩
      rw [if_neg (by omega)]
def kU (M M' : Mem) : Prop := sameOn (fun k => k ≠ 139) M M' ∧ ∀ j, j ≠ 37 → gi M' 139 j = gi M 139 j
theorem kU.rf {M : Mem} : kU M M := ⟨sameOn.rf, fun _ _ => rfl⟩
theorem kU.tr {M M' M'' : Mem} (h : kU M M') (h' : kU M' M'') : kU M M'' := ⟨h.1.tr h'.1, fun j h1 => (h'.2 j h1).trans (h.2 j h1)⟩
theorem kU.sh {M M' : Mem} {ls : List Nat} (h : kU M M') (hs : mSh M ls) : mSh M' ls := ⟨(h.2 36 (by omega)).trans hs.1, fun i a ha => by rw [(h.1 156 (by omega)).1]; exact hs.2 i a ha⟩
theorem m_lettersL {ls : List Nat} (hl : okSh ls) {m i p : Nat} (hm : m ≤ 12) (hi : i < 49) (hp2 : p ≤ 300) : ∀ (d f c : Nat) (M : Mem), c + d = p + m → d < f → mSh M ls → gi M 139 37 = iz (c : Int) → gi M 139 38 = iz (i : Int) → gi M 160 i = iz (p : Int) →
    ∃ M', lq1 (f_X9_readsLetters_L13 (iz (m : Int))) f M = some M' ∧ gi M' 139 37 = iz ((c + lrun ls d c : Nat) : Int) ∧ kU M M' := by
  intro d
  induction d with
  | zero =>
    intro f c M e1 e2 hs hp h38 h160
    obtain ⟨f, rfl⟩ : ∃ g, f = g + 1 := ⟨f - 1, by omega⟩
    refine ⟨M, ?_, hp, kU.rf⟩
    have hcl : (iz (i : Int) : Int32).toNatClampNeg = i := clN (by omega)
    rw [lq1_s]
    generalize lq1 (f_X9_readsLetters_L13 (iz (m : Int))) f = K
    unfold f_X9_readsLetters_L13
    rw [h38, g_t (inB_n (by omega) (by omega)), if_pos]
    rw [hcl, h160, iz_add, hp]
    exact le_cnt (n := p + m) (i := c) (by omega) (by omega)
  | succ d ih =>
    intro f c M e1 e2 hs hp h38 h160
    obtain ⟨f, rfl⟩ : ∃ g, f = g + 1 := ⟨f - 1, by omega⟩
    have hb := sg_b hl c
    have hst := m_sign hl hs hp (by omega)
    have hin : f_X9_isIn (iz (sg ls c)) (97 : Int32) (104 : Int32) = _ := m_isIn (z := sg ls c) (lo := 97) (hi := 104) (by omega) (by omega) (by omega) (by omega) (by omega) (by omega)
    have eL : lrun ls (d + 1) c = (if isL ls c = true then lrun ls d (c + 1) + 1 else 0) := rfl
    have hcl : (iz (i : Int) : Int32).toNatClampNeg = i := clN (by omega)
    have hnle : ¬ gi M 160 ((iz (i : Int) : Int32).toNatClampNeg) + iz (m : Int) ≤ gi M 139 37 := by
      rw [hcl, h160, iz_add, hp]
      exact nle_cnt (n := p + m) (i := c) (by omega) (by omega)
    rw [eL]
    by_cases q : isL ls c = true
    · have qq : 97 ≤ sg ls c ∧ sg ls c ≤ 104 := of_decide_eq_true q
      rw [if_pos qq] at hin
      rw [if_pos q]
      have h37 : gi (si M 139 37 (gi M 139 37 + 1)) 139 37 = iz ((c + 1 : Nat) : Int) := by rw [gi_si, if_pos ⟨rfl, rfl⟩, hp, iz_s]
      have k1 : kU M (si M 139 37 (gi M 139 37 + 1)) := ⟨sameOn.si (by omega), fun j h1 => by rw [gi_si, if_neg (by omega)]⟩
      obtain ⟨M', r1, r2, r3⟩ := ih f (c + 1) (si M 139 37 (gi M 139 37 + 1)) (by omega) (by omega) (k1.sh hs) h37 (by rw [gi_si, if_neg (by omega)]; exact h38) (by rw [gi_si, if_neg (by omega)]; exact h160)
      refine ⟨M', ?_, by rw [r2]; congr 1; omega, k1.tr r3⟩
      rw [lq1_s]
      generalize lq1 (f_X9_readsLetters_L13 (iz (m : Int))) f = K at r1 ⊢
      unfold f_X9_readsLetters_L13
      rw [h38, g_t (inB_n (by omega) (by omega)), if_neg hnle, hst, b_s1, hin, b_s1, if_neg (by decide), nmq_q]; exact r1
    · have qq : ¬ (97 ≤ sg ls c ∧ sg ls c ≤ 104) := fun e => q (decide_eq_true e)
      rw [if_neg qq] at hin
      rw [if_neg q]
      refine ⟨M, ?_, hp, kU.rf⟩
      rw [lq1_s]
      generalize lq1 (f_X9_readsLetters_L13 (iz (m : Int))) f = K
      unfold f_X9_readsLetters_L13
      rw [h38, g_t (inB_n (by omega) (by omega)), if_neg hnle, hst, b_s1, hin, b_s1, if_pos rfl]
theorem m_letters {ls : List Nat} (hl : okSh ls) {m i p : Nat} (hm : m ≤ 12) (hi : i < 49) (hp2 : p ≤ 300) {M : Mem} (hs : mSh M ls) (hp : gi M 139 37 = iz (p : Int)) (h38 : gi M 139 38 = iz (i : Int)) :
    ∃ M', f_X9_readsLetters (iz (m : Int)) M = some ((if lrun ls m p = 0 then 0 else 1), M') ∧ gi M' 139 37 = iz ((p + lrun ls m p : Nat) : Int) ∧ gi M' 160 i = iz (p : Int) ∧ gi M' 161 i = iz (lrun ls m p : Int) ∧ (∀ t, t ≠ i → gi M' 160 t = gi M 160 t ∧ gi M' 161 t = gi M 161 t) ∧ sameOn (fun k => k ≠ 139 ∧ k ≠ 160 ∧ k ≠ 161) M M' ∧ ∀ j, j ≠ 37 → gi M' 139 j = gi M 139 j := by
  obtain ⟨M2, e2⟩ : ∃ M2, M2 = si M 160 i (iz (p : Int)) := ⟨_, rfl⟩
  have s2 : sameOn (fun k => k ≠ 160) M M2 := by rw [e2]; exact sameOn.si (by omega)
  have f2 : ∀ j, gi M2 139 j = gi M 139 j := fun j => by rw [(s2 139 (by omega)).1]
  have hs2 : mSh M2 ls := ⟨(f2 36).trans hs.1, fun i a ha => by rw [(s2 156 (by omega)).1]; exact hs.2 i a ha⟩
  obtain ⟨M3, r1, r2, r3⟩ := m_lettersL hl hm hi hp2 m FU p M2 rfl (by rw [FU_eq]; omega) hs2 ((f2 37).trans hp) ((f2 38).trans h38) (by rw [e2, gi_si, if_pos ⟨rfl, rfl⟩])
  have hle := lrun_le (ls := ls) m p
  have h38' : gi M3 139 38 = iz (i : Int) := (r3.2 38 (by omega)).trans ((f2 38).trans h38)
  have h160 : gi M3 160 i = iz (p : Int) := by rw [(r3.1 160 (by omega)).1, e2, gi_si, if_pos ⟨rfl, rfl⟩]
  have hcl : (iz (i : Int) : Int32).toNatClampNeg = i := clN (by omega)
  have ev : gi M3 139 37 - gi M3 160 i = iz (lrun ls m p : Int) := by rw [r2, h160, iz_sub]; congr 1; omega
  obtain ⟨M4, e4⟩ : ∃ M4, M4 = si M3 161 i (gi M3 139 37 - gi M3 160 i) := ⟨_, rfl⟩
  have s4 : sameOn (fun k => k ≠ 161) M3 M4 := by rw [e4]; exact sameOn.si (by omega)
  have h38'' : gi M4 139 38 = iz (i : Int) := by rw [(s4 139 (by omega)).1]; exact h38'
  have h161 : gi M4 161 i = iz (lrun ls m p : Int) := by rw [e4, gi_si, if_pos ⟨rfl, rfl⟩, ev]
  refine ⟨M4, ?_, by rw [(s4 139 (by omega)).1]; exact r2, by rw [(s4 160 (by omega)).1]; exact h160, h161, fun t ht => ⟨?_, ?_⟩, ((s2.mono (fun a ha => by omega)).tr (r3.1.mono (fun a ha => by omega))).tr (s4.mono (fun a ha => by omega)), fun j hj => ?_⟩
  · unfold f_X9_readsLetters
    rw [h38, g_t (inB_n (by omega) (by omega)), nmq_q, hcl, hp, ← e2, r1, b_s1, h38', g_t (inB_n (by omega) (by omega)), g_t (inB_n (by omega) (by omega)), nmq_q, hcl, ← e4, h38'', g_t (inB_n (by omega) (by omega))]
    by_cases q : lrun ls m p = 0
    · rw [if_pos q, if_pos]
      rw [hcl, h161]; exact (pos_iz (by omega) (by omega)).mpr (by omega)
    · rw [if_neg q, if_neg]
      rw [hcl, h161]; exact fun e => by have := (pos_iz (by omega) (by omega)).mp e; omega
  · rw [(s4 160 (by omega)).1, (r3.1 160 (by omega)).1, e2, gi_si, if_neg (by omega)]
  · rw [e4, gi_si, if_neg (by omega), (r3.1 161 (by omega)).1, (s2 161 (by omega)).1]
  · rw [(s4 139 (by omega)).1, r3.2 j hj, f2 j]
