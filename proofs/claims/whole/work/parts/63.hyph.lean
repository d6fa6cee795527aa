/-! hyphen places -/
def brk (v : PV) (l : List Nat) (p : Nat) : Bool := decide (v.2.2.2 8 ≠ 3 ∧ (v.2.2.2 8 = 4 → v.2.2.2 9 < (l.length : Int)) ∧ 2 ≤ p ∧ p + 2 ≤ l.length ∧ valF l p v.2.1 0 % 2 = 1)
theorem brk_iff {v : PV} {l : List Nat} {p : Nat} : brk v l p = true ↔ v.2.2.2 8 ≠ 3 ∧ (v.2.2.2 8 = 4 → v.2.2.2 9 < (l.length : Int)) ∧ 2 ≤ p ∧ p + 2 ≤ l.length ∧ valF l p v.2.1 0 % 2 = 1 := by unfold brk; exact decide_eq_true_iff
def hyB (b : Nat → Bool) : Nat → Nat
  | 0 => 0
  | n + 1 => hyB b n + (if b n = true then 2 ^ n else 0)
theorem hyB_lt (b : Nat → Bool) : ∀ n, hyB b n < 2 ^ n
  | 0 => by show 0 < 1; omega
  | n + 1 => by
    have := hyB_lt b n
    unfold hyB
    rw [Nat.pow_succ]
    split <;> omega
theorem hyB_flat {b : Nat → Bool} {n : Nat} : ∀ d, (∀ p, n ≤ p → p < n + d → b p = false) → hyB b (n + d) = hyB b n
  | 0, _ => rfl
  | d + 1, h => by
    show hyB b (n + d) + (if b (n + d) = true then 2 ^ (n + d) else 0) = _
    rw [h (n + d) (by omega) (by omega), if_neg (by decide), hyB_flat d (fun p h1 h2 => h p h1 (by omega))]; rfl
theorem hyB_bit (b : Nat → Bool) {p : Nat} : ∀ n, p < n → hyB b n / 2 ^ p % 2 = if b p = true then 1 else 0
  | 0, h => by omega
  | n + 1, h => by
    unfold hyB
    by_cases q : p = n
    · subst q
      have h1 := hyB_lt b p
      by_cases r : b p = true
      · rw [if_pos r, if_pos r, Nat.add_div_right _ (Nat.two_pow_pos p), Nat.div_eq_of_lt h1]
      · rw [if_neg r, if_neg r, Nat.add_zero, Nat.div_eq_of_lt h1]
    · have h1 := hyB_bit b n (p := p) (by omega)
      by_cases r : b n = true
      · rw [if_pos r]
        obtain ⟨e, he⟩ : ∃ e, n = p + (e + 1) := ⟨n - p - 1, by omega⟩
        have e1 : 2 ^ n = 2 ^ p * (2 * 2 ^ e) := by rw [he, Nat.pow_add, Nat.pow_succ, Nat.mul_comm (2 ^ e) 2]
        rw [e1, Nat.add_mul_div_left _ _ (Nat.two_pow_pos p), Nat.add_mul_mod_self_left]
        exact h1
      · rw [if_neg r, Nat.add_zero]; exact h1
theorem iz_or (a b : Nat) (ha : a < 65536) (hb : b < 65536) : iz (a : Int) ||| iz (b : Int) = iz ((a ||| b : Nat) : Int) := by
  have hab : a ||| b < 65536 := Nat.or_lt_two_pow (n := 16) ha hb
  rw [iz_i, iz_i, iz_i]
  have hg : (UInt32.ofNat a ||| UInt32.ofNat b) = UInt32.ofNat (a ||| b) := by
    apply UInt32.toNat_inj.mp
    rw [UInt32.toNat_or, UInt32.toNat_ofNat', UInt32.toNat_ofNat', UInt32.toNat_ofNat', Nat.mod_eq_of_lt (show a < 2 ^ 32 by omega), Nat.mod_eq_of_lt (show b < 2 ^ 32 by omega), Nat.mod_eq_of_lt (show a ||| b < 2 ^ 32 by omega)]
  exact congrArg UInt32.toInt32 hg
theorem shl1 : ∀ k : Fin 16, ishl_ (1 : Int32) (iz ((k.val : Nat) : Int)) = iz ((2 ^ k.val : Nat) : Int) := by decide
theorem or_bit {x k : Nat} (hx : x < 2 ^ k) (hk : k < 16) : iz (x : Int) ||| ishl_ (1 : Int32) (iz (k : Int)) = iz ((x + 2 ^ k : Nat) : Int) := by
  have h16 : (2 : Nat) ^ k ≤ 2 ^ 15 := Nat.pow_le_pow_right (by omega) (by omega)
  have e := shl1 ⟨k, hk⟩
  rw [e, iz_or x (2 ^ k) (by omega) (by omega)]
  have := Nat.two_pow_add_eq_or_of_lt hx 1
  rw [Nat.mul_one] at this
  rw [Nat.or_comm, ← this, Nat.add_comm]
theorem irm2 {n : Nat} (hn : n < 5000) : irm (iz (n : Int)) (2 : Int32) = iz ((n % 2 : Nat) : Int) := by
  have := iz_irm (a := (n : Int)) (b := 2) (by omega) (by omega) (by omega) (by omega)
  exact this
theorem al_par {p : Nat} (hp : p = 1 ∨ p = 12) : alen (p + 1) = 8 ∧ alen (p + 2 + 2) = 16 ∧ alen (p + 2 + 3) = 16 ∧ alen (p + 6 + 2) = 8 ∧ alen (p + 6 + 3) = 8 ∧ alen (p + 6 + 4) = 8 := by
  rcases hp with rfl | rfl
  · exact ⟨rfl, rfl, rfl, rfl, rfl, rfl⟩
  · exact ⟨rfl, rfl, rfl, rfl, rfl, rfl⟩
theorem c_mayH {M : Mem} {p : Nat} {v : PV} (h : cPar M p v) (hv : okV v) {n : Nat} (hn : n < 5000) : f_X3_mayHyphenate p (iz (n : Int)) M = some (if v.2.2.2 8 ≠ 3 ∧ (v.2.2.2 8 = 4 → v.2.2.2 9 < (n : Int)) then 1 else 0) := by
  have e8 : gi M p 11 = iz (v.2.2.2 8) := h.at' (i := 8) (by omega)
  have e9 : gi M p 12 = iz (v.2.2.2 9) := h.at' (i := 9) (by omega)
  have ok8 := hv.2.2.2.2.2.2.2.2.2.2.2.2.2.1
  have ok9 := hv.2.2.2.2.2.2.2.2.2.2.2.2.2.2
  unfold f_X3_mayHyphenate
  rw [e8, e9]
  by_cases q3 : v.2.2.2 8 = 3
  · rw [if_pos (show iz (v.2.2.2 8) = (3 : Int32) by rw [q3]; rfl), if_neg (fun c => c.1 q3)]
  rw [if_neg (show ¬ iz (v.2.2.2 8) = (3 : Int32) from neq_iz (b := 3) (by omega) (by omega) (by omega) (by omega) q3)]
  by_cases q4 : v.2.2.2 8 = 4
  · rw [if_pos (show iz (v.2.2.2 8) = (4 : Int32) by rw [q4]; rfl)]
    by_cases q5 : v.2.2.2 9 < (n : Int)
    · rw [if_neg (nle_iz (by omega) (by omega) (by omega) (by omega) (by omega)), if_pos ⟨q3, fun _ => q5⟩]
    · rw [if_pos (le_iz (by omega) (by omega) (by omega) (by omega) (by omega)), if_neg (fun c => q5 (c.2 q4))]
  · rw [if_neg (show ¬ iz (v.2.2.2 8) = (4 : Int32) from neq_iz (b := 4) (by omega) (by omega) (by omega) (by omega) q4), if_pos ⟨q3, fun c => absurd c q4⟩]
theorem c_hyL {M : Mem} {p : Nat} (hp : p = 1 ∨ p = 12) {v : PV} (h : cPar M p v) (hv : okV v) {l : List Nat} (h1 : l.length ≤ 12) (h2 : ∀ a ∈ l, a < 8) (hk : v.2.2.2 8 ≠ 3 ∧ (v.2.2.2 8 = 4 → v.2.2.2 9 < (l.length : Int))) : ∀ (d f i : Nat), i + d = l.length → 2 ≤ i → d < f →
    lq2 (f_X3_hyphenPlaces_L35 p M (iz (l.length : Int)) (pk l)) f (iz ((hyB (brk v l) i : Nat) : Int)) (iz (i : Int)) = some (iz ((hyB (brk v l) l.length : Nat) : Int)) := by
  obtain ⟨a1, a2, a3, a4, a5, a6⟩ := al_par hp
  intro d
  induction d with
  | zero =>
    intro f i e1 e2 e3
    obtain ⟨f, rfl⟩ : ∃ g, f = g + 1 := ⟨f - 1, by omega⟩
    rw [lq2_s]
    generalize lq2 (f_X3_hyphenPlaces_L35 p M (iz (l.length : Int)) (pk l)) f = K
    unfold f_X3_hyphenPlaces_L35
    rw [show (2 : Int32) = iz (2 : Int) from rfl, iz_sub, if_pos (lt_iz (by omega) (by omega) (by omega) (by omega) (by omega)), show i = l.length by omega]
  | succ d ih =>
    intro f i e1 e2 e3
    obtain ⟨f, rfl⟩ : ∃ g, f = g + 1 := ⟨f - 1, by omega⟩
    have hlt := hyB_lt (brk v l) i
    have ih' := ih f (i + 1) (by omega) (by omega) (by omega)
    rw [lq2_s]
    generalize lq2 (f_X3_hyphenPlaces_L35 p M (iz (l.length : Int)) (pk l)) f = K at ih' ⊢
    unfold f_X3_hyphenPlaces_L35
    rw [show (2 : Int32) = iz (2 : Int) from rfl, iz_sub]
    by_cases q : (l.length : Int) - 2 < (i : Int)
    · rw [if_pos (lt_iz (by omega) (by omega) (by omega) (by omega) q)]
      have := hyB_flat (b := brk v l) (n := i) (d + 1) (fun p h1 h2 => by
        cases hb : brk v l p with
        | false => rfl
        | true => have := (brk_iff.mp hb).2.2.2.1; omega)
      rw [e1] at this
      rw [this]
    · obtain ⟨c1, c2⟩ := c_val h.2.1 a4 a5 a6 hv.2.2.1 hv.2.2.2.1 h1 h2 (p := i) (by omega)
      have e2' : (2 : Int32) = iz (2 : Int) := rfl
      rw [if_neg (nlt_iz (by omega) (by omega) (by omega) (by omega) q), c1, b_s1, ← e2', irm2 (by omega)]
      have hiff : brk v l i = true ↔ valF l i v.2.1 0 % 2 = 1 := by
        rw [brk_iff]; exact ⟨fun c => c.2.2.2.2, fun c => ⟨hk.1, hk.2, e2, by omega, c⟩⟩
      by_cases r : valF l i v.2.1 0 % 2 = 1
      · rw [if_pos (show iz ((valF l i v.2.1 0 % 2 : Nat) : Int) = (1 : Int32) by rw [r]; rfl), nmq_q, nmq_q, or_bit hlt (by omega), iz_s]
        have e : hyB (brk v l) (i + 1) = hyB (brk v l) i + 2 ^ i := by
          show hyB (brk v l) i + (if brk v l i = true then 2 ^ i else 0) = _
          rw [if_pos (hiff.mpr r)]
        rw [e] at ih'; exact ih'
      · rw [if_neg (show ¬ iz ((valF l i v.2.1 0 % 2 : Nat) : Int) = (1 : Int32) from ne_cnt (i := 1) r (by omega) (by omega)), nmq_q, iz_s]
        have e : hyB (brk v l) (i + 1) = hyB (brk v l) i := by
          show hyB (brk v l) i + (if brk v l i = true then 2 ^ i else 0) = _
          rw [if_neg (fun c => r (hiff.mp c))]; rfl
        rw [e] at ih'; exact ih'
theorem c_len {M : Mem} {p : Nat} (hp : p = 1 ∨ p = 12) {v : PV} (h : cPar M p v) (hv : okV v) {w : Nat} {q : Word} (hq : v.1[w]? = some q) : f_X7_lengthOf (p + 2) (iz (w : Int)) M = some (iz (q.1.length : Int)) ∧ f_X7_spellingOf (p + 2) (iz (w : Int)) M = some (pk q.1) ∧ f_X7_isForced (p + 2) (iz (w : Int)) M = some (if q.2 = 1 then 1 else 0) ∧ w < 16 ∧ q.1.length ≤ 12 := by
  obtain ⟨a1, a2, a3, a4, a5, a6⟩ := al_par hp
  have hw : w < 16 := Nat.lt_of_lt_of_le (List.getElem?_eq_some_iff.mp hq).1 hv.1
  have okq := hv.2.1 q (List.mem_of_getElem? hq)
  obtain ⟨b1, b2, b3⟩ := h.1.2 w q hq
  refine ⟨?_, ?_, ?_, hw, okq.1.2.1⟩
  · unfold f_X7_lengthOf
    rw [c_at a2 (by omega) hw, b_s1, b2]
  · rw [c_spell hw, b1]
  · unfold f_X7_isForced
    rw [c_at a3 (by omega) hw, b_s1, b3]
    by_cases r : q.2 = 1
    · rw [if_pos r, if_pos (show iz (q.2 : Int) = (1 : Int32) by rw [r]; rfl)]
    · rw [if_neg r, if_neg (show ¬ iz (q.2 : Int) = (1 : Int32) from ne_cnt (i := 1) r (by have := okq.2; omega) (by omega))]
theorem hyB_none {b : Nat → Bool} {n : Nat} (h : ∀ p, p < n → b p = false) : hyB b n = 0 := by
  have := hyB_flat (b := b) (n := 0) n (fun p _ h2 => h p (by omega))
  rw [Nat.zero_add] at this; exact this
theorem c_hy {M : Mem} {p : Nat} (hp : p = 1 ∨ p = 12) {v : PV} (h : cPar M p v) (hv : okV v) {w : Nat} {q : Word} (hq : v.1[w]? = some q) : f_X3_hyphenPlaces p (iz (w : Int)) M = some (iz ((hyB (brk v q.1) q.1.length : Nat) : Int)) := by
  obtain ⟨c1, c2, -, c4, c5⟩ := c_len hp h hv hq
  have okq := hv.2.1 q (List.mem_of_getElem? hq)
  unfold f_X3_hyphenPlaces
  rw [c1, b_s1, c2, b_s1, c_mayH h hv (by omega), b_s1]
  by_cases hk : v.2.2.2 8 ≠ 3 ∧ (v.2.2.2 8 = 4 → v.2.2.2 9 < (q.1.length : Int))
  · rw [if_pos hk, if_neg (by decide), b1_id]
    by_cases h2 : 2 ≤ q.1.length
    · have := c_hyL hp h hv c5 okq.1.2.2 hk (q.1.length - 2) FU 2 (by omega) (by omega) (by rw [FU_eq]; omega)
      have e : hyB (brk v q.1) 2 = 0 := hyB_none (fun p hp => by
        cases hb : brk v q.1 p with
        | false => rfl
        | true => have := (brk_iff.mp hb).2.2.1; omega)
      rw [e] at this; exact this
    · have e : hyB (brk v q.1) q.1.length = 0 := hyB_none (fun p hp => by
        cases hb : brk v q.1 p with
        | false => rfl
        | true => have := (brk_iff.mp hb).2.2.1; omega)
      rw [e, FU_eq, lq2_s]
      generalize lq2 (f_X3_hyphenPlaces_L35 p M (iz (q.1.length : Int)) (pk q.1)) _ = K
      unfold f_X3_hyphenPlaces_L35
      rw [show (2 : Int32) = iz (2 : Int) from rfl, iz_sub, if_pos (lt_iz (by omega) (by omega) (by omega) (by omega) (by omega))]; rfl
  · rw [if_neg hk, if_pos rfl]
    have e : hyB (brk v q.1) q.1.length = 0 := hyB_none (fun p _ => by
      cases hb : brk v q.1 p with
      | false => rfl
      | true => have h3 := brk_iff.mp hb; exact absurd ⟨h3.1, h3.2.1⟩ hk)
    rw [e]; rfl
theorem m_mayB {M : Mem} {v : PV} (hv : okV v) (h : mPar (rdNow M) v) {w : Nat} {q : Word} (hq : v.1[w]? = some q) {p : Nat} (hp : p ≤ 12) : f_X9_mayBreak (iz (w : Int)) (iz (p : Int)) M = some (if brk v q.1 p = true then 1 else 0) := by
  obtain ⟨hw16, hl12, w1, w2, w3⟩ := h.word hv hq
  have e8 : gi M 139 19 = iz (v.2.2.2 8) := h.at' (i := 8) (by omega)
  have e9 : gi M 139 20 = iz (v.2.2.2 9) := h.at' (i := 9) (by omega)
  have ok8 := hv.2.2.2.2.2.2.2.2.2.2.2.2.2.1
  have ok9 := hv.2.2.2.2.2.2.2.2.2.2.2.2.2.2
  have hcv := m_val hv h hq hp
  have hv9 : valF q.1 p v.2.1 0 % 2 < 2 := Nat.mod_lt _ (by omega)
  unfold f_X9_mayBreak jq
  rw [e8, e9]
  simp only [clN (show w < 5000 by omega), w1]
  by_cases q3 : v.2.2.2 8 = 3
  · rw [if_pos (show iz (v.2.2.2 8) = (3 : Int32) by rw [q3]; rfl), if_neg (fun c => (brk_iff.mp c).1 q3)]
  rw [if_neg (show ¬ iz (v.2.2.2 8) = (3 : Int32) from neq_iz (b := 3) (by omega) (by omega) (by omega) (by omega) q3)]
  have K : (v.2.2.2 8 = 4 → v.2.2.2 9 < (q.1.length : Int)) → (if iz (p : Int) < (2 : Int32) then some (0 : Int32) else (gq (inB (iz (w : Int)) 16) ((if (iz (q.1.length : Int) - (2 : Int32)) < iz (p : Int) then some (0 : Int32) else (bq1 (f_X9_valueOf (iz (w : Int)) (iz (p : Int)) M) (fun (x7 : Int32) => (if (irm x7 (2 : Int32)) = (1 : Int32) then some (1 : Int32) else some (0 : Int32)))))))) = some (if brk v q.1 p = true then (1 : Int32) else 0) := fun q4 => by
    by_cases q5 : p < 2
    · rw [if_pos (show iz (p : Int) < (2 : Int32) from lt_iz (b := 2) (by omega) (by omega) (by omega) (by omega) (by omega)), if_neg (fun c => by have := (brk_iff.mp c).2.2.1; omega)]
    rw [if_neg (show ¬ iz (p : Int) < (2 : Int32) from nlt_iz (b := 2) (by omega) (by omega) (by omega) (by omega) (by omega)), g_t (inB_n hw16 (by omega))]
    have e2' : iz (q.1.length : Int) - (2 : Int32) = iz ((q.1.length : Int) - 2) := by rw [show (2 : Int32) = iz (2 : Int) from rfl, iz_sub]
    rw [e2']
    by_cases q6 : (q.1.length : Int) - 2 < (p : Int)
    · rw [if_pos (lt_iz (by omega) (by omega) (by omega) (by omega) q6), if_neg (fun c => by have := (brk_iff.mp c).2.2.2.1; omega)]
    rw [if_neg (nlt_iz (by omega) (by omega) (by omega) (by omega) q6), hcv, b_s1]
    have hval9 : valF q.1 p v.2.1 0 < 5000 := by
      have okw := hv.2.1 q (List.mem_of_getElem? hq)
      have : ∀ (rest : List Pat) (x : Nat), (∀ t ∈ rest, t.2.2 ≤ 9) → x ≤ 9 → valF q.1 p rest x ≤ 9 := by
        intro rest
        induction rest with
        | nil => intro x _ hx; exact hx
        | cons t r ih =>
          intro x ht hx
          show valF q.1 p r _ ≤ 9
          refine ih _ (fun u hu => ht u (List.mem_cons_of_mem _ hu)) ?_
          have := ht t List.mem_cons_self
          split
          · split <;> omega
          · exact hx
      have := this v.2.1 0 (fun t ht => (hv.2.2.2.1 t ht).2.2.2) (by omega)
      omega
    rw [irm2 hval9]
    by_cases r : valF q.1 p v.2.1 0 % 2 = 1
    · rw [if_pos (show iz ((valF q.1 p v.2.1 0 % 2 : Nat) : Int) = (1 : Int32) by rw [r]; rfl), if_pos (brk_iff.mpr ⟨q3, q4, by omega, by omega, r⟩)]
    · rw [if_neg (show ¬ iz ((valF q.1 p v.2.1 0 % 2 : Nat) : Int) = (1 : Int32) from ne_cnt (i := 1) r (by omega) (by omega)), if_neg (fun c => r (brk_iff.mp c).2.2.2.2)]
  by_cases q4 : v.2.2.2 8 = 4
  · rw [if_pos (show iz (v.2.2.2 8) = (4 : Int32) by rw [q4]; rfl), g_t (inB_n hw16 (by omega))]
    by_cases q5 : v.2.2.2 9 < (q.1.length : Int)
    · rw [if_pos (lt_iz (by omega) (by omega) (by omega) (by omega) q5)]; exact K (fun _ => q5)
    · rw [if_neg (nlt_iz (by omega) (by omega) (by omega) (by omega) q5), if_neg (fun c => q5 ((brk_iff.mp c).2.1 q4))]
  · rw [if_neg (show ¬ iz (v.2.2.2 8) = (4 : Int32) from neq_iz (b := 4) (by omega) (by omega) (by omega) (by omega) q4)]; exact K (fun c => absurd c q4)
theorem m_plL {M : Mem} {v : PV} (hv : okV v) (h : mPar (rdNow M) v) {w : Nat} {q : Word} (hq : v.1[w]? = some q) : ∀ (d f i : Nat), i + d = q.1.length → d < f →
    lq2 (f_X9_placesOf_L4 (iz (w : Int)) M) f (iz ((hyB (brk v q.1) i : Nat) : Int)) (iz (i : Int)) = some (iz ((hyB (brk v q.1) q.1.length : Nat) : Int)) := by
  obtain ⟨hw16, hl12, w1, w2, w3⟩ := h.word hv hq
  intro d
  induction d with
  | zero =>
    intro f i e1 e3
    obtain ⟨f, rfl⟩ : ∃ g, f = g + 1 := ⟨f - 1, by omega⟩
    rw [lq2_s]
    generalize lq2 (f_X9_placesOf_L4 (iz (w : Int)) M) f = K
    unfold f_X9_placesOf_L4
    rw [g_t (inB_n hw16 (by omega)), clN (by omega), w1, if_pos (le_cnt (by omega) (by omega)), show i = q.1.length by omega]
  | succ d ih =>
    intro f i e1 e3
    obtain ⟨f, rfl⟩ : ∃ g, f = g + 1 := ⟨f - 1, by omega⟩
    have hlt := hyB_lt (brk v q.1) i
    have ih' := ih f (i + 1) (by omega) (by omega)
    rw [lq2_s]
    generalize lq2 (f_X9_placesOf_L4 (iz (w : Int)) M) f = K at ih' ⊢
    unfold f_X9_placesOf_L4
    rw [g_t (inB_n hw16 (by omega)), clN (by omega), w1, if_neg (nle_cnt (by omega) (by omega)), m_mayB hv h hq (by omega), b_s1, nmq_q, nmq_q, nmq_q, iz_s]
    by_cases r : brk v q.1 i = true
    · have e : hyB (brk v q.1) (i + 1) = hyB (brk v q.1) i + 2 ^ i := by
        show hyB (brk v q.1) i + (if brk v q.1 i = true then 2 ^ i else 0) = _
        rw [if_pos r]
      rw [if_pos r, if_neg (by decide), or_bit hlt (by omega), ← e]; exact ih'
    · have e : hyB (brk v q.1) (i + 1) = hyB (brk v q.1) i := by
        show hyB (brk v q.1) i + (if brk v q.1 i = true then 2 ^ i else 0) = _
        rw [if_neg r]; rfl
      rw [if_neg r, if_pos rfl, Int32.or_zero, ← e]; exact ih'
theorem m_pl {M : Mem} {v : PV} (hv : okV v) (h : mPar (rdNow M) v) {w : Nat} {q : Word} (hq : v.1[w]? = some q) : f_X9_placesOf (iz (w : Int)) M = some (iz ((hyB (brk v q.1) q.1.length : Nat) : Int)) := by
  have := m_plL hv h hq q.1.length FU 0 (by omega) (by rw [FU_eq]; have := (h.word hv hq).2.1; omega)
  unfold f_X9_placesOf
  rw [b1_id]; exact this
theorem hyB_small {v : PV} {l : List Nat} (hl : l.length ≤ 12) : hyB (brk v l) l.length < 2048 := by
  by_cases h : l.length ≤ 11
  · exact Nat.lt_of_lt_of_le (hyB_lt _ _) (Nat.pow_le_pow_right (n := 2) (by omega) h)
  · have h12 : l.length = 12 := by omega
    have e : hyB (brk v l) (11 + 1) = hyB (brk v l) 11 := hyB_flat 1 (fun p h1 h2 => by
      cases hb : brk v l p with
      | false => rfl
      | true => have := (brk_iff.mp hb).2.2.2.1; omega)
    rw [h12, e]
    exact hyB_lt _ 11
