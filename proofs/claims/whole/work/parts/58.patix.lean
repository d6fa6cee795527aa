/-! patterns: which one is there -/
theorem lq1_s {A R : Type} (F : (A → Option R) → A → Option R) (n : Nat) (a : A) : lq1 F (n + 1) a = F (lq1 F n) a := rfl
theorem lq3_s {A B C R : Type} (F : (A → B → C → Option R) → A → B → C → Option R) (n : Nat) (a : A) (b : B) (c : C) : lq3 F (n + 1) a b c = F (lq3 F n) a b c := rfl
theorem lq4_s {A B C D R : Type} (F : (A → B → C → D → Option R) → A → B → C → D → Option R) (n : Nat) (a : A) (b : B) (c : C) (d : D) : lq4 F (n + 1) a b c d = F (lq4 F n) a b c d := rfl
theorem drop_step {α : Type} {l : List α} {i : Nat} {q : α} {r : List α} (h : l.drop i = q :: r) : l[i]? = some q ∧ l.drop (i + 1) = r := by
  refine ⟨?_, ?_⟩
  · have h2 := congrArg (fun x => x[0]?) h
    simpa [List.getElem?_drop] using h2
  · have h2 := congrArg List.tail h
    simpa [List.tail_drop] using h2
def ixF (P : Pat → Bool) : List Pat → Nat
  | [] => 0
  | q :: l => if P q = true then 0 else ixF P l + 1
theorem ixF_le (P : Pat → Bool) : ∀ l : List Pat, ixF P l ≤ l.length
  | [] => Nat.le_refl _
  | q :: l => by
    have := ixF_le P l
    unfold ixF
    by_cases h : P q = true
    · rw [if_pos h]; exact Nat.zero_le _
    · rw [if_neg h, List.length_cons]; omega
def patIs (l : List Nat) (p : Nat) (q : Pat) : Bool := decide (q.1 = l ∧ q.2.1 = p)
theorem patIs_iff {l : List Nat} {p : Nat} {q : Pat} : patIs l p q = true ↔ q.1 = l ∧ q.2.1 = p := by unfold patIs; exact decide_eq_true_iff
theorem lcm_0 (x y : Int64) : lcm x y = 0 ↔ x = y := by
  unfold lcm lg_cmp
  by_cases h : x > y
  · rw [if_pos h]
    refine ⟨fun e => absurd e (by decide), fun e => ?_⟩
    rw [e] at h; exact absurd h (Int64.lt_irrefl)
  · rw [if_neg h]
    by_cases h2 : x = y
    · rw [if_pos h2]; exact ⟨fun _ => h2, fun _ => rfl⟩
    · rw [if_neg h2]; exact ⟨fun e => absurd e (by decide), fun e => absurd e h2⟩
theorem of64_inj {a b : Nat} (ha : a < 2 ^ 63) (hb : b < 2 ^ 63) (h : Int64.ofNat a = Int64.ofNat b) : a = b := by
  have h2 := congrArg (fun x : Int64 => x.toUInt64.toNat) h
  have hu : ∀ m : Nat, (Int64.ofNat m).toUInt64 = UInt64.ofNat m := fun _ => rfl
  simp only [hu, UInt64.toNat_ofNat'] at h2
  rw [Nat.mod_eq_of_lt (by omega), Nat.mod_eq_of_lt (by omega)] at h2
  exact h2
theorem lcm_pk {l l' : List Nat} (h1 : l.length ≤ 12) (h2 : ∀ a ∈ l, a < 8) (h3 : l'.length ≤ 12) (h4 : ∀ a ∈ l', a < 8) : lcm (pk l) (pk l') = 0 ↔ l = l' := by
  rw [lcm_0]
  refine ⟨fun e => ?_, fun e => by rw [e]⟩
  exact pkN_inj l l' (fun a ha => by have := h2 a ha; omega) (fun a ha => by have := h4 a ha; omega) (of64_inj (pkN_lt63 h1 h2) (pkN_lt63 h3 h4) e)
theorem c_pspell {M : Mem} {k i : Nat} (h : i < 8) : f_X4_spellingOf k (iz (i : Int)) M = some (gl M (k + 1) i) := by
  unfold f_X4_spellingOf
  rw [if_neg (not_neg i (by omega)), if_neg (show ¬ (8 : Int32) ≤ iz (i : Int) from not_le_ (n := 8) (by omega) h), g_t (inB_n h (by omega)), clN (by omega)]
theorem nle_cnt {n i : Nat} (h : i < n) (hn : n < 5000) : ¬ iz (n : Int) ≤ iz (i : Int) := fun q => by have := (iz_cnt (n := n) (m := i) hn (by omega)).2.2.mp q; omega
theorem le_cnt {n i : Nat} (h : n ≤ i) (hn : i < 5000) : iz (n : Int) ≤ iz (i : Int) := (iz_cnt (n := n) (m := i) (by omega) hn).2.2.mpr h
theorem ne_cnt {n i : Nat} (h : n ≠ i) (h1 : n < 5000) (h2 : i < 5000) : ¬ iz (n : Int) = iz (i : Int) := fun q => h ((iz_cnt (n := n) (m := i) h1 h2).2.1.mp q)
theorem c_numL {M : Mem} {k : Nat} {ps : List Pat} (h : cPs M k ps) (a3 : alen (k + 3) = 8) (hl : ps.length ≤ 8) (hok : ∀ q ∈ ps, okP q) {l : List Nat} {p : Nat} (h1 : l.length ≤ 12) (h2 : ∀ a ∈ l, a < 8) (hp : p < 1000) : ∀ (rest : List Pat) (f i : Nat), ps.drop i = rest → rest.length < f → i + rest.length = ps.length →
    lq1 (f_X4_numberFor_L3 k (pk l) (iz (p : Int)) M) f (iz (i : Int)) = some (iz ((i + ixF (patIs l p) rest : Nat) : Int)) := by
  intro rest
  induction rest with
  | nil =>
    intro f i e0 e1 e2
    obtain ⟨f, rfl⟩ : ∃ g, f = g + 1 := ⟨f - 1, by have : ([] : List Pat).length < f := e1; simp at this; omega⟩
    have e2 : i = ps.length := by simpa using e2
    rw [lq1_s]
    generalize lq1 (f_X4_numberFor_L3 k (pk l) (iz (p : Int)) M) f = K
    unfold f_X4_numberFor_L3
    rw [h.1, if_pos (le_cnt (by omega) (by omega)), e2]; rfl
  | cons q rest ih =>
    intro f i e0 e1 e2
    rw [List.length_cons] at e1 e2
    obtain ⟨f, rfl⟩ : ∃ g, f = g + 1 := ⟨f - 1, by omega⟩
    obtain ⟨d1, d2⟩ := drop_step e0
    obtain ⟨b1, b2, b3, b4⟩ := h.2 i q d1
    have okq := hok q (List.mem_of_getElem? d1)
    have ih' := ih f (i + 1) d2 (by omega) (by omega)
    rw [lq1_s]
    generalize lq1 (f_X4_numberFor_L3 k (pk l) (iz (p : Int)) M) f = K at ih' ⊢
    unfold f_X4_numberFor_L3
    have hs : i + 1 + ixF (patIs l p) rest = i + (ixF (patIs l p) rest + 1) := by omega
    rw [h.1, if_neg (nle_cnt (by omega) (by omega)), c_pspell (by omega), b_s1, b1]
    by_cases r : q.1 = l
    · rw [if_pos ((lcm_pk (by have := okq.1.2.1; omega) okq.1.2.2 h1 h2).mpr r), c_at a3 (by omega) (by omega), b_s1, b3]
      by_cases r2 : q.2.1 = p
      · rw [if_pos (by rw [r2])]
        unfold ixF
        rw [if_pos (patIs_iff.mpr ⟨r, r2⟩)]; rfl
      · rw [if_neg (ne_cnt r2 (by have := okq.2.1; have := okq.1.2.1; omega) (by omega)), nmq_q, iz_s, ih']
        conv => rhs; unfold ixF
        rw [if_neg (fun e => r2 (patIs_iff.mp e).2), hs]
    · rw [if_neg (fun e => r ((lcm_pk (by have := okq.1.2.1; omega) okq.1.2.2 h1 h2).mp e)), nmq_q, iz_s, ih']
      conv => rhs; unfold ixF
      rw [if_neg (fun e => r (patIs_iff.mp e).1), hs]
theorem c_num {M : Mem} {k : Nat} {ps : List Pat} (h : cPs M k ps) (a3 : alen (k + 3) = 8) (hl : ps.length ≤ 8) (hok : ∀ q ∈ ps, okP q) {l : List Nat} {p : Nat} (h1 : l.length ≤ 12) (h2 : ∀ a ∈ l, a < 8) (hp : p < 1000) :
    f_X4_numberFor k (pk l) (iz (p : Int)) M = some (iz ((ixF (patIs l p) ps : Nat) : Int)) := by
  have := c_numL h a3 hl hok h1 h2 hp ps FU 0 rfl (by rw [FU_eq]; omega) (by omega)
  unfold f_X4_numberFor
  rw [Nat.zero_add] at this
  exact this
theorem c_room {M : Mem} {k : Nat} {ps : List Pat} (h : cPs M k ps) (a3 : alen (k + 3) = 8) (hl : ps.length ≤ 8) (hok : ∀ q ∈ ps, okP q) {l : List Nat} {p : Nat} (h1 : l.length ≤ 12) (h2 : ∀ a ∈ l, a < 8) (hp : p < 1000) :
    f_X4_hasRoomFor k (pk l) (iz (p : Int)) M = some (if ixF (patIs l p) ps < 8 then 1 else 0) := by
  have hle := ixF_le (patIs l p) ps
  unfold f_X4_hasRoomFor
  rw [c_num h a3 hl hok h1 h2 hp, b_s1]
  by_cases q : ixF (patIs l p) ps < 8
  · rw [if_pos q, if_neg (show ¬ (8 : Int32) ≤ iz ((ixF (patIs l p) ps : Nat) : Int) from nle_cnt (n := 8) q (by omega))]
  · rw [if_neg q, if_pos (show (8 : Int32) ≤ iz ((ixF (patIs l p) ps : Nat) : Int) from le_cnt (n := 8) (by omega) (by omega))]
/-! .. to the reference -/
theorem m_isPL {M : Mem} {w m : Nat} (hw : w < 8) (hm : m ≤ 3) : ∀ (d f k : Nat) (b : Bool), k + d = m → d < f → ∃ r : Bool, lq2 (f_X9_isPatternSo_L30 (iz (w : Int)) (iz (m : Int)) M) f (if b = true then (1 : Int32) else 0) (iz (k : Int)) = some (if r = true then (1 : Int32) else 0) ∧ (r = true ↔ b = true ∧ ∀ j, k ≤ j → j < m → gi M 146 (3 * w + j) = gi M 162 j) := by
  intro d
  induction d with
  | zero =>
    intro f k b e1 e2
    obtain ⟨f, rfl⟩ : ∃ g, f = g + 1 := ⟨f - 1, by omega⟩
    refine ⟨b, ?_, fun h => ⟨h, fun j h1 h2 => by omega⟩, fun h => h.1⟩
    rw [lq2_s]
    generalize lq2 (f_X9_isPatternSo_L30 (iz (w : Int)) (iz (m : Int)) M) f = K
    unfold f_X9_isPatternSo_L30
    rw [if_pos (le_cnt (by omega) (by omega))]
  | succ d ih =>
    intro f k b e1 e2
    obtain ⟨f, rfl⟩ : ∃ g, f = g + 1 := ⟨f - 1, by omega⟩
    cases b with
    | false =>
      refine ⟨false, ?_, fun h => ⟨h, fun j h1 h2 => absurd h (by decide)⟩, fun h => h.1⟩
      rw [lq2_s]
      generalize lq2 (f_X9_isPatternSo_L30 (iz (w : Int)) (iz (m : Int)) M) f = K
      unfold f_X9_isPatternSo_L30
      rw [if_neg (nle_cnt (by omega) (by omega)), if_pos (if_neg (by decide))]
    | true =>
      have i2 : (3 : Int32) * iz (w : Int) + iz (k : Int) = iz ((3 * w + k : Nat) : Int) := by
        rw [show (3 : Int32) = iz (3 : Int) from rfl, iz_mul, iz_add]; congr 1
      by_cases q : gi M 146 (3 * w + k) = gi M 162 k
      · obtain ⟨r, r1, r2⟩ := ih f (k + 1) true (by omega) (by omega)
        refine ⟨r, ?_, r2.trans ⟨fun h => ⟨rfl, fun j h1 h2 => ?_⟩, fun h => ⟨rfl, fun j h1 h2 => h.2 j (by omega) h2⟩⟩⟩
        · rw [lq2_s]
          generalize lq2 (f_X9_isPatternSo_L30 (iz (w : Int)) (iz (m : Int)) M) f = K at r1 ⊢
          unfold f_X9_isPatternSo_L30
          rw [if_neg (nle_cnt (by omega) (by omega)), if_neg (by decide), i2, g_t (inB_n (by omega) (by omega)), g_t (inB_n (by omega) (by omega)), clN (by omega), clN (by omega), if_pos q, nmq_q, iz_s]
          exact r1
        · by_cases q2 : j = k
          · rw [q2]; exact q
          · exact h.2 j (by omega) h2
      · obtain ⟨r, r1, r2⟩ := ih f (k + 1) false (by omega) (by omega)
        refine ⟨r, ?_, fun h => absurd (r2.mp h).1 (by decide), fun h => absurd (h.2 k (by omega) (by omega)) q⟩
        rw [lq2_s]
        generalize lq2 (f_X9_isPatternSo_L30 (iz (w : Int)) (iz (m : Int)) M) f = K at r1 ⊢
        unfold f_X9_isPatternSo_L30
        rw [if_neg (nle_cnt (by omega) (by omega)), if_neg (by decide), i2, g_t (inB_n (by omega) (by omega)), g_t (inB_n (by omega) (by omega)), clN (by omega), clN (by omega), if_neg q, nmq_q, iz_s]
        exact r1
def mIs (M : Mem) (m : Nat) (p3 : Int32) (w : Nat) : Prop := gi M 145 w = iz (m : Int) ∧ gi M 147 w = p3 ∧ ∀ j, j < m → gi M 146 (3 * w + j) = gi M 162 j
theorem m_isP {M : Mem} {w m : Nat} (hw : w < 8) (hm : m ≤ 3) (p3 : Int32) : ∃ r : Bool, f_X9_isPatternSo (iz (w : Int)) (iz (m : Int)) p3 M = some (if r = true then (1 : Int32) else 0) ∧ (r = true ↔ mIs M m p3 w) := by
  obtain ⟨b, hb, hb2⟩ : ∃ b : Bool, (if (gi M 145 w) = iz (m : Int) then (gq (inB (iz (w : Int)) 8) (if (gi M 147 w) = p3 then (some ((1 : Int32))) else (some ((0 : Int32))))) else (some ((0 : Int32)))) = some (if b = true then (1 : Int32) else 0) ∧ (b = true ↔ gi M 145 w = iz (m : Int) ∧ gi M 147 w = p3) := by
    by_cases q1 : gi M 145 w = iz (m : Int)
    · rw [if_pos q1, g_t (inB_n hw (by omega))]
      by_cases q2 : gi M 147 w = p3
      · exact ⟨true, by rw [if_pos q2]; rfl, fun _ => ⟨q1, q2⟩, fun _ => rfl⟩
      · exact ⟨false, by rw [if_neg q2]; rfl, fun h => absurd h (by decide), fun h => absurd h.2 q2⟩
    · exact ⟨false, by rw [if_neg q1]; rfl, fun h => absurd h (by decide), fun h => absurd h.1 q1⟩
  obtain ⟨r, r1, r2⟩ := m_isPL (M := M) hw hm m FU 0 b (by omega) (by rw [FU_eq]; omega)
  refine ⟨r, ?_, ?_⟩
  · unfold f_X9_isPatternSo
    rw [g_t (inB_n hw (by omega))]
    simp only [clN (show w < 5000 by omega)]
    rw [hb, b_s1]
    have r1' : lq2 (f_X9_isPatternSo_L30 (iz (w : Int)) (iz (m : Int)) M) FU (if b = true then (1 : Int32) else 0) (0 : Int32) = _ := r1
    rw [r1', b_s1]
    refine g_t ?_
    cases r
    · left; rfl
    · right; rfl
  · rw [r2, hb2]
    exact ⟨fun h => ⟨h.1.1, h.1.2, fun j hj => h.2 j (by omega) hj⟩, fun h => ⟨⟨h.1, h.2.1⟩, fun j _ hj => h.2.2 j hj⟩⟩
theorem m_placeL {M : Mem} {ps : List Pat} (h9 : gi M 139 10 = iz (ps.length : Int)) (hl : ps.length ≤ 8) {m : Nat} (hm : m ≤ 3) (p3 : Int32) : ∀ (rest : List Pat) (f i : Nat), ps.drop i = rest → rest.length < f → i + rest.length = ps.length →
    ∃ x, lq1 (f_X9_placeOfPattern_L2 (iz (m : Int)) p3 M) f (iz (i : Int)) = some x ∧ ∀ P : Pat → Bool, (∀ w q, ps[w]? = some q → (P q = true ↔ mIs M m p3 w)) → x = iz ((i + ixF P rest : Nat) : Int) := by
  intro rest
  induction rest with
  | nil =>
    intro f i e0 e1 e2
    obtain ⟨f, rfl⟩ : ∃ g, f = g + 1 := ⟨f - 1, by have : ([] : List Pat).length < f := e1; simp at this; omega⟩
    have e2 : i = ps.length := by simpa using e2
    refine ⟨iz (i : Int), ?_, fun P _ => by unfold ixF; rfl⟩
    rw [lq1_s]
    generalize lq1 (f_X9_placeOfPattern_L2 (iz (m : Int)) p3 M) f = K
    unfold f_X9_placeOfPattern_L2
    rw [h9, if_pos (le_cnt (by omega) (by omega))]
  | cons q rest ih =>
    intro f i e0 e1 e2
    rw [List.length_cons] at e1 e2
    obtain ⟨f, rfl⟩ : ∃ g, f = g + 1 := ⟨f - 1, by omega⟩
    obtain ⟨d1, d2⟩ := drop_step e0
    obtain ⟨r, r1, r2⟩ := m_isP (M := M) (w := i) (m := m) (by omega) hm p3
    cases r with
    | true =>
      refine ⟨iz (i : Int), ?_, fun P hP => ?_⟩
      · rw [lq1_s]
        generalize lq1 (f_X9_placeOfPattern_L2 (iz (m : Int)) p3 M) f = K
        unfold f_X9_placeOfPattern_L2
        rw [h9, if_neg (nle_cnt (by omega) (by omega)), r1, b_s1, if_neg (by decide)]
      · unfold ixF
        rw [if_pos ((hP i q d1).mpr (r2.mp rfl))]; rfl
    | false =>
      obtain ⟨x, x1, x2⟩ := ih f (i + 1) d2 (by omega) (by omega)
      refine ⟨x, ?_, fun P hP => ?_⟩
      · rw [lq1_s]
        generalize lq1 (f_X9_placeOfPattern_L2 (iz (m : Int)) p3 M) f = K at x1 ⊢
        unfold f_X9_placeOfPattern_L2
        rw [h9, if_neg (nle_cnt (by omega) (by omega)), r1, b_s1, if_pos (show (if false = true then (1 : Int32) else 0) = 0 by decide), nmq_q, iz_s]; exact x1
      · rw [x2 P hP]
        conv => rhs; unfold ixF
        rw [if_neg (fun e => absurd (r2.mpr ((hP i q d1).mp e)) (by decide))]
        congr 2; omega
theorem m_place {M : Mem} {ps : List Pat} (h9 : gi M 139 10 = iz (ps.length : Int)) (hl : ps.length ≤ 8) {m : Nat} (hm : m ≤ 3) (p3 : Int32) :
    ∃ x, f_X9_placeOfPattern (iz (m : Int)) p3 M = some x ∧ ∀ P : Pat → Bool, (∀ w q, ps[w]? = some q → (P q = true ↔ mIs M m p3 w)) → x = iz ((ixF P ps : Nat) : Int) := by
  obtain ⟨x, x1, x2⟩ := m_placeL h9 hl hm p3 ps FU 0 rfl (by rw [FU_eq]; omega) (by omega)
  refine ⟨x, ?_, fun P hP => by have := x2 P hP; rw [Nat.zero_add] at this; exact this⟩
  unfold f_X9_placeOfPattern
  rw [b1_id]; exact x1
theorem m_isIt {M : Mem} {v : PV} (hv : okV v) (h : mPar (rdNow M) v) {l : List Nat} {p : Nat} (hl3 : l.length ≤ 3) (hc : ∀ (k a : Nat), l[k]? = some a → gi M 162 k = iz (a : Int)) (h8 : ∀ a ∈ l, a < 8) (hp : p < 1000) : ∀ w q, v.2.1[w]? = some q → (patIs l p q = true ↔ mIs M l.length (iz (p : Int)) w) := by
  intro w q hq
  have hw : w < 8 := Nat.lt_of_lt_of_le (List.getElem?_eq_some_iff.mp hq).1 hv.2.2.1
  have okq := hv.2.2.2.1 q (List.mem_of_getElem? hq)
  obtain ⟨b1, b2, b3, b4⟩ := h.2.2.2.1 w q hq
  rw [rd_in M (k := 145) (n := 8) (c := 232) (by omega) w hw] at b1
  rw [rd_in M (k := 147) (n := 8) (c := 264) (by omega) w hw] at b3
  have b2' : ∀ (k a : Nat), q.1[k]? = some a → gi M 146 (3 * w + k) = iz (a : Int) := fun k a hk => by
    have hk3 : k < 3 := Nat.lt_of_lt_of_le (List.getElem?_eq_some_iff.mp hk).1 okq.1.2.1
    have e := b2 k a hk
    rwa [rd_in M (k := 146) (n := 24) (c := 240) (by omega) (3 * w + k) (by omega)] at e
  have hq3 : q.1.length ≤ 3 := okq.1.2.1
  have hqp := okq.2.1
  rw [patIs_iff]
  unfold mIs
  rw [b1, b3]
  constructor
  · rintro ⟨e1, e2⟩
    refine ⟨by rw [e1], by rw [e2], fun j hj => ?_⟩
    have hj2 : l[j]? = some l[j] := List.getElem?_eq_getElem hj
    rw [hc j _ hj2]
    exact b2' j _ (by rw [e1]; exact hj2)
  · rintro ⟨e1, e2, e3⟩
    have e1 : q.1.length = l.length := (iz_cnt (by omega) (by omega)).2.1.mp e1
    have e2 : q.2.1 = p := (iz_cnt (by omega) (by omega)).2.1.mp e2
    refine ⟨?_, e2⟩
    apply List.ext_getElem e1
    intro j h1 h2
    have t1 := b2' j _ (List.getElem?_eq_getElem h1)
    have t2 := hc j _ (List.getElem?_eq_getElem h2)
    have t3 := e3 j h2
    rw [t1, t2] at t3
    have u1 := okq.1.2.2 _ (List.getElem_mem h1)
    have u2 := h8 _ (List.getElem_mem h2)
    exact (iz_cnt (by omega) (by omega)).2.1.mp t3
