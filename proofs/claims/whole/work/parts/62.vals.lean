/-! the value of a place -/
def stands (l : List Nat) (p : Nat) (q : Pat) : Bool := decide (q.2.1 ≤ p ∧ (l.drop (p - q.2.1)).take q.1.length = q.1)
def valF (l : List Nat) (p : Nat) : List Pat → Nat → Nat
  | [], x => x
  | q :: r, x => valF l p r (if stands l p q = true then (if x < q.2.2 then q.2.2 else x) else x)
theorem stands_iff {l : List Nat} {p : Nat} {q : Pat} : stands l p q = true ↔ q.2.1 ≤ p ∧ (l.drop (p - q.2.1)).take q.1.length = q.1 := by unfold stands; exact decide_eq_true_iff
theorem take_iff {l m : List Nat} {s : Nat} (hm : 1 ≤ m.length) : (l.drop s).take m.length = m ↔ s + m.length ≤ l.length ∧ ∀ (j a : Nat), m[j]? = some a → l[s + j]? = some a := by
  constructor
  · intro h
    have hl := congrArg List.length h
    rw [List.length_take, List.length_drop] at hl
    refine ⟨by omega, fun j a hj => ?_⟩
    have hj2 : j < m.length := (List.getElem?_eq_some_iff.mp hj).1
    rw [← h, List.getElem?_take, if_pos hj2, List.getElem?_drop] at hj
    exact hj
  · rintro ⟨h1, h2⟩
    apply List.ext_getElem?
    intro j
    rw [List.getElem?_take, List.getElem?_drop]
    by_cases r : j < m.length
    · rw [if_pos r, h2 j _ (List.getElem?_eq_getElem r), List.getElem?_eq_getElem r]
    · rw [if_neg r, List.getElem?_eq_none (by omega)]
theorem andP {n : Nat} (hn : n < 2 ^ 63) {k : Nat} (hk : k ≤ 12) : Int64.ofNat n &&& Int64.ofNat (16 ^ k - 1) = Int64.ofNat (n % 16 ^ k) := by
  have hp : (16 : Nat) ^ k = 2 ^ (4 * k) := by rw [Nat.pow_mul]
  have hle : (16 : Nat) ^ k ≤ 16 ^ 12 := Nat.pow_le_pow_right (by omega) hk
  have h12 : (16 : Nat) ^ 12 < 2 ^ 63 := by decide
  have hg : (UInt64.ofNat n &&& UInt64.ofNat (16 ^ k - 1)) = UInt64.ofNat (n % 16 ^ k) := by
    apply UInt64.toNat_inj.mp
    have hm : n % 16 ^ k ≤ n := Nat.mod_le _ _
    rw [UInt64.toNat_and, UInt64.toNat_ofNat', UInt64.toNat_ofNat', UInt64.toNat_ofNat', Nat.mod_eq_of_lt (show n < 2 ^ 64 by omega), Nat.mod_eq_of_lt (show 16 ^ k - 1 < 2 ^ 64 by omega), Nat.mod_eq_of_lt (show n % 16 ^ k < 2 ^ 64 by omega), hp]
    exact Nat.and_two_pow_sub_one_eq_mod n (4 * k)
  exact congrArg UInt64.toInt64 hg
theorem maskL : ∀ k : Fin 4, (lshl (1 : Int64) ((4 : Int32) * iz ((k.val : Nat) : Int))) - (1 : Int64) = Int64.ofNat (16 ^ k.val - 1) := by decide
theorem c_match {l m : List Nat} {s : Nat} (h1 : l.length ≤ 12) (h2 : ∀ a ∈ l, a < 8) (h3 : m.length ≤ 3) (h4 : ∀ a ∈ m, a < 8) (hs : s ≤ 12) : lcm ((lush (pk l) ((4 : Int32) * iz (s : Int))) &&& ((lshl (1 : Int64) ((4 : Int32) * iz (m.length : Int))) - (1 : Int64))) (pk m) = 0 ↔ (l.drop s).take m.length = m := by
  have e1 : lush (pk l) ((4 : Int32) * iz (s : Int)) = Int64.ofNat (pkN l / 16 ^ s) := lushN (pkN_lt63 h1 h2) (by omega)
  have e2 : (lshl (1 : Int64) ((4 : Int32) * iz (m.length : Int))) - (1 : Int64) = Int64.ofNat (16 ^ m.length - 1) := maskL ⟨m.length, by omega⟩
  have hd : pkN l / 16 ^ s < 2 ^ 63 := Nat.lt_of_le_of_lt (Nat.div_le_self _ _) (pkN_lt63 h1 h2)
  rw [e1, e2, andP hd (by omega), lcm_0]
  have h2' : ∀ a ∈ l, a < 15 := fun a ha => by have := h2 a ha; omega
  have hdr : ∀ a ∈ l.drop s, a < 15 := fun a ha => h2' a (List.mem_of_mem_drop ha)
  have e3 : pkN l / 16 ^ s % 16 ^ m.length = pkN ((l.drop s).take m.length) := by rw [pkN_take _ _ hdr, pkN_drop _ _ h2']
  rw [e3]
  constructor
  · intro e
    refine pkN_inj _ _ (fun a ha => hdr a (List.mem_of_mem_take ha)) (fun a ha => by have := h4 a ha; omega) (of64_inj ?_ (pkN_lt63 (by omega) h4) e)
    rw [← e3]
    exact Nat.lt_of_le_of_lt (Nat.mod_le _ _) hd
  · intro e
    rw [e]; rfl
theorem c_valL {M : Mem} {k : Nat} {ps : List Pat} (h : cPs M k ps) (a2 : alen (k + 2) = 8) (a3 : alen (k + 3) = 8) (a4 : alen (k + 4) = 8) (hl : ps.length ≤ 8) (hok : ∀ q ∈ ps, okP q) {l : List Nat} {p : Nat} (h1 : l.length ≤ 12) (h2 : ∀ a ∈ l, a < 8) (hp : p ≤ 12) : ∀ (rest : List Pat) (f i x : Nat), ps.drop i = rest → rest.length < f → i + rest.length = ps.length → x ≤ 9 →
    lq2 (f_X4_greatestValue_L6 k (pk l) (iz (p : Int)) M) f (iz (x : Int)) (iz (i : Int)) = some (iz ((valF l p rest x : Nat) : Int)) ∧ valF l p rest x ≤ 9 := by
  intro rest
  induction rest with
  | nil =>
    intro f i x e0 e1 e2 hx
    obtain ⟨f, rfl⟩ : ∃ g, f = g + 1 := ⟨f - 1, by have : ([] : List Pat).length < f := e1; simp at this; omega⟩
    have e2 : i = ps.length := by simpa using e2
    refine ⟨?_, hx⟩
    rw [lq2_s]
    generalize lq2 (f_X4_greatestValue_L6 k (pk l) (iz (p : Int)) M) f = K
    unfold f_X4_greatestValue_L6
    rw [h.1, if_pos (le_cnt (by omega) (by omega))]; rfl
  | cons q rest ih =>
    intro f i x e0 e1 e2 hx
    rw [List.length_cons] at e1 e2
    obtain ⟨f, rfl⟩ : ∃ g, f = g + 1 := ⟨f - 1, by omega⟩
    obtain ⟨d1, d2⟩ := drop_step e0
    obtain ⟨b1, b2, b3, b4⟩ := h.2 i q d1
    have okq := hok q (List.mem_of_getElem? d1)
    have hq3 := okq.1.2.1
    have hqp := okq.2.1
    have hq9 := okq.2.2.2
    rw [lq2_s]
    have ihA := ih f (i + 1) x d2 (by omega) (by omega) hx
    have ihB := ih f (i + 1) (if x < q.2.2 then q.2.2 else x) d2 (by omega) (by omega) (by split <;> omega)
    generalize lq2 (f_X4_greatestValue_L6 k (pk l) (iz (p : Int)) M) f = K at ihA ihB ⊢
    unfold f_X4_greatestValue_L6
    rw [h.1, if_neg (nle_cnt (by omega) (by omega)), c_at a3 (by omega) (by omega), b_s1, nmq_q, c_at a2 (by omega) (by omega), b_s1, nmq_q, b2, b3, iz_sub]
    show (if iz ((p : Int) - (q.2.1 : Int)) < 0 then _ else _) = _ ∧ _
    by_cases r : q.2.1 ≤ p
    · rw [if_neg (show ¬ iz ((p : Int) - (q.2.1 : Int)) < 0 from nlt_iz (b := 0) (by omega) (by omega) (by omega) (by omega) (by omega)), c_pspell (by omega), b_s1, b1, show (p : Int) - (q.2.1 : Int) = ((p - q.2.1 : Nat) : Int) by omega]
      by_cases r2 : (l.drop (p - q.2.1)).take q.1.length = q.1
      · have hs : stands l p q = true := stands_iff.mpr ⟨r, r2⟩
        rw [if_pos ((c_match h1 h2 hq3 okq.1.2.2 (by omega)).mpr r2), c_at a4 (by omega) (by omega), b_s1, b4]
        have em : f_J9_max_7cf53 (iz (x : Int)) (iz (q.2.2 : Int)) = some (iz (((if x < q.2.2 then q.2.2 else x) : Nat) : Int)) := by
          unfold f_J9_max_7cf53
          by_cases r3 : x < q.2.2
          · rw [if_pos ((iz_cnt (by omega) (by omega)).1.mpr r3), if_pos r3]
          · rw [if_neg (fun e => r3 ((iz_cnt (by omega) (by omega)).1.mp e)), if_neg r3]
        rw [em, b_s1, nmq_q, iz_s]
        show _ ∧ valF l p rest (if stands l p q = true then (if x < q.2.2 then q.2.2 else x) else x) ≤ 9
        rw [if_pos hs]
        refine ⟨?_, ihB.2⟩
        show _ = some (iz ((valF l p rest (if stands l p q = true then (if x < q.2.2 then q.2.2 else x) else x) : Nat) : Int))
        rw [if_pos hs]; exact ihB.1
      · have hs : ¬ stands l p q = true := fun e => r2 (stands_iff.mp e).2
        rw [if_neg (fun e => r2 ((c_match h1 h2 hq3 okq.1.2.2 (by omega)).mp e)), nmq_q, iz_s]
        show _ ∧ valF l p rest (if stands l p q = true then (if x < q.2.2 then q.2.2 else x) else x) ≤ 9
        rw [if_neg hs]
        refine ⟨?_, ihA.2⟩
        show _ = some (iz ((valF l p rest (if stands l p q = true then (if x < q.2.2 then q.2.2 else x) else x) : Nat) : Int))
        rw [if_neg hs]; exact ihA.1
    · have hs : ¬ stands l p q = true := fun e => r (stands_iff.mp e).1
      rw [if_pos (show iz ((p : Int) - (q.2.1 : Int)) < 0 from lt_iz (b := 0) (by omega) (by omega) (by omega) (by omega) (by omega)), nmq_q, iz_s]
      show _ ∧ valF l p rest (if stands l p q = true then (if x < q.2.2 then q.2.2 else x) else x) ≤ 9
      rw [if_neg hs]
      refine ⟨?_, ihA.2⟩
      show _ = some (iz ((valF l p rest (if stands l p q = true then (if x < q.2.2 then q.2.2 else x) else x) : Nat) : Int))
      rw [if_neg hs]; exact ihA.1
theorem c_val {M : Mem} {k : Nat} {ps : List Pat} (h : cPs M k ps) (a2 : alen (k + 2) = 8) (a3 : alen (k + 3) = 8) (a4 : alen (k + 4) = 8) (hl : ps.length ≤ 8) (hok : ∀ q ∈ ps, okP q) {l : List Nat} {p : Nat} (h1 : l.length ≤ 12) (h2 : ∀ a ∈ l, a < 8) (hp : p ≤ 12) :
    f_X4_greatestValue k (pk l) (iz (p : Int)) M = some (iz ((valF l p ps 0 : Nat) : Int)) ∧ valF l p ps 0 ≤ 9 := by
  have := c_valL h a2 a3 a4 hl hok h1 h2 hp ps FU 0 0 rfl (by rw [FU_eq]; omega) (by omega) (by omega)
  refine ⟨?_, this.2⟩
  unfold f_X4_greatestValue
  rw [b1_id]
  exact this.1
theorem m_standsL {M : Mem} {i w s m : Nat} (hi : i < 8) (hw : w < 16) (hs : s + m ≤ 12) (hm : m ≤ 3) (h5 : gi M 145 i = iz (m : Int)) : ∀ (d f k : Nat), k + d = m → d < f → ∃ r : Bool, lq1 (f_X9_standsAt_L3 (iz (i : Int)) (iz (w : Int)) (iz (s : Int)) M) f (iz (k : Int)) = some (if r = true then (1 : Int32) else 0) ∧ (r = true ↔ ∀ j, k ≤ j → j < m → gi M 143 (12 * w + s + j) = gi M 146 (3 * i + j)) := by
  intro d
  induction d with
  | zero =>
    intro f k e1 e2
    obtain ⟨f, rfl⟩ : ∃ g, f = g + 1 := ⟨f - 1, by omega⟩
    refine ⟨true, ?_, fun _ j h1 h2 => by omega, fun _ => rfl⟩
    rw [lq1_s]
    generalize lq1 (f_X9_standsAt_L3 (iz (i : Int)) (iz (w : Int)) (iz (s : Int)) M) f = K
    unfold f_X9_standsAt_L3
    rw [g_t (inB_n hi (by omega)), clN (by omega), h5, if_pos (le_cnt (by omega) (by omega))]; rfl
  | succ d ih =>
    intro f k e1 e2
    obtain ⟨f, rfl⟩ : ∃ g, f = g + 1 := ⟨f - 1, by omega⟩
    have i2 : (3 : Int32) * iz (i : Int) + iz (k : Int) = iz ((3 * i + k : Nat) : Int) := by
      rw [show (3 : Int32) = iz (3 : Int) from rfl, iz_mul, iz_add]; congr 1
    have i3 : (12 : Int32) * iz (w : Int) + iz (s : Int) + iz (k : Int) = iz ((12 * w + s + k : Nat) : Int) := by
      rw [show (12 : Int32) = iz (12 : Int) from rfl, iz_mul, iz_add, iz_add]; congr 1
    by_cases q : gi M 143 (12 * w + s + k) = gi M 146 (3 * i + k)
    · obtain ⟨r, r1, r2⟩ := ih f (k + 1) (by omega) (by omega)
      refine ⟨r, ?_, r2.trans ⟨fun h j h1 h2 => ?_, fun h j h1 h2 => h j (by omega) h2⟩⟩
      · rw [lq1_s]
        generalize lq1 (f_X9_standsAt_L3 (iz (i : Int)) (iz (w : Int)) (iz (s : Int)) M) f = K at r1 ⊢
        unfold f_X9_standsAt_L3
        rw [g_t (inB_n hi (by omega)), clN (by omega), h5, if_neg (nle_cnt (by omega) (by omega)), i2, i3, g_t (inB_n (by omega) (by omega)), g_t (inB_n (by omega) (by omega)), clN (by omega), clN (by omega), if_pos q, nmq_q, iz_s]
        exact r1
      · by_cases q2 : j = k
        · rw [q2]; exact q
        · exact h j (by omega) h2
    · refine ⟨false, ?_, fun h => absurd h (by decide), fun h => absurd (h k (by omega) (by omega)) q⟩
      rw [lq1_s]
      generalize lq1 (f_X9_standsAt_L3 (iz (i : Int)) (iz (w : Int)) (iz (s : Int)) M) f = K
      unfold f_X9_standsAt_L3
      rw [g_t (inB_n hi (by omega)), clN (by omega), h5, if_neg (nle_cnt (by omega) (by omega)), i2, i3, g_t (inB_n (by omega) (by omega)), g_t (inB_n (by omega) (by omega)), clN (by omega), clN (by omega), if_neg q]; rfl
/-- what the reference reads of a word and of the patterns -/
theorem mPar.word {M : Mem} {v : PV} (hv : okV v) (h : mPar (rdNow M) v) {w : Nat} {q : Word} (hq : v.1[w]? = some q) : w < 16 ∧ q.1.length ≤ 12 ∧ gi M 142 w = iz (q.1.length : Int) ∧ (∀ (k a : Nat), q.1[k]? = some a → gi M 143 (12 * w + k) = iz (a : Int)) ∧ gi M 144 w = iz (q.2 : Int) := by
  have hw : w < 16 := Nat.lt_of_lt_of_le (List.getElem?_eq_some_iff.mp hq).1 hv.1
  have hl : q.1.length ≤ 12 := (hv.2.1 q (List.mem_of_getElem? hq)).1.2.1
  obtain ⟨b1, b2, b3⟩ := h.2.1 w q hq
  rw [rd_in M (k := 142) (n := 16) (c := 8) (by omega) w hw] at b1
  rw [rd_in M (k := 144) (n := 16) (c := 216) (by omega) w hw] at b3
  refine ⟨hw, hl, b1, fun k a hk => ?_, b3⟩
  have hk2 : k < q.1.length := (List.getElem?_eq_some_iff.mp hk).1
  have e := b2 k a hk
  rwa [rd_in M (k := 143) (n := 192) (c := 24) (by omega) (12 * w + k) (by omega)] at e
theorem mPar.pat {M : Mem} {v : PV} (hv : okV v) (h : mPar (rdNow M) v) {w : Nat} {q : Pat} (hq : v.2.1[w]? = some q) : w < 8 ∧ gi M 145 w = iz (q.1.length : Int) ∧ (∀ (k a : Nat), q.1[k]? = some a → gi M 146 (3 * w + k) = iz (a : Int)) ∧ gi M 147 w = iz (q.2.1 : Int) ∧ gi M 148 w = iz (q.2.2 : Int) := by
  have hw : w < 8 := Nat.lt_of_lt_of_le (List.getElem?_eq_some_iff.mp hq).1 hv.2.2.1
  have hl : q.1.length ≤ 3 := (hv.2.2.2.1 q (List.mem_of_getElem? hq)).1.2.1
  obtain ⟨b1, b2, b3, b4⟩ := h.2.2.2.1 w q hq
  rw [rd_in M (k := 145) (n := 8) (c := 232) (by omega) w hw] at b1
  rw [rd_in M (k := 147) (n := 8) (c := 264) (by omega) w hw] at b3
  rw [rd_in M (k := 148) (n := 8) (c := 272) (by omega) w hw] at b4
  refine ⟨hw, b1, fun k a hk => ?_, b3, b4⟩
  have hk2 : k < q.1.length := (List.getElem?_eq_some_iff.mp hk).1
  have e := b2 k a hk
  rwa [rd_in M (k := 146) (n := 24) (c := 240) (by omega) (3 * w + k) (by omega)] at e
theorem m_valL {M : Mem} {v : PV} (hv : okV v) (h : mPar (rdNow M) v) {w : Nat} {q : Word} (hq : v.1[w]? = some q) {p : Nat} (hp : p ≤ 12) : ∀ (rest : List Pat) (f i x : Nat), v.2.1.drop i = rest → rest.length < f → i + rest.length = v.2.1.length → x ≤ 9 →
    lq2 (f_X9_valueOf_L5 (iz (w : Int)) (iz (p : Int)) M) f (iz (x : Int)) (iz (i : Int)) = some (iz ((valF q.1 p rest x : Nat) : Int)) := by
  obtain ⟨hw16, hl12, w1, w2, w3⟩ := h.word hv hq
  have h8 := hv.2.2.1
  have hpc := h.pcount
  have okw := hv.2.1 q (List.mem_of_getElem? hq)
  intro rest
  induction rest with
  | nil =>
    intro f i x e0 e1 e2 hx
    obtain ⟨f, rfl⟩ : ∃ g, f = g + 1 := ⟨f - 1, by have : ([] : List Pat).length < f := e1; simp at this; omega⟩
    have e2 : i = v.2.1.length := by simpa using e2
    rw [lq2_s]
    generalize lq2 (f_X9_valueOf_L5 (iz (w : Int)) (iz (p : Int)) M) f = K
    unfold f_X9_valueOf_L5
    rw [hpc, if_pos (le_cnt (by omega) (by omega))]; rfl
  | cons t rest ih =>
    intro f i x e0 e1 e2 hx
    rw [List.length_cons] at e1 e2
    obtain ⟨f, rfl⟩ : ∃ g, f = g + 1 := ⟨f - 1, by omega⟩
    obtain ⟨d1, d2⟩ := drop_step e0
    obtain ⟨hi8, b1, b2, b3, b4⟩ := h.pat hv d1
    have okq := hv.2.2.2.1 t (List.mem_of_getElem? d1)
    have hq3 := okq.1.2.1
    have hqp := okq.2.1
    have hq9 := okq.2.2.2
    rw [lq2_s]
    have ihA := ih f (i + 1) x d2 (by omega) (by omega) hx
    have ihB := ih f (i + 1) (if x < t.2.2 then t.2.2 else x) d2 (by omega) (by omega) (by split <;> omega)
    generalize lq2 (f_X9_valueOf_L5 (iz (w : Int)) (iz (p : Int)) M) f = K at ihA ihB ⊢
    unfold f_X9_valueOf_L5
    rw [hpc, if_neg (nle_cnt (by omega) (by omega)), g_t (inB_n hi8 (by omega)), nmq_q]
    simp only [clN (show i < 5000 by omega), clN (show w < 5000 by omega), b3, iz_sub]
    show bq1 _ _ = some (iz ((valF q.1 p rest (if stands q.1 p t = true then (if x < t.2.2 then t.2.2 else x) else x) : Nat) : Int))
    have key : ∃ r : Bool, (if iz ((p : Int) - (t.2.1 : Int)) < 0 then (some ((0 : Int32))) else (gq (inB (iz (i : Int)) 8) (gq (inB (iz (w : Int)) 16) ((if (gi M 142 w) < (iz ((p : Int) - (t.2.1 : Int)) + (gi M 145 i)) then (some ((0 : Int32))) else (bq1 (f_X9_standsAt (iz (i : Int)) (iz (w : Int)) (iz ((p : Int) - (t.2.1 : Int))) M) (fun (x26 : Int32) => (if x26 = 0 then (some ((0 : Int32))) else (some ((1 : Int32)))))))))) : Option Int32) = some (if r = true then (1 : Int32) else 0) ∧ r = stands q.1 p t := by
      by_cases r : t.2.1 ≤ p
      · rw [if_neg (show ¬ iz ((p : Int) - (t.2.1 : Int)) < 0 from nlt_iz (b := 0) (by omega) (by omega) (by omega) (by omega) (by omega)), show (p : Int) - (t.2.1 : Int) = ((p - t.2.1 : Nat) : Int) by omega, g_t (inB_n hi8 (by omega)), g_t (inB_n hw16 (by omega)), w1, b1, iz_add]
        by_cases r2 : p - t.2.1 + t.1.length ≤ q.1.length
        · rw [if_neg (show ¬ iz (q.1.length : Int) < iz (((p - t.2.1 : Nat) : Int) + (t.1.length : Int)) from nlt_iz (by omega) (by omega) (by omega) (by omega) (by omega))]
          obtain ⟨b, c1, c2⟩ := m_standsL (M := M) (i := i) (w := w) (s := p - t.2.1) (m := t.1.length) hi8 hw16 (by omega) hq3 b1 t.1.length FU 0 (by omega) (by rw [FU_eq]; omega)
          have c1' : f_X9_standsAt (iz (i : Int)) (iz (w : Int)) (iz ((p - t.2.1 : Nat) : Int)) M = some (if b = true then (1 : Int32) else 0) := c1
          rw [c1', b_s1]
          have hst : stands q.1 p t = true ↔ b = true := by
            rw [stands_iff, take_iff okq.1.1, c2]
            constructor
            · rintro ⟨_, _, u3⟩ j _ hj
              have u4 := u3 j _ (List.getElem?_eq_getElem hj)
              rw [Nat.add_assoc, w2 _ _ u4, b2 j _ (List.getElem?_eq_getElem hj)]
            · intro u
              refine ⟨r, r2, fun j a hj => ?_⟩
              have hj2 : j < t.1.length := (List.getElem?_eq_some_iff.mp hj).1
              have u5 := u j (by omega) hj2
              have hlt : p - t.2.1 + j < q.1.length := by omega
              rw [b2 j a hj, Nat.add_assoc, w2 _ _ (List.getElem?_eq_getElem hlt)] at u5
              have s1 := okw.1.2.2 _ (List.getElem_mem hlt)
              have s2 := okq.1.2.2 _ (List.mem_of_getElem? hj)
              have u6 := (iz_cnt (by omega) (by omega)).2.1.mp u5
              rw [List.getElem?_eq_getElem hlt, u6]
          cases b with
          | true => exact ⟨true, by rw [if_neg (show ¬ (if true = true then (1 : Int32) else 0) = 0 by decide)]; rfl, (hst.mpr rfl).symm⟩
          | false =>
            refine ⟨false, by rw [if_pos (show (if false = true then (1 : Int32) else 0) = 0 by decide)]; rfl, ?_⟩
            cases hh : stands q.1 p t with
            | false => rfl
            | true => exact absurd (hst.mp hh) (by decide)
        · rw [if_pos (show iz (q.1.length : Int) < iz (((p - t.2.1 : Nat) : Int) + (t.1.length : Int)) from lt_iz (by omega) (by omega) (by omega) (by omega) (by omega))]
          refine ⟨false, rfl, ?_⟩
          cases hh : stands q.1 p t with
          | false => rfl
          | true => rw [stands_iff, take_iff okq.1.1] at hh; exact absurd hh.2.1 r2
      · rw [if_pos (show iz ((p : Int) - (t.2.1 : Int)) < 0 from lt_iz (b := 0) (by omega) (by omega) (by omega) (by omega) (by omega))]
        refine ⟨false, rfl, ?_⟩
        cases hh : stands q.1 p t with
        | false => rfl
        | true => exact absurd (stands_iff.mp hh).1 r
    obtain ⟨r, k1, k2⟩ := key
    rw [k1, b_s1, ← k2]
    cases r with
    | false =>
      rw [if_pos (show (if false = true then (1 : Int32) else 0) = 0 by decide), nmq_q, iz_s, if_neg (by decide)]; exact ihA
    | true =>
      rw [if_neg (show ¬ (if true = true then (1 : Int32) else 0) = 0 by decide), g_t (inB_n hi8 (by omega)), b4, if_pos rfl]
      by_cases r3 : x < t.2.2
      · rw [if_neg (nle_cnt r3 (by omega)), g_t (inB_n hi8 (by omega)), nmq_q, nmq_q, iz_s, if_pos r3]
        rw [if_pos r3] at ihB; exact ihB
      · rw [if_pos (le_cnt (by omega) (by omega)), nmq_q, iz_s, if_neg r3]
        exact ihA
theorem m_val {M : Mem} {v : PV} (hv : okV v) (h : mPar (rdNow M) v) {w : Nat} {q : Word} (hq : v.1[w]? = some q) {p : Nat} (hp : p ≤ 12) : f_X9_valueOf (iz (w : Int)) (iz (p : Int)) M = some (iz ((valF q.1 p v.2.1 0 : Nat) : Int)) := by
  have := m_valL hv h hq hp v.2.1 FU 0 0 rfl (by rw [FU_eq]; have := hv.2.2.1; omega) (by omega) (by omega)
  unfold f_X9_valueOf
  rw [b1_id]
  exact this
