/-! the best breaks, in words of tables -/
def nfB (F : List Fr) (i : Nat) : Nat → Bool
  | 0 => true
  | j + 1 => nfB F i j && (decide (j ≤ i) || decide (fe F (j - 1) ≠ 2))
theorem nfB_iff {F : List Fr} {i : Nat} : ∀ j, nfB F i j = true ↔ ∀ k, i < k → k < j → fe F (k - 1) ≠ 2
  | 0 => ⟨fun _ k _ h => by omega, fun _ => rfl⟩
  | j + 1 => by
    unfold nfB
    rw [Bool.and_eq_true, nfB_iff j, Bool.or_eq_true, decide_eq_true_iff, decide_eq_true_iff]
    constructor
    · rintro ⟨h1, h2⟩ k hk1 hk2
      by_cases q : k = j
      · rcases h2 with t | t
        · omega
        · rw [q]; exact t
      · exact h1 k hk1 (by omega)
    · intro h
      refine ⟨fun k h1 h2 => h k h1 (by omega), ?_⟩
      by_cases q : j ≤ i
      · exact Or.inl q
      · exact Or.inr (h j (by omega) (by omega))
def okB (F : List Fr) (s : Nat → Int) (i j : Nat) : Bool := fitV F s i j && nfB F i j
theorem okB_iff {F : List Fr} {s : Nat → Int} {i j : Nat} : okB F s i j = true ↔ fitV F s i j = true ∧ nfB F i j = true := by unfold okB; exact Bool.and_eq_true _ _ ▸ Iff.rfl
theorem div_wide {a b : Int} (ha : a < 0) (ha2 : a.natAbs ≤ 2 ^ 24) (hb : 0 < b) (hb2 : b ≤ 8192) (h : b + 1 ≤ -a) : zv (FP.fdiv (FP.i2f (iz a)) (FP.i2f (iz b))) < -(2 ^ 149) := by
  have ed := div_ex ha2 hb (by omega)
  generalize FP.fdiv (FP.i2f (iz a)) (FP.i2f (iz b)) = x at ed ⊢
  have hsg : FP.Core.sgn (fval x) = decide (a < 0) := by rw [ed]; exact FP.Core.sgn_roundRatio _ _ _ _ _
  rw [decide_eq_true ha] at hsg
  have hz : zv x = -(uz x : Int) := by rw [zv_signed, hsg]; rfl
  have hV : FP.Core.fits FP.Core.b32 (.fin false (2 ^ 23 + 1) (-23)) := ⟨by decide, by rw [FP.Core.qmin_b32]; omega, by rw [show FP.Core.b32.qmax = 104 by decide]; omega, Or.inr (by decide)⟩
  have hmag : FP.Core.zmag FP.Core.b32 (.fin false (2 ^ 23 + 1) (-23)) = (2 ^ 23 + 1) * 2 ^ 126 := by
    show (2 ^ 23 + 1) * 2 ^ (-23 - FP.Core.b32.qmin).toNat = _
    rw [FP.Core.qmin_b32]; rfl
  have hlow := rr_ge ed (by omega) hV (e0 := -149) (by omega) (by omega) (by
    rw [hmag]
    show (2 ^ 23 + 1) * 2 ^ 126 * 2 ^ 0 * b.natAbs ≤ a.natAbs * 2 ^ 149
    have h1 : (2 ^ 23 + 1) * b.natAbs ≤ a.natAbs * 2 ^ 23 := by omega
    calc (2 ^ 23 + 1) * 2 ^ 126 * 2 ^ 0 * b.natAbs = (2 ^ 23 + 1) * b.natAbs * 2 ^ 126 := by rw [Nat.pow_zero, Nat.mul_one, Nat.mul_assoc, Nat.mul_comm (2 ^ 126), ← Nat.mul_assoc]
      _ ≤ a.natAbs * 2 ^ 23 * 2 ^ 126 := Nat.mul_le_mul_right _ h1
      _ = a.natAbs * 2 ^ 149 := by rw [Nat.mul_assoc, ← Nat.pow_add])
  rw [hmag] at hlow
  have h3 : (2 : Int) ^ 149 < (((2 ^ 23 + 1) * 2 ^ 126 : Nat) : Int) := by decide +kernel
  omega
theorem gV_mono {F : List Fr} (h : okFs F) {i j j' : Nat} (hjj : j ≤ j') (hj : 1 ≤ j) (hl : j' ≤ F.length) : gV F i j ≤ gV F i j' := by
  have := wS_le h (i := j - 1) (j := j' - 1) (by omega) (by omega)
  unfold gV
  omega
theorem wide_no {F : List Fr} (h : okFs F) {s : Nat → Int} (hs : okS s) {i j j' : Nat} (hij : i < j) (hjj : j < j') (hl : j' ≤ F.length) (hw : s 0 < wS F j - wS F i + gV F i j * (s 1 - shrV s)) : fitV F s i j' = false := by
  have hn := natV_b h hs (i := i) (j := j') (by omega) hl
  have hr := roomV_b h hs (i := i) (j := j') (by omega) hl
  have h0 := hs.1
  have hg := gV_b h (i := i) (j := j) hij (by omega)
  have hg' := gV_b h (i := i) (j := j') (by omega) hl
  have hm := gV_mono h (i := i) (j := j) (j' := j') (by omega) (by omega) hl
  have hW := (wS_le h (i := j) (j := j') (by omega) hl).1
  have hsh := shrV_b hs
  have e1 : gV F i j * (s 1 - shrV s) ≤ gV F i j' * (s 1 - shrV s) := Int.mul_le_mul_of_nonneg_right hm (by omega)
  have e2 : gV F i j' * (s 1 - shrV s) = s 1 * gV F i j' - gV F i j' * shrV s := by rw [Int.mul_sub, Int.mul_comm]
  have hnat : wS F j' - wS F i + s 1 * gV F i j' ≤ natV F s i j' := by unfold natV; split <;> omega
  have hneg : s 0 - natV F s i j' < -(gV F i j' * shrV s) := by omega
  have hmul := mul_b (a := gV F i j') (b := shrV s) (A := 160) (B := 9) hg'.1 hg'.2 hsh.1 hsh.2.2
  have hroom : roomV F s i j' = gV F i j' * shrV s := by unfold roomV; rw [if_pos (by omega)]
  cases hf : fitV F s i j' with
  | false => rfl
  | true =>
    exfalso
    have f1 := (fit_iff.mp hf).1
    rw [c_m1.2] at f1
    have q1 : ¬ (s 0 - natV F s i j' = 0 ∨ (0 < s 0 - natV F s i j' ∧ 2 ≤ fe F (j' - 1))) := by omega
    by_cases q2 : roomV F s i j' = 0
    · have e : ratV F s i j' = (3267756032 : UInt32) := by unfold ratV; rw [if_neg q1, if_pos q2, if_pos (by omega)]
      rw [e] at f1
      have := c_99.2.2
      omega
    · have e : ratV F s i j' = FP.fdiv (FP.i2f (iz (s 0 - natV F s i j'))) (FP.i2f (iz (roomV F s i j'))) := by unfold ratV; rw [if_neg q1, if_neg q2]
      rw [e] at f1
      have := div_wide (a := s 0 - natV F s i j') (b := roomV F s i j') (by omega) (by omega) (by omega) (by omega) (by omega)
      omega
theorem full_no {F : List Fr} (h : okFs F) {s : Nat → Int} (hs : okS s) {i j j' : Nat} (hij : i < j) (hjj : j < j') (hl : j' ≤ F.length) (hf : fullB F s i j = true) : okB F s i j' = false := by
  cases hh : okB F s i j' with
  | false => rfl
  | true =>
    exfalso
    obtain ⟨o1, o2⟩ := okB_iff.mp hh
    rcases fullB_iff.mp hf with t | t
    · exact (nfB_iff j').mp o2 j hij hjj t
    · rw [wide_no h hs hij hjj hl t] at o1; cases o1
/-! tables -/
abbrev Tb : Type := Nat → Option (UInt32 × Nat)
def updB (t : Option (UInt32 × Nat)) (c : Option UInt32) (i : Nat) : Option (UInt32 × Nat) := match c with
  | none => t
  | some x => match t with
    | none => some (x, i)
    | some y => if zv x < zv y.1 then some (x, i) else some y
def updD (t : Option (UInt32 × Nat)) (c : Option UInt32) (i : Nat) : Option (UInt32 × Nat) := match c with
  | none => t
  | some x => match t with
    | none => some (x, i)
    | some y => if zv x ≤ zv y.1 then some (x, i) else some y
def asc (C : Nat → Option UInt32) : Nat → Option (UInt32 × Nat)
  | 0 => none
  | n + 1 => updB (asc C n) (C n) n
def dsc (C : Nat → Option UInt32) : Nat → Option (UInt32 × Nat) → Option (UInt32 × Nat)
  | 0, t => t
  | m + 1, t => dsc C m (updD t (C m) m)
def comb (a t : Option (UInt32 × Nat)) : Option (UInt32 × Nat) := match a with
  | none => t
  | some x => match t with
    | none => some x
    | some y => if zv y.1 < zv x.1 then some y else some x
theorem comb_none (a : Option (UInt32 × Nat)) : comb a none = a := by cases a <;> rfl
theorem comb_step (a t : Option (UInt32 × Nat)) (c : Option UInt32) (m : Nat) : comb a (updD t c m) = comb (updB a c m) t := by
  cases c with
  | none => rfl
  | some x =>
    cases a with
    | none =>
      cases t with
      | none => rfl
      | some y =>
        show (if zv x ≤ zv y.1 then some (x, m) else some y) = (if zv y.1 < zv x then some y else some (x, m))
        by_cases q : zv x ≤ zv y.1
        · rw [if_pos q, if_neg (by omega)]
        · rw [if_neg q, if_pos (by omega)]
    | some z =>
      cases t with
      | none =>
        show (if zv x < zv z.1 then some (x, m) else some z) = comb (if zv x < zv z.1 then some (x, m) else some z) none
        rw [comb_none]
      | some y =>
        show comb (some z) (if zv x ≤ zv y.1 then some (x, m) else some y) = comb (if zv x < zv z.1 then some (x, m) else some z) (some y)
        by_cases q1 : zv x ≤ zv y.1
        · rw [if_pos q1]
          by_cases q2 : zv x < zv z.1
          · rw [if_pos q2]
            show (if zv x < zv z.1 then some (x, m) else some z) = (if zv y.1 < zv x then some y else some (x, m))
            rw [if_pos q2, if_neg (by omega)]
          · rw [if_neg q2]
            show (if zv x < zv z.1 then some (x, m) else some z) = (if zv y.1 < zv z.1 then some y else some z)
            rw [if_neg q2, if_neg (by omega)]
        · rw [if_neg q1]
          by_cases q2 : zv x < zv z.1
          · rw [if_pos q2]
            show (if zv y.1 < zv z.1 then some y else some z) = (if zv y.1 < zv x then some y else some (x, m))
            rw [if_pos (by omega), if_pos (by omega)]
          · rw [if_neg q2]
theorem dsc_comb (C : Nat → Option UInt32) : ∀ m t, dsc C m t = comb (asc C m) t
  | 0, t => rfl
  | m + 1, t => by
    show dsc C m (updD t (C m) m) = comb (updB (asc C m) (C m) m) t
    rw [dsc_comb C m, comb_step]
theorem dsc_asc (C : Nat → Option UInt32) (m : Nat) : dsc C m none = asc C m := by rw [dsc_comb, comb_none]
theorem asc_congr {C C' : Nat → Option UInt32} : ∀ n, (∀ i, i < n → C i = C' i) → asc C n = asc C' n
  | 0, _ => rfl
  | n + 1, h => by
    show updB (asc C n) (C n) n = updB (asc C' n) (C' n) n
    rw [asc_congr n (fun i hi => h i (by omega)), h n (by omega)]
theorem asc_some {C : Nat → Option UInt32} : ∀ n x, asc C n = some x → x.2 < n ∧ C x.2 = some x.1
  | 0, x, h => by cases h
  | n + 1, x, h => by
    have h : updB (asc C n) (C n) n = some x := h
    cases hc : C n with
    | none =>
      rw [hc] at h
      have := asc_some n x h
      exact ⟨by omega, this.2⟩
    | some y =>
      rw [hc] at h
      cases ha : asc C n with
      | none =>
        rw [ha] at h
        have h : some (y, n) = some x := h
        cases h
        exact ⟨by show n < n + 1; omega, hc⟩
      | some z =>
        rw [ha] at h
        have h : (if zv y < zv z.1 then some (y, n) else some z) = some x := h
        by_cases q : zv y < zv z.1
        · rw [if_pos q] at h; cases h; exact ⟨by show n < n + 1; omega, hc⟩
        · rw [if_neg q] at h; cases h
          have := asc_some n _ ha
          exact ⟨by omega, this.2⟩
/-- the candidate from i to j by a table -/
def cnd (F : List Fr) (s : Nat → Int) (H : Tb) (j i : Nat) : Option UInt32 := if okB F s i j = true then (H i).map (fun b => FP.fadd b.1 (demV F s i j)) else none
def tab (F : List Fr) (s : Nat → Int) : Nat → Tb
  | 0 => fun j => if j = 0 then some (FP.fconst0, 0) else none
  | n + 1 => fun j => if j = n + 1 then asc (cnd F s (tab F s n) (n + 1)) (n + 1) else tab F s n j
def bst (F : List Fr) (s : Nat → Int) : Tb := fun j => tab F s j j
theorem tab_le {F : List Fr} {s : Nat → Int} {j : Nat} : ∀ d, tab F s (j + d) j = bst F s j
  | 0 => rfl
  | d + 1 => by
    show (if j = j + d + 1 then _ else tab F s (j + d) j) = _
    rw [if_neg (by omega), tab_le d]
theorem bst_0 {F : List Fr} {s : Nat → Int} : bst F s 0 = some (FP.fconst0, 0) := rfl
theorem bst_s {F : List Fr} {s : Nat → Int} (j : Nat) : bst F s (j + 1) = asc (cnd F s (bst F s) (j + 1)) (j + 1) := by
  show (if j + 1 = j + 1 then asc (cnd F s (tab F s j) (j + 1)) (j + 1) else _) = _
  rw [if_pos rfl]
  refine asc_congr _ (fun i hi => ?_)
  unfold cnd
  have := tab_le (F := F) (s := s) (j := i) (j - i)
  rw [show i + (j - i) = j by omega] at this
  rw [this]
theorem bst_some {F : List Fr} {s : Nat → Int} {j : Nat} (hj : 1 ≤ j) {x : UInt32 × Nat} (h : bst F s j = some x) : x.2 < j ∧ okB F s x.2 j = true ∧ ∃ b, bst F s x.2 = some b ∧ x.1 = FP.fadd b.1 (demV F s x.2 j) := by
  obtain ⟨j, rfl⟩ : ∃ t, j = t + 1 := ⟨j - 1, by omega⟩
  rw [bst_s] at h
  obtain ⟨h1, h2⟩ := asc_some _ _ h
  unfold cnd at h2
  by_cases q : okB F s x.2 (j + 1) = true
  · rw [if_pos q] at h2
    cases hb : bst F s x.2 with
    | none => rw [hb] at h2; cases h2
    | some b =>
      rw [hb] at h2
      have h2 : some (FP.fadd b.1 (demV F s x.2 (j + 1))) = some x.1 := h2
      exact ⟨h1, q, b, rfl, (Option.some.inj h2).symm⟩
  · rw [if_neg q] at h2; cases h2
/-- how great a total can be -/
def Vn (m : Nat) : FP.Core.Datum := .fin false ((256 + m) * 2 ^ 15) 30
theorem Vn_fits {m : Nat} (h : m ≤ 200) : FP.Core.fits FP.Core.b32 (Vn m) := by
  refine ⟨?_, ?_, ?_, Or.inr ?_⟩
  · show (256 + m) * 2 ^ 15 < 2 ^ 24
    omega
  · rw [FP.Core.qmin_b32]; omega
  · rw [show FP.Core.b32.qmax = 104 by decide]; omega
  · rw [FP.Core.tails_b32]; omega
theorem Vn_mag {m : Nat} : FP.Core.zmag FP.Core.b32 (Vn m) = (256 + m) * 2 ^ 194 := by
  show (256 + m) * 2 ^ 15 * 2 ^ (30 - FP.Core.b32.qmin).toNat = _
  rw [FP.Core.qmin_b32, Nat.mul_assoc]
  show (256 + m) * (2 ^ 15 * 2 ^ 179) = _
  rw [← Nat.pow_add]
def tot (x : UInt32) (j : Nat) : Prop := nn x ∧ uz x ≤ (256 + j) * 2 ^ 194 ∧ (1 ≤ j → 2 ^ 149 ≤ uz x)
theorem tot_0 {j : Nat} (hj : j = 0) : tot FP.fconst0 j := ⟨c_0.1, by rw [c_0.2.1]; exact Nat.zero_le _, fun h => by omega⟩
theorem tot_add {F : List Fr} (h : okFs F) {s : Nat → Int} (hs : okS s) {i j : Nat} (hij : i < j) (hj : j ≤ F.length) (hf : fitV F s i j = true) {b : UInt32} (hb : tot b i) : tot (FP.fadd b (demV F s i j)) j := by
  obtain ⟨d1, d2, d3, -⟩ := dem_b h hs hij hj hf
  have hl := h.1
  have := add_le hb.1 d1 (Vn_fits (m := i + 1) (by omega)) (by
    show _ ≤ FP.Core.zmag FP.Core.b32 (Vn (i + 1))
    rw [Vn_mag, show 256 + (i + 1) = 256 + i + 1 by omega, Nat.add_mul (256 + i) 1, Nat.one_mul]
    exact Nat.add_le_add hb.2.1 d2)
  have e2 : uz (FP.fadd b (demV F s i j)) ≤ (256 + (i + 1)) * 2 ^ 194 := by
    rw [← Vn_mag]; exact this.2
  refine ⟨this.1, Nat.le_trans e2 (Nat.mul_le_mul_right _ (by omega)), fun _ => add_g hb.1 d1 (k := 149) (by omega) (by omega) (by omega)⟩
def okT (F : List Fr) (H : Tb) : Prop := ∀ j x, j ≤ F.length → H j = some x → tot x.1 j
theorem bst_ok {F : List Fr} (h : okFs F) {s : Nat → Int} (hs : okS s) : ∀ n, ∀ j, j ≤ n → j ≤ F.length → ∀ x, bst F s j = some x → tot x.1 j
  | 0, j, h1, h2, x, hx => by
    have : j = 0 := by omega
    subst this
    rw [bst_0] at hx; cases hx; exact tot_0 rfl
  | n + 1, j, h1, h2, x, hx => by
    by_cases q : j = n + 1
    · obtain ⟨a1, a2, b, a3, a4⟩ := bst_some (by omega) hx
      rw [a4]
      exact tot_add h hs a1 h2 (okB_iff.mp a2).1 (bst_ok h hs n x.2 (by omega) (by omega) b a3)
    · exact bst_ok h hs n j (by omega) h2 x hx
/-- the breaks that lines begin with, back from j -/
def chn (H : Tb) : Nat → Nat → List Nat
  | 0, _ => []
  | f + 1, j => if j = 0 then [] else match H j with
    | none => []
    | some x => chn H f x.2 ++ [x.2]
theorem chn_0 (H : Tb) (f : Nat) : chn H f 0 = [] := by cases f <;> rfl
theorem chn_s {H : Tb} {f j : Nat} (hj : j ≠ 0) {x : UInt32 × Nat} (h : H j = some x) : chn H (f + 1) j = chn H f x.2 ++ [x.2] := by
  show (if j = 0 then [] else match H j with | none => [] | some x => chn H f x.2 ++ [x.2]) = _
  rw [if_neg hj, h]
theorem app_lastN {l : List Nat} {a : Nat} : (l ++ [a])[l.length]? = some a := by simp
theorem chn_ok {F : List Fr} {s : Nat → Int} : ∀ f j, j ≤ f → (bst F s j).isSome → ∀ k a, (chn (bst F s) f j)[k]? = some a → a < ((chn (bst F s) f j)[k + 1]?).getD j ∧ ((chn (bst F s) f j)[k + 1]?).getD j ≤ j ∧ okB F s a (((chn (bst F s) f j)[k + 1]?).getD j) = true
  | 0, j, _, _, k, a, h => by simp [chn] at h
  | f + 1, j, hj, hs, k, a, h => by
    by_cases q : j = 0
    · rw [q, chn_0] at h; simp at h
    · obtain ⟨x, hx⟩ := Option.isSome_iff_exists.mp hs
      obtain ⟨a1, a2, b, a3, a4⟩ := bst_some (by omega) hx
      rw [chn_s q hx] at h ⊢
      have ih := chn_ok f x.2 (by omega) (by rw [a3]; rfl)
      rcases snoc_at h with ⟨r1, r2⟩ | ⟨r1, r2⟩
      · have ih' := ih k a r2
        by_cases q2 : k + 1 < (chn (bst F s) f x.2).length
        · rw [List.getElem?_append_left q2]
          rw [List.getElem?_eq_getElem q2] at ih' ⊢
          exact ⟨ih'.1, by have := ih'.2.1; show _ ≤ j; have : (chn (bst F s) f x.2)[k + 1] ≤ x.2 := this; show (chn (bst F s) f x.2)[k + 1] ≤ j; omega, ih'.2.2⟩
        · have e : k + 1 = (chn (bst F s) f x.2).length := by omega
          rw [List.getElem?_eq_none (by omega)] at ih'
          rw [e, app_lastN]
          exact ⟨ih'.1, by show x.2 ≤ j; omega, ih'.2.2⟩
      · rw [r1, r2, List.getElem?_eq_none (by simp)]
        exact ⟨a1, Nat.le_refl _, a2⟩
