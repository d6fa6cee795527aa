/-! lost -/
def bitB (g k : Nat) : Bool := decide (g / 2 ^ k % 2 = 1)
def cb (g : Nat) : Nat → Nat
  | 0 => 0
  | k + 1 => (if bitB g k = true then 1 else 0) + cb g k
def wt (t : Nat) (g : Nat) : Nat → Nat
  | 0 => 1
  | k + 1 => (if bitB g k = true then 1 else t) * wt t g k
theorem cb_le {g : Nat} : ∀ k, cb g k ≤ k
  | 0 => Nat.le_refl _
  | k + 1 => by
    have := cb_le (g := g) k
    show (if bitB g k = true then 1 else 0) + cb g k ≤ k + 1
    by_cases q : bitB g k = true
    · rw [if_pos q]; omega
    · rw [if_neg q]; omega
theorem wt_pow {t g : Nat} : ∀ k, wt t g k = t ^ (k - cb g k)
  | 0 => rfl
  | k + 1 => by
    have h := cb_le (g := g) k
    show (if bitB g k = true then 1 else t) * wt t g k = t ^ (k + 1 - ((if bitB g k = true then 1 else 0) + cb g k))
    rw [wt_pow k]
    by_cases q : bitB g k = true
    · rw [if_pos q, if_pos q, Nat.one_mul, show k + 1 - (1 + cb g k) = k - cb g k by omega]
    · rw [if_neg q, if_neg q, show k + 1 - (0 + cb g k) = (k - cb g k) + 1 by omega, Nat.pow_succ, Nat.mul_comm]
theorem wt_1 {t g : Nat} (ht : 1 ≤ t) (k : Nat) : 1 ≤ wt t g k := by rw [wt_pow]; exact Nat.one_le_pow _ _ ht
theorem pow_b {t k : Nat} (ht : t ≤ 20) (hk : k ≤ 6) : t ^ k ≤ 64000000 := Nat.le_trans (Nat.pow_le_pow_left ht k) (Nat.le_trans (Nat.pow_le_pow_right (by omega) hk) (by decide))
theorem wt_b {t g k : Nat} (ht : t ≤ 20) (hk : k ≤ 6) : wt t g k ≤ 64000000 := by rw [wt_pow]; exact pow_b ht (by omega)
theorem bc_ok : ∀ ch : Fin 7, ∀ g : Fin 64, g.val < 2 ^ ch.val → f_J6_bitCount_0f7a4 (iz (g.val : Int)) = some (iz (cb g.val ch.val : Int)) := by decide +kernel
theorem sr_ok : ∀ g : Fin 64, ∀ k : Fin 6, (if ((ishr_ (iz (g.val : Int)) (iz (k.val : Int))) &&& (1 : Int32)) = (1 : Int32) then ((1 : Int32)) else ((0 : Int32))) = (if bitB g.val k.val = true then (1 : Int32) else 0) := by decide +kernel
theorem c_powL {b e : Nat} (hb : b ≤ 20) (he : e ≤ 6) : ∀ d f i, i + d = e → d < f → lq2 (f_X8_power_L5 (ln b) (iz (e : Int))) f (ln (b ^ i)) (iz (i : Int)) = some (ln (b ^ e)) := by
  intro d
  induction d with
  | zero =>
    intro f i e1 e2
    obtain ⟨f, rfl⟩ : ∃ g, f = g + 1 := ⟨f - 1, by omega⟩
    rw [lq2_s]
    generalize lq2 (f_X8_power_L5 (ln b) (iz (e : Int))) f = K
    unfold f_X8_power_L5
    rw [if_pos (le_cnt (by omega) (by omega)), show i = e by omega]
  | succ d ih =>
    intro f i e1 e2
    obtain ⟨f, rfl⟩ : ∃ g, f = g + 1 := ⟨f - 1, by omega⟩
    have ih := ih f (i + 1) (by omega) (by omega)
    have h1 := pow_b (k := i) hb (by omega)
    have h2 := pow_b (k := i + 1) hb (by omega)
    rw [lq2_s]
    generalize lq2 (f_X8_power_L5 (ln b) (iz (e : Int))) f = K at ih ⊢
    unfold f_X8_power_L5
    rw [if_neg (nle_cnt (by omega) (by omega)), nmq_q, nmq_q, iz_s, ln_mul (by omega) (by omega) (Nat.lt_of_le_of_lt (show b ^ i * b ≤ 64000000 by rw [← Nat.pow_succ]; exact h2) (by decide)), ← Nat.pow_succ, ih]
theorem c_pow {b e : Nat} (hb : b ≤ 20) (he : e ≤ 6) : f_X8_power (ln b) (iz (e : Int)) = some (ln (b ^ e)) := by
  have h := c_powL hb he e FU 0 (by omega) (by rw [FU_eq]; omega)
  have h : lq2 (f_X8_power_L5 (ln b) (iz (e : Int))) FU (1 : Int64) (0 : Int32) = _ := h
  unfold f_X8_power
  rw [h, b_s1]
theorem m_powL {b e : Nat} (hb : b ≤ 20) (he : e ≤ 6) : ∀ d f i, i + d = e → d < f → lq2 (f_X9_lost_L89 (iz (b : Int)) (iz (e : Int))) f (ln (b ^ i)) (iz (i : Int)) = some (ln (b ^ e)) := by
  intro d
  induction d with
  | zero =>
    intro f i e1 e2
    obtain ⟨f, rfl⟩ : ∃ g, f = g + 1 := ⟨f - 1, by omega⟩
    rw [lq2_s]
    generalize lq2 (f_X9_lost_L89 (iz (b : Int)) (iz (e : Int))) f = K
    unfold f_X9_lost_L89
    rw [if_pos (le_cnt (by omega) (by omega)), show i = e by omega]
  | succ d ih =>
    intro f i e1 e2
    obtain ⟨f, rfl⟩ : ∃ g, f = g + 1 := ⟨f - 1, by omega⟩
    have ih := ih f (i + 1) (by omega) (by omega)
    have h1 := pow_b (k := i) hb (by omega)
    have h2 := pow_b (k := i + 1) hb (by omega)
    rw [lq2_s]
    generalize lq2 (f_X9_lost_L89 (iz (b : Int)) (iz (e : Int))) f = K at ih ⊢
    unfold f_X9_lost_L89
    rw [if_neg (nle_cnt (by omega) (by omega)), nmq_q, nmq_q, iz_s, iz_ln (by omega) (by omega), Int.toNat_natCast, ln_mul (by omega) (by omega) (Nat.lt_of_le_of_lt (show b ^ i * b ≤ 64000000 by rw [← Nat.pow_succ]; exact h2) (by decide)), ← Nat.pow_succ, ih]
theorem m_pow {b e : Nat} (hb : b ≤ 20) (he : e ≤ 6) : lq2 (f_X9_lost_L89 (iz (b : Int)) (iz (e : Int))) FU (1 : Int64) (0 : Int32) = some (ln (b ^ e)) := m_powL hb he e FU 0 (by omega) (by rw [FU_eq]; omega)
/-- the weight of the words of g gone -/
def lsV (v : PV) (n : Int) (t ch g : Nat) : Nat := if 0 ≤ cntV (frs v 0 (leftW g 0 v.1)) v.2.2.2 ∧ cntV (frs v 0 (leftW g 0 v.1)) v.2.2.2 ≤ n then wt (t - 1) g ch else 0
def sumN (g : Nat → Nat) : Nat → Nat → Nat
  | 0, _ => 0
  | d + 1, k => g k + sumN g d (k + 1)
theorem lsV_b {v : PV} {n : Int} {t ch g : Nat} (ht : t ≤ 20) (hc : ch ≤ 6) : lsV v n t ch g ≤ 64000000 := by
  unfold lsV
  have := wt_b (t := t - 1) (g := g) (k := ch) (by omega) hc
  by_cases q : 0 ≤ cntV (frs v 0 (leftW g 0 v.1)) v.2.2.2 ∧ cntV (frs v 0 (leftW g 0 v.1)) v.2.2.2 ≤ n
  · rw [if_pos q]; exact this
  · rw [if_neg q]; omega
theorem c_lostL {v : PV} (hv : okV v) {n : Int} (hn : 0 ≤ n ∧ n ≤ 20) {t ch : Nat} (ht : 2 ≤ t ∧ t ≤ 20) (hc6 : ch ≤ 6) : ∀ (d f g x : Nat) (M : Mem), g + d = 2 ^ ch → d < f → x + 64000000 * d < 2 ^ 40 → cPar M 1 v →
    ∃ M', lq3 (f_X8_lost_L73 (iz n) (iz (t : Int)) (iz (ch : Int))) f (ln x) (iz (g : Int)) M = some (ln (x + sumN (lsV v n t ch) d g), M') ∧ sameOn (fun a => a < 126 ∨ a = 134 ∨ a = 135 ∨ 137 ≤ a) M M' := by
  have hp64 : 2 ^ ch ≤ 64 := Nat.le_trans (Nat.pow_le_pow_right (by omega) hc6) (by decide)
  have esh : ishl_ (1 : Int32) (iz (ch : Int)) = iz ((2 ^ ch : Nat) : Int) := shl1 ⟨ch, by omega⟩
  intro d
  induction d with
  | zero =>
    intro f g x M e1 e2 hx hc
    obtain ⟨f, rfl⟩ : ∃ g, f = g + 1 := ⟨f - 1, by omega⟩
    refine ⟨M, ?_, sameOn.rf⟩
    rw [lq3_s]
    generalize lq3 (f_X8_lost_L73 (iz n) (iz (t : Int)) (iz (ch : Int))) f = K
    unfold f_X8_lost_L73
    rw [esh, if_pos (le_cnt (by omega) (by omega))]; rfl
  | succ d ih =>
    intro f g x M e1 e2 hx hc
    obtain ⟨f, rfl⟩ : ∃ g, f = g + 1 := ⟨f - 1, by omega⟩
    obtain ⟨M1, r1, r2, r3, -, r5⟩ := c_set (p := 1) (Or.inl rfl) hv hc (g := g) (by omega)
    have hk : okFs (frs v 0 (leftW g 0 v.1)) := frs_okFs hv (fun q hq => leftW_mem _ _ q hq) (leftW_len _ _)
    have hb := cntV_b hk (s := v.2.2.2)
    have hls := lsV_b (v := v) (n := n) (t := t) (ch := ch) (g := g) ht.2 hc6
    obtain ⟨M', q1, q2⟩ := ih f (g + 1) (x + lsV v n t ch g) M1 (by omega) (by omega) (by omega) (hc.same (r5.mono (fun a ha => by omega)))
    refine ⟨M', ?_, r5.tr q2⟩
    have eS : x + sumN (lsV v n t ch) (d + 1) g = x + lsV v n t ch g + sumN (lsV v n t ch) d (g + 1) := by show x + (lsV v n t ch g + _) = _; omega
    rw [eS]
    rw [lq3_s]
    generalize lq3 (f_X8_lost_L73 (iz n) (iz (t : Int)) (iz (ch : Int))) f = K at q1 ⊢
    unfold f_X8_lost_L73
    rw [esh, if_neg (nle_cnt (by omega) (by omega)), r1, b_s2]
    simp only [nmq_q, iz_s]
    unfold lsV at q1 ⊢
    by_cases c9 : cntV (frs v 0 (leftW g 0 v.1)) v.2.2.2 = -9
    · rw [if_neg (show ¬ (0 ≤ cntV (frs v 0 (leftW g 0 v.1)) v.2.2.2 ∧ cntV (frs v 0 (leftW g 0 v.1)) v.2.2.2 ≤ n) by omega)] at q1 ⊢
      rw [if_pos (show iz (cntV (frs v 0 (leftW g 0 v.1)) v.2.2.2) = (-9 : Int32) by rw [c9]; decide)]; exact q1
    rw [if_neg (show ¬ iz (cntV (frs v 0 (leftW g 0 v.1)) v.2.2.2) = (-9 : Int32) from neq_iz (b := -9) (by omega) (by omega) (by omega) (by omega) c9)]
    by_cases cn : n < cntV (frs v 0 (leftW g 0 v.1)) v.2.2.2
    · rw [if_neg (show ¬ (0 ≤ cntV (frs v 0 (leftW g 0 v.1)) v.2.2.2 ∧ cntV (frs v 0 (leftW g 0 v.1)) v.2.2.2 ≤ n) by omega)] at q1 ⊢
      rw [if_pos (lt_iz (by omega) (by omega) (by omega) (by omega) cn)]; exact q1
    · have hcb := cb_le (g := g) ch
      have hw := wt_b (t := t - 1) (g := g) (k := ch) (by omega) hc6
      rw [if_pos (show 0 ≤ cntV (frs v 0 (leftW g 0 v.1)) v.2.2.2 ∧ cntV (frs v 0 (leftW g 0 v.1)) v.2.2.2 ≤ n by omega)] at q1 ⊢
      have e1' : (iz (t : Int) - (1 : Int32)).toInt64 = ln (t - 1) := by
        rw [show (1 : Int32) = iz (1 : Int) from rfl, iz_sub, iz_ln (by omega) (by omega)]; congr 1; omega
      have e2' : iz (ch : Int) - iz (cb g ch : Int) = iz ((ch - cb g ch : Nat) : Int) := by rw [iz_sub]; congr 1; omega
      rw [if_neg (fun e => cn ((iz_lt (by omega) (by omega) (by omega) (by omega)).mp e)), bc_ok ⟨ch, by omega⟩ ⟨g, by omega⟩ (by show g < 2 ^ ch; omega), b_s1, e1', e2', c_pow (by omega) (by omega), b_s1, ← wt_pow, ln_add (by omega)]; exact q1
theorem m_lostDrop {v : PV} {t g : Nat} (ht : 2 ≤ t ∧ t ≤ 20) (hg : g < 64) : ∀ (k f x : Nat) (M : Mem) (ws : List Word), k ≤ 6 → k < f → k ≤ ws.length → x * wt (t - 1) g k < 2 ^ 40 → okV (ws, v.2) → mPar (rdNow M) (ws, v.2) →
    ∃ M', lq3 (f_X9_lost_L134 (iz (t : Int)) (iz (g : Int))) f (ln x) (iz ((k : Int) - 1)) M = some (ln (x * wt (t - 1) g k), M') ∧ kD M M' ∧ mPar (rdNow M') (leftP (fun j => decide (j < k) && bitB g j) 0 ws, v.2) := by
  have e1' : (iz (t : Int) - (1 : Int32)).toInt64 = ln (t - 1) := by
    rw [show (1 : Int32) = iz (1 : Int) from rfl, iz_sub, iz_ln (by omega) (by omega)]; congr 1; omega
  intro k
  induction k with
  | zero =>
    intro f x M ws h1 h2 h3 h4 hv hm
    obtain ⟨f, rfl⟩ : ∃ g, f = g + 1 := ⟨f - 1, by omega⟩
    refine ⟨M, ?_, kD.rf, ?_⟩
    · rw [lq3_s]
      generalize lq3 (f_X9_lost_L134 (iz (t : Int)) (iz (g : Int))) f = K
      unfold f_X9_lost_L134
      rw [if_pos (show iz (((0 : Nat) : Int) - 1) < 0 by decide)]
      show _ = some (ln (x * 1), M)
      rw [Nat.mul_one]
    · rw [leftP_none ws 0 (fun k _ => by rw [decide_eq_false (by omega)]; rfl)]; exact hm
  | succ k ih =>
    intro f x M ws h1 h2 h3 h4 hv hm
    obtain ⟨f, rfl⟩ : ∃ g, f = g + 1 := ⟨f - 1, by omega⟩
    have eP : (fun j => decide (j < k + 1) && bitB g j) = (fun j => (decide (j < k) && bitB g j) || (decide (j = k) && bitB g k)) := by
      funext j
      by_cases q : j = k
      · subst q; simp
      · rw [decide_eq_false q, Bool.false_and, Bool.or_false]
        congr 1
        exact decide_eq_decide.mpr (by omega)
    have ek : ((k + 1 : Nat) : Int) - 1 = (k : Int) := by omega
    have hw1 := wt_1 (t := t - 1) (g := g) (by omega) k
    have hsr := sr_ok ⟨g, hg⟩ ⟨k, by omega⟩
    have hsr : (if ((ishr_ (iz (g : Int)) (iz (k : Int))) &&& (1 : Int32)) = (1 : Int32) then ((1 : Int32)) else ((0 : Int32))) = (if bitB g k = true then (1 : Int32) else 0) := hsr
    have h4 : x * ((if bitB g k = true then 1 else t - 1) * wt (t - 1) g k) < 2 ^ 40 := h4
    have e3 : iz (k : Int) + (-1 : Int32) = iz ((k : Int) - 1) := by rw [← iz_minus1, iz_add]; congr 1
    rw [ek, eP]
    show ∃ M', _ = some (ln (x * ((if bitB g k = true then 1 else t - 1) * wt (t - 1) g k)), M') ∧ _
    by_cases q : bitB g k = true
    · rw [if_pos q, Nat.one_mul] at h4 ⊢
      rw [if_pos q] at hsr
      obtain ⟨M1, d0, -, d3, d1, d2⟩ := m_wdrop (v := (ws, v.2)) hv hm (a := k) (by show k < ws.length; omega)
      have hv' : okV (ws.eraseIdx k, v.2) := hv.words (v := (ws, v.2)) (fun q hq => List.mem_of_mem_eraseIdx hq) (by rw [List.length_eraseIdx_of_lt (by omega)]; show ws.length - 1 ≤ ws.length; omega)
      obtain ⟨M', r1, r2, r3⟩ := ih f x M1 (ws.eraseIdx k) (by omega) (by omega) (by rw [List.length_eraseIdx_of_lt (by omega)]; omega) h4 hv' d3
      have hxb : x < 2 ^ 40 := Nat.lt_of_le_of_lt (Nat.le_mul_of_pos_right x hw1) h4
      refine ⟨M', ?_, kD.tr ⟨d2, d1⟩ r2, ?_⟩
      · rw [lq3_s]
        generalize lq3 (f_X9_lost_L134 (iz (t : Int)) (iz (g : Int))) f = K at r1 ⊢
        unfold f_X9_lost_L134
        rw [if_neg (not_neg k (by omega)), nmq_q, hsr, nmq_q, if_neg (show ¬ (1 : Int32) = 0 by decide), nmq_q, if_neg (show ¬ (1 : Int32) = 0 by decide), d0, b_s1, nmq_q, e3, ln_1, ln_mul (by omega) (by decide) (by omega), Nat.mul_one, r1]
      · have he := leftP_erase (P := fun j => decide (j < k) && bitB g j) (n := k) (fun j hj => by rw [decide_eq_false (by omega)]; rfl) ws 0 (Nat.zero_le _)
        rw [Nat.sub_zero] at he
        rw [he] at r3
        have e5 : (fun j => (decide (j < k) && bitB g j) || (decide (j = k) && bitB g k)) = (fun j => (decide (j < k) && bitB g j) || decide (j = k)) := by funext j; rw [q, Bool.and_true]
        rw [e5]; exact r3
    · rw [if_neg q] at h4 ⊢
      rw [if_neg q] at hsr
      have h4' : x * (t - 1) * wt (t - 1) g k < 2 ^ 40 := by rw [Nat.mul_assoc]; exact h4
      obtain ⟨M', r1, r2, r3⟩ := ih f (x * (t - 1)) M ws (by omega) (by omega) (by omega) h4' hv hm
      have hxb : x * (t - 1) < 2 ^ 40 := Nat.lt_of_le_of_lt (Nat.le_mul_of_pos_right _ hw1) h4'
      have hxc : x < 2 ^ 40 := Nat.lt_of_le_of_lt (Nat.le_mul_of_pos_right x (by omega)) hxb
      refine ⟨M', ?_, r2, ?_⟩
      · rw [lq3_s]
        generalize lq3 (f_X9_lost_L134 (iz (t : Int)) (iz (g : Int))) f = K at r1 ⊢
        unfold f_X9_lost_L134
        rw [if_neg (not_neg k (by omega)), nmq_q, hsr, nmq_q, if_pos rfl, nmq_q, if_pos rfl, nmq_q, e3, e1', ln_mul (by omega) (by omega) (by omega), r1, Nat.mul_assoc]
      · have e5 : (fun j => (decide (j < k) && bitB g j) || (decide (j = k) && bitB g k)) = (fun j => decide (j < k) && bitB g j) := by funext j; rw [(Bool.not_eq_true _).mp q, Bool.and_false, Bool.or_false]
        rw [e5]; exact r3
theorem leftW_cut {g ch : Nat} (hg : g < 2 ^ ch) (l : List Word) : leftP (fun j => decide (j < ch) && bitB g j) 0 l = leftW g 0 l := by
  rw [leftW_P]
  refine leftP_congr l 0 (fun k _ _ => ?_)
  show (decide (k < ch) && bitB g k) = bitB g k
  by_cases q : k < ch
  · rw [decide_eq_true q, Bool.true_and]
  · have : g / 2 ^ k = 0 := Nat.div_eq_of_lt (Nat.lt_of_lt_of_le hg (Nat.pow_le_pow_right (by omega) (by omega)))
    rw [decide_eq_false q, Bool.false_and]
    unfold bitB
    rw [this]; rfl
theorem m_lostL {v : PV} (hv : okV v) {n : Int} (hn : 0 ≤ n ∧ n ≤ 20) {t ch : Nat} (ht : 2 ≤ t ∧ t ≤ 20) (hc6 : ch ≤ 6) (hcl : ch ≤ v.1.length) : ∀ (d f g x : Nat) (M : Mem), g + d = 2 ^ ch → d < f → x + 64000000 * d < 2 ^ 40 → mPar (rdNow M) v →
    ∃ M', lq3 (f_X9_lost_L112 (iz n) (iz (t : Int)) (iz (ch : Int))) f (ln x) (iz (g : Int)) M = some (ln (x + sumN (lsV v n t ch) d g), M') ∧ keepR M M' := by
  have hp64 : 2 ^ ch ≤ 64 := Nat.le_trans (Nat.pow_le_pow_right (by omega) hc6) (by decide)
  have esh : ishl_ (1 : Int32) (iz (ch : Int)) = iz ((2 ^ ch : Nat) : Int) := shl1 ⟨ch, by omega⟩
  intro d
  induction d with
  | zero =>
    intro f g x M e1 e2 hx hm
    obtain ⟨f, rfl⟩ : ∃ g, f = g + 1 := ⟨f - 1, by omega⟩
    refine ⟨M, ?_, keepR.rf⟩
    rw [lq3_s]
    generalize lq3 (f_X9_lost_L112 (iz n) (iz (t : Int)) (iz (ch : Int))) f = K
    unfold f_X9_lost_L112
    rw [esh, if_pos (le_cnt (by omega) (by omega))]; rfl
  | succ d ih =>
    intro f g x M e1 e2 hx hm
    obtain ⟨f, rfl⟩ : ∃ g, f = g + 1 := ⟨f - 1, by omega⟩
    obtain ⟨M1, w1, w2, a⟩ := m_minds (M := M)
    have hw := wt_b (t := t - 1) (g := g) (k := ch) (by omega) hc6
    obtain ⟨M3, d1, d2, d3⟩ := m_lostDrop (v := v) (g := g) ht (by omega) ch FU 1 M1 v.1 hc6 (by rw [FU_eq]; omega) hcl (by omega) hv (hm.congr hv w2)
    rw [leftW_cut (by omega), Nat.one_mul] at *
    have hv' : okV (leftW g 0 v.1, v.2) := hv.words (fun q hq => leftW_mem _ _ q hq) (leftW_len _ _)
    obtain ⟨M6, M8, f1, f2, f3, -, -⟩ := m_dropped hv a d2 hv' d3
    have hk : okFs (frs v 0 (leftW g 0 v.1)) := frs_okFs hv (fun q hq => leftW_mem _ _ q hq) (leftW_len _ _)
    have hb := cntV_b hk (s := v.2.2.2)
    have hls := lsV_b (v := v) (n := n) (t := t) (ch := ch) (g := g) ht.2 hc6
    obtain ⟨M', q1, q2⟩ := ih f (g + 1) (x + lsV v n t ch g) M8 (by omega) (by omega) (by omega) (f3.par hv hm)
    refine ⟨M', ?_, f3.tr q2⟩
    have eS : x + sumN (lsV v n t ch) (d + 1) g = x + lsV v n t ch g + sumN (lsV v n t ch) d (g + 1) := by show x + (lsV v n t ch g + _) = _; omega
    have ei : f_X9_isIn (iz (cntV (frs v 0 (leftW g 0 v.1)) v.2.2.2)) (0 : Int32) (iz n) = _ := m_isIn (z := cntV (frs v 0 (leftW g 0 v.1)) v.2.2.2) (lo := 0) (hi := n) (by omega) (by omega) (by omega) (by omega) (by omega) (by omega)
    have e3 : iz (ch : Int) - (1 : Int32) = iz ((ch : Int) - 1) := by rw [show (1 : Int32) = iz (1 : Int) from rfl, iz_sub]
    have d1' : lq3 (f_X9_lost_L134 (iz (t : Int)) (iz (g : Int))) FU (1 : Int64) (iz ((ch : Int) - 1)) M1 = _ := d1
    rw [eS, lq3_s]
    generalize lq3 (f_X9_lost_L112 (iz n) (iz (t : Int)) (iz (ch : Int))) f = K at q1 ⊢
    unfold f_X9_lost_L112
    rw [esh, if_neg (nle_cnt (by omega) (by omega)), w1, b_s1, nmq_q, e3, d1', b_s2, f1, b_s2, ei, b_s1, nmq_q, nmq_q, f2, b_s1, nmq_q, iz_s]
    unfold lsV at q1 ⊢
    by_cases q : 0 ≤ cntV (frs v 0 (leftW g 0 v.1)) v.2.2.2 ∧ cntV (frs v 0 (leftW g 0 v.1)) v.2.2.2 ≤ n
    · rw [if_pos q] at q1
      rw [if_pos q, if_pos q, if_neg (show ¬ (1 : Int32) = 0 by decide), ln_add (by omega)]; exact q1
    · rw [if_neg q] at q1
      rw [if_neg q, if_neg q, if_pos (show (0 : Int32) = 0 from rfl), ln_0, ln_add (by omega)]; exact q1
theorem sumN_b {g : Nat → Nat} {B : Nat} (h : ∀ i, g i ≤ B) : ∀ d k, sumN g d k ≤ B * d
  | 0, _ => Nat.le_refl _
  | d + 1, k => by
    have h1 := h k
    have h2 := sumN_b h d (k + 1)
    have h3 : B * (d + 1) = B * d + B := Nat.mul_succ B d
    show g k + sumN g d (k + 1) ≤ _
    omega
theorem op_lost {M : Mem} (hI : Inv M) (p p' p'' : Int32) : bothL M (f_X8_lost p p' p'') (f_X9_lost p p' p'') := by
  have hI' := hI
  obtain ⟨now, img, st, ct, hist, ls, rw_, R, hg, hC, hM⟩ := hI
  obtain ⟨n, n1, n2, rfl⟩ := iz_ex p
  obtain ⟨t, t1, t2, rfl⟩ := iz_ex p'
  obtain ⟨y, y1, y2, hy⟩ := iz_ex p''
  have hv := hg.1.1
  have h16 := hv.1
  have eo : f_X8_isOther p'' (2 : Int32) = _ := hy ▸ c_isOther (z := y) (n := 2) y1 y2 (by omega) (by omega)
  have ei : f_X9_isIn p'' (0 : Int32) (1 : Int32) = _ := hy ▸ m_isIn (z := y) (lo := 0) (hi := 1) y1 y2 (by omega) (by omega) (by omega) (by omega)
  have kn : ∀ (w : Nat) M', f_X9_lowestOf (iz (-(w : Int))) M' = f_X9_lowestOf (iz (-(w : Int))) M' := fun _ _ => rfl
  have j1 : (iz n < (0 : Int32)) ↔ n < 0 := by have := iz_lt (a := n) (b := 0) n1 n2 (by omega) (by omega); exact this
  have j2 : ((2 : Int32) ≤ iz t) ↔ 2 ≤ t := iz_le (a := 2) (b := t) (by omega) (by omega) t1 t2
  have j3 : ((20 : Int32) < iz n) ↔ 20 < n := iz_lt (a := 20) (b := n) (by omega) (by omega) n1 n2
  have j4 : (iz t ≤ (20 : Int32)) ↔ t ≤ 20 := iz_le (a := t) (b := 20) t1 t2 (by omega) (by omega)
  by_cases q1 : n < 0
  · refine bothL_no hI' (v := 4) (by omega) ?_ (fun M' => ?_)
    · unfold f_X8_lost
      rw [jq_q, if_pos (j1.mpr q1)]
      show bq2 _ _ = _
      rw [b2_id]; rfl
    · unfold f_X9_lost
      rw [if_pos (j1.mpr q1), b_s1, if_neg (by decide), b2_id]; rfl
  by_cases q2 : 2 ≤ t
  case neg =>
    refine bothL_no hI' (v := 4) (by omega) ?_ (fun M' => ?_)
    · unfold f_X8_lost
      rw [jq_q, if_neg (fun e => q1 (j1.mp e)), if_neg (fun e => q2 (j2.mp e))]
      show bq2 _ _ = _
      rw [b2_id]; rfl
    · unfold f_X9_lost
      rw [if_neg (fun e => q1 (j1.mp e)), if_neg (fun e => q2 (j2.mp e)), b_s1, if_neg (by decide), b2_id]; rfl
  by_cases q3 : 20 < n
  · refine bothL_no hI' (v := 6) (by omega) ?_ (fun M' => ?_)
    · unfold f_X8_lost
      rw [jq_q, if_neg (fun e => q1 (j1.mp e)), if_pos (j2.mpr q2), jq_q, if_pos (j3.mpr q3)]
      show bq2 _ _ = _
      rw [b2_id]; rfl
    · unfold f_X9_lost
      rw [if_neg (fun e => q1 (j1.mp e)), if_pos (j2.mpr q2), if_pos (j3.mpr q3), b_s1, if_neg (by decide), b2_id]; rfl
  by_cases q4 : t ≤ 20
  case neg =>
    refine bothL_no hI' (v := 6) (by omega) ?_ (fun M' => ?_)
    · unfold f_X8_lost
      rw [jq_q, if_neg (fun e => q1 (j1.mp e)), if_pos (j2.mpr q2), jq_q, if_neg (fun e => q3 (j3.mp e)), if_neg (fun e => q4 (j4.mp e))]
      show bq2 _ _ = _
      rw [b2_id]; rfl
    · unfold f_X9_lost
      rw [if_neg (fun e => q1 (j1.mp e)), if_pos (j2.mpr q2), if_neg (fun e => q3 (j3.mp e)), if_neg (fun e => q4 (j4.mp e)), b_s1, if_neg (by decide), b2_id]; rfl
  by_cases q5 : 0 ≤ y ∧ y < 2
  case neg =>
    rw [if_neg q5] at eo
    rw [if_neg (show ¬ (0 ≤ y ∧ y ≤ 1) by omega)] at ei
    refine bothL_no hI' (v := 2) (by omega) ?_ (fun M' => ?_)
    · unfold f_X8_lost
      rw [jq_q, if_neg (fun e => q1 (j1.mp e)), if_pos (j2.mpr q2), jq_q, if_neg (fun e => q3 (j3.mp e)), if_pos (j4.mpr q4), eo, b_s1, if_neg (by decide), b2_id]; rfl
    · unfold f_X9_lost
      rw [if_neg (fun e => q1 (j1.mp e)), if_pos (j2.mpr q2), if_neg (fun e => q3 (j3.mp e)), if_pos (j4.mpr q4), ei, b_s1, if_pos rfl, b_s1, if_neg (by decide), b2_id]; rfl
  rw [if_pos q5] at eo
  rw [if_pos (show 0 ≤ y ∧ y ≤ 1 by omega)] at ei
  obtain ⟨t, rfl⟩ : ∃ w : Nat, t = (w : Int) := ⟨t.toNat, by omega⟩
  obtain ⟨ch, hch⟩ : ∃ c : Nat, c = min 6 now.1.length := ⟨_, rfl⟩
  have hc6 : ch ≤ 6 := by omega
  have hp64 : 2 ^ ch ≤ 64 := Nat.le_trans (Nat.pow_le_pow_right (by omega) hc6) (by decide)
  have hpw := pow_b (t := t) (k := ch) (by omega) hc6
  have hp0 : 0 < t ^ ch := Nat.pow_pos (by omega)
  have hsb := sumN_b (g := lsV now n t ch) (fun i => lsV_b (v := now) (n := n) (t := t) (ch := ch) (g := i) (by omega) hc6) (2 ^ ch) 0
  refine bothL_askR hI' (r := ln (frV p'' (sumN (lsV now n t ch) (2 ^ ch) 0) (t ^ ch))) ?_ (fun M' hs' => ?_)
  · obtain ⟨M2, r1, r2⟩ := c_lostL hv (n := n) (by omega) (t := t) (ch := ch) (by omega) hc6 (2 ^ ch) FU 0 0 M (by omega) (by rw [FU_eq]; omega) (by omega) hC.1
    have r1' : lq3 (f_X8_lost_L73 (iz n) (iz (t : Int)) (iz (ch : Int))) FU (0 : Int64) (0 : Int32) M = _ := r1
    refine ⟨M2, keepC.of (r2.mono (fun a ha => by omega)), ?_⟩
    have h3 : gi M 3 3 = iz (now.1.length : Int) := hC.1.1.1
    have em : f_J9_min_7cf53 (6 : Int32) (iz (now.1.length : Int)) = some (iz (ch : Int)) := by
      unfold f_J9_min_7cf53
      by_cases q : now.1.length < 6
      · rw [if_pos (show iz (now.1.length : Int) < (6 : Int32) from lt_iz (b := 6) (by omega) (by omega) (by omega) (by omega) (by omega)), show ch = now.1.length by omega]
      · rw [if_neg (fun e => q (by have := (iz_lt (a := (now.1.length : Int)) (b := 6) (by omega) (by omega) (by omega) (by omega)).mp e; omega)), show ch = 6 by omega]; rfl
    unfold f_X8_lost
    rw [jq_q, if_neg (fun e => q1 (j1.mp e)), if_pos (j2.mpr q2), jq_q, if_neg (fun e => q3 (j3.mp e)), if_pos (j4.mpr q4), eo, b_s1, if_pos rfl, h3, em, b_s1, r1', b_s2, iz_ln (by omega) (by omega), Int.toNat_natCast, c_pow (by omega) hc6, b_s1, Nat.zero_add, c_part (by omega) (by omega), b_s1]
  · have hm := (hM.same hg hs').1
    obtain ⟨M2, r1, r2⟩ := m_lostL hv (n := n) (by omega) (t := t) (ch := ch) (by omega) hc6 (by omega) (2 ^ ch) FU 0 0 M' (by omega) (by rw [FU_eq]; omega) (by omega) hm
    have r1' : lq3 (f_X9_lost_L112 (iz n) (iz (t : Int)) (iz (ch : Int))) FU (0 : Int64) (0 : Int32) M' = _ := r1
    refine ⟨M2, r2, ?_⟩
    have em : (if (6 : Int32) ≤ (gi M' 139 9) then ((6 : Int32)) else ((gi M' 139 9))) = iz (ch : Int) := by
      rw [hm.count]
      by_cases q : now.1.length < 6
      · rw [if_neg (fun e => by have := (iz_le (a := 6) (b := (now.1.length : Int)) (by omega) (by omega) (by omega) (by omega)).mp e; omega), show ch = now.1.length by omega]
      · rw [if_pos (show (6 : Int32) ≤ iz (now.1.length : Int) from le_iz (a := 6) (by omega) (by omega) (by omega) (by omega) (by omega)), show ch = 6 by omega]; rfl
    unfold f_X9_lost
    rw [if_neg (fun e => q1 (j1.mp e)), if_pos (j2.mpr q2), if_neg (fun e => q3 (j3.mp e)), if_pos (j4.mpr q4), ei, b_s1, if_neg (show ¬ (1 : Int32) = 0 by decide), b_s1, if_pos rfl, nmq_q, em, m_pow (by omega) hc6, b_s1, r1', b_s2, Nat.zero_add, m_part (by omega) (by omega) hp0, b_s1]
