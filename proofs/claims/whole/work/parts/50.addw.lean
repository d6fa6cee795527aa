/-! adds -/
theorem c_lon {z : Int} (h1 : -2147483648 ≤ z) (h2 : z < 2147483648) : f_X8_isLetterOrNone (iz z) = some (if -1 ≤ z ∧ z ≤ 7 then 1 else 0) := by
  unfold f_X8_isLetterOrNone
  by_cases q : z = -1
  · rw [if_pos (show iz z = (-1 : Int32) by rw [q]; rfl), if_pos (by omega)]
  · rw [if_neg (show ¬ iz z = (-1 : Int32) from neq_iz (b := -1) h1 h2 (by omega) (by omega) q), c_isLetter h1 h2, b_s1]
    by_cases q2 : 0 ≤ z ∧ z ≤ 7
    · rw [if_pos q2, if_neg (by decide), if_pos (by omega)]
    · rw [if_neg q2, if_pos rfl, if_neg (by omega)]
theorem m_lon {z : Int} (h1 : -2147483648 ≤ z) (h2 : z < 2147483648) : f_X9_isLetterOrNone (iz z) = some (if -1 ≤ z ∧ z ≤ 7 then 1 else 0) := by
  unfold f_X9_isLetterOrNone
  have e : f_X9_isIn (iz z) (-1 : Int32) (7 : Int32) = some (if -1 ≤ z ∧ z ≤ 7 then 1 else 0) := by
    rw [show (-1 : Int32) = iz (-1 : Int) by decide]
    exact m_isIn (z := z) (lo := -1) (hi := 7) h1 h2 (by omega) (by omega) (by omega) (by omega)
  rw [e, b_s1]
  refine g_t ?_
  by_cases q : -1 ≤ z ∧ z ≤ 7
  · rw [if_pos q]; right; rfl
  · rw [if_neg q]; left; rfl
theorem cPar.addW {M : Mem} {v : PV} (h : cPar M 1 v) (hl : v.1.length < 16) {l : List Nat} : f_X7_add 3 (pk l) (iz (l.length : Int)) M = some (iz (v.1.length : Int), si (si (si (sl M 4 v.1.length (pk l)) 5 v.1.length (iz (l.length : Int))) 6 v.1.length (0 : Int32)) 3 3 (iz ((v.1.length + 1 : Nat) : Int))) ∧
    cPar (si (si (si (sl M 4 v.1.length (pk l)) 5 v.1.length (iz (l.length : Int))) 6 v.1.length (0 : Int32)) 3 3 (iz ((v.1.length + 1 : Nat) : Int))) 1 (v.1 ++ [(l, 0)], v.2) := by
  have h3 : gi M 3 3 = iz (v.1.length : Int) := h.1.1
  obtain ⟨M1, hM1⟩ : ∃ M1, M1 = si (si (sl M 4 v.1.length (pk l)) 5 v.1.length (iz (l.length : Int))) 6 v.1.length (0 : Int32) := ⟨_, rfl⟩
  rw [← hM1]
  have hs : sameOn (fun k => k ≠ 4 ∧ k ≠ 5 ∧ k ≠ 6) M M1 := by rw [hM1]; exact ((sameOn.sl (by omega)).tr (sameOn.si (by omega))).tr (sameOn.si (by omega))
  have g4 : ∀ w, gl M1 4 w = if w = v.1.length then pk l else gl M 4 w := fun w => by
    have : gl M1 4 w = gl (sl M 4 v.1.length (pk l)) 4 w := by rw [hM1]; rfl
    rw [this, gl_sl']
    by_cases q : w = v.1.length
    · rw [if_pos ⟨rfl, q⟩, if_pos q]
    · rw [if_neg (by omega), if_neg q]
  have g5 : ∀ w, gi M1 5 w = if w = v.1.length then iz (l.length : Int) else gi M 5 w := fun w => by
    rw [hM1, gi_si, if_neg (by omega), gi_si]
    by_cases q : w = v.1.length
    · rw [if_pos ⟨rfl, q⟩, if_pos q]
    · rw [if_neg (by omega), if_neg q]; rfl
  have g6 : ∀ w, gi M1 6 w = if w = v.1.length then (0 : Int32) else gi M 6 w := fun w => by
    rw [hM1, gi_si]
    by_cases q : w = v.1.length
    · rw [if_pos ⟨rfl, q⟩, if_pos q]
    · rw [if_neg (by omega), if_neg q, gi_si, if_neg (by omega)]; rfl
  refine ⟨?_, ⟨⟨?_, fun w q hq => ?_⟩, h.2.1.same ((hs.mono (fun k hk => by omega)).tr (sameOn.si (by omega))), fun i hi => ?_, fun i hi => ?_⟩⟩
  · unfold f_X7_add
    rw [h3, c_wwrite (k := 3) (by rfl) (by rfl) hl, b_s1, nmq_q]
    have e3 : si (si (sl M (3 + 1) v.1.length (pk l)) (3 + 2) v.1.length (iz (l.length : Int))) (3 + 3) v.1.length (0 : Int32) = M1 := hM1.symm
    rw [e3, (hs 3 (by omega)).1, h3, iz_s, gi_si, if_pos ⟨rfl, rfl⟩, show (1 : Int32) = iz (1 : Int) from rfl, iz_sub]
    congr 3; omega
  · rw [gi_si, if_pos ⟨rfl, rfl⟩, List.length_append]; rfl
  · show gl M1 4 w = _ ∧ gi (si M1 3 3 _) 5 w = _ ∧ gi (si M1 3 3 _) 6 w = _
    rw [gi_si, if_neg (by omega), gi_si, if_neg (by omega), g4, g5, g6]
    rcases snoc_at hq with ⟨r1, r2⟩ | ⟨r1, r2⟩
    · rw [if_neg (by omega), if_neg (by omega), if_neg (by omega)]; exact h.1.2 w q r2
    · rw [if_pos r1, if_pos r1, if_pos r1, r2]; exact ⟨rfl, rfl, rfl⟩
  · rw [gi_si, if_neg (by omega), (hs (1 + 1) (by omega)).1]; exact h.2.2.1 i hi
  · rw [gi_si, if_neg (by omega), (hs 1 (by omega)).1]; exact h.2.2.2 i hi
/-- the reference's writing of a word -/
def mAdd (M : Mem) (n : Nat) (len x y z : Int32) : Mem := si (si (si (si (si (si M 142 n len) 143 (12 * n) x) 143 (12 * n + 1) y) 143 (12 * n + 2) z) 144 n (0 : Int32)) 139 9 (iz ((n + 1 : Nat) : Int))
theorem m_addE {M : Mem} {n : Nat} {len x y z : Int32} (h : gi M 139 9 = iz (n : Int)) (hn : n < 16) :
    (gq (inB (gi M 139 9) 16) (nmq (si M 142 (((gi M 139 9) : Int32).toNatClampNeg) len) (fun (M13 : Mem) => gq (inB ((12 : Int32) * (gi M13 139 9)) 192) (nmq (si M13 143 ((((12 : Int32) * (gi M13 139 9)) : Int32).toNatClampNeg) x) (fun (M15 : Mem) => gq (inB (((12 : Int32) * (gi M15 139 9)) + (1 : Int32)) 192) (nmq (si M15 143 (((((12 : Int32) * (gi M15 139 9)) + (1 : Int32)) : Int32).toNatClampNeg) y) (fun (M17 : Mem) => gq (inB (((12 : Int32) * (gi M17 139 9)) + (2 : Int32)) 192) (nmq (si M17 143 (((((12 : Int32) * (gi M17 139 9)) + (2 : Int32)) : Int32).toNatClampNeg) z) (fun (M19 : Mem) => gq (inB (gi M19 139 9) 16) (nmq (si M19 144 (((gi M19 139 9) : Int32).toNatClampNeg) (0 : Int32)) (fun (M21 : Mem) => nmq (si M21 139 9 ((gi M21 139 9) + (1 : Int32))) (fun (M22 : Mem) => some (((gi M22 139 9) - (1 : Int32)), M22))))))))))))) = some (iz (n : Int), mAdd M n len x y z) := by
  have i0 : (12 : Int32) * iz (n : Int) = iz ((12 * n : Nat) : Int) := by rw [show (12 : Int32) = iz (12 : Int) from rfl, iz_mul]; congr 1
  have i1 : iz ((12 * n : Nat) : Int) + (1 : Int32) = iz ((12 * n + 1 : Nat) : Int) := by rw [show (1 : Int32) = iz (1 : Int) from rfl, iz_add]; congr 1
  have i2 : iz ((12 * n : Nat) : Int) + (2 : Int32) = iz ((12 * n + 2 : Nat) : Int) := by rw [show (2 : Int32) = iz (2 : Int) from rfl, iz_add]; congr 1
  have hk : ∀ {N : Mem} {k j : Nat} {w : Int32}, k ≠ 139 → gi (si N k j w) 139 9 = gi N 139 9 := fun hk => by rw [gi_si, if_neg (by omega)]
  rw [g_t (by rw [h]; exact inB_n hn (by omega)), nmq_q, h, clN (by omega)]
  rw [hk (by omega), h, i0, g_t (inB_n (by omega) (by omega)), nmq_q, clN (by omega)]
  rw [hk (by omega), hk (by omega), h, i0, i1, g_t (inB_n (by omega) (by omega)), nmq_q, clN (by omega)]
  rw [hk (by omega), hk (by omega), hk (by omega), h, i0, i2, g_t (inB_n (by omega) (by omega)), nmq_q, clN (by omega)]
  rw [hk (by omega), hk (by omega), hk (by omega), hk (by omega), h, g_t (inB_n hn (by omega)), nmq_q, nmq_q, clN (by omega)]
  have hX : gi (si (si (si (si (si M 142 n len) 143 (12 * n) x) 143 (12 * n + 1) y) 143 (12 * n + 2) z) 144 n (0 : Int32)) 139 9 = iz (n : Int) := by
    rw [hk (k := 144) (by decide), hk (k := 143) (by decide), hk (k := 143) (by decide), hk (k := 143) (by decide), hk (k := 142) (by decide), h]
  rw [hX, iz_s, gi_si, if_pos ⟨rfl, rfl⟩, show (1 : Int32) = iz (1 : Int) from rfl, iz_sub]
  unfold mAdd
  congr 3; omega
theorem mPar.addW {M : Mem} {v : PV} (hv : okV v) (h : mPar (rdNow M) v) (hl : v.1.length < 16) {l : List Nat} {x y z : Int32} (hl3 : l.length ≤ 3) (hx : ∀ a : Nat, l[0]? = some a → x = iz (a : Int)) (hy : ∀ a : Nat, l[1]? = some a → y = iz (a : Int)) (hz : ∀ a : Nat, l[2]? = some a → z = iz (a : Int)) :
    mPar (rdNow (mAdd M v.1.length (iz (l.length : Int)) x y z)) (v.1 ++ [(l, 0)], v.2) := by
  have hb2 : blkOf 142 16 8 := by unfold blkOf; omega
  have hb3 : blkOf 143 192 24 := by unfold blkOf; omega
  have hb4 : blkOf 144 16 216 := by unfold blkOf; omega
  have hr : ∀ o, o < 292 → rdNow (mAdd M v.1.length (iz (l.length : Int)) x y z) o = if o = 280 then iz ((v.1.length + 1 : Nat) : Int) else if o = 216 + v.1.length then (0 : Int32) else if o = 24 + (12 * v.1.length + 2) then z else if o = 24 + (12 * v.1.length + 1) then y else if o = 24 + 12 * v.1.length then x else if o = 8 + v.1.length then iz (l.length : Int) else rdNow M o := fun o ho => by
    unfold mAdd
    rw [rd_sf (by omega) o ho, rd_si hb4 hl o ho, rd_si hb3 (by omega) o ho, rd_si hb3 (by omega) o ho, rd_si hb3 (by omega) o ho, rd_si hb2 hl o ho]
  have hfar : ∀ o, o < 292 → o ≠ 280 → o ≠ 216 + v.1.length → (o < 24 + 12 * v.1.length ∨ 24 + 12 * v.1.length + 2 < o) → o ≠ 8 + v.1.length → rdNow (mAdd M v.1.length (iz (l.length : Int)) x y z) o = rdNow M o := fun o ho a1 a2 a3 a4 => by
    rw [hr o ho, if_neg a1, if_neg a2, if_neg (by omega), if_neg (by omega), if_neg (by omega), if_neg a4]
  refine h.words hv ?_ (fun w q hq => ?_) (fun o ho => hfar o (by omega) (by omega) (by omega) (by omega) (by omega))
  · rw [hr _ (by omega), if_pos rfl, List.length_append]; rfl
  · rcases snoc_at hq with ⟨r1, r2⟩ | ⟨r1, r2⟩
    · obtain ⟨p1, p2, p3⟩ := h.2.1 w q r2
      refine ⟨by rw [hfar _ (by omega) (by omega) (by omega) (by omega) (by omega)]; exact p1, fun k a hk => ?_, by rw [hfar _ (by omega) (by omega) (by omega) (by omega) (by omega)]; exact p3⟩
      have hk2 : k < 12 := Nat.lt_of_lt_of_le (List.getElem?_eq_some_iff.mp hk).1 (hv.2.1 q (List.mem_of_getElem? r2)).1.2.1
      rw [hfar _ (by omega) (by omega) (by omega) (by omega) (by omega)]; exact p2 k a hk
    · rw [r1, r2]
      refine ⟨?_, fun k a hk => ?_, ?_⟩
      · rw [hr _ (by omega), if_neg (by omega), if_neg (by omega), if_neg (by omega), if_neg (by omega), if_neg (by omega), if_pos rfl]
      · have hk2 : k < 3 := Nat.lt_of_lt_of_le (List.getElem?_eq_some_iff.mp hk).1 hl3
        rw [hr _ (by omega), if_neg (by omega), if_neg (by omega)]
        by_cases q2 : k = 2
        · rw [if_pos (by omega)]; rw [q2] at hk; exact hz a hk
        by_cases q1 : k = 1
        · rw [if_neg (by omega), if_pos (by omega)]; rw [q1] at hk; exact hy a hk
        have q0 : k = 0 := by omega
        rw [if_neg (by omega), if_neg (by omega), if_pos (by omega)]; rw [q0] at hk; exact hx a hk
      · rw [hr _ (by omega), if_neg (by omega), if_pos rfl]; rfl
