/-! one step of the evaluation, on each side -/
section EVS
variable {q t c m i d : Nat} {K R : Mem}
theorem g_end {k} {s4 : Nat} (ht : t < 14) (hm : m ≤ 96) (h3 : K 3 t = nI m) (hd : K 1 5 = nI 1) : F_X5_gives_28 k q s4 (nI t) (nI c) (nI m) K = some (K 20 0, up K 1 5 (nI 0)) := by
  unfold F_X5_gives_28
  simp (disch := omega) only [nm_eq, gd_t, bd_s, bd2_s, lit, jn_add, pk_mul, inb_t, tn_nI, jn_lt, jn_le, jn_eq, h3, Nat.le_refl, if_true, e_pop (d := 0) hd (by omega)]
theorem g_num {k} {s4 x : Nat} (ht : t < 14) (hm : m ≤ 96) (hi : i < m) (h3 : K 3 t = nI m) (hx : K s4 i = nI x) (hx9 : x ≤ 9999) (hd : K 1 5 = nI d) (hd9 : d < 96) : F_X5_gives_28 k q s4 (nI t) (nI c) (nI i) K = k s4 (nI t) (nI c) (nI (i + 1)) (up (up K 20 d (nI x)) 1 5 (nI (d + 1))) := by
  have hf0 : ¬ m ≤ i := by omega
  have hf1 : ¬ 96 ≤ i := by omega
  unfold F_X5_gives_28
  simp (disch := omega) only [nm_eq, gd_t, bd_s, bd2_s, lit, jn_add, pk_mul, inb_t, tn_nI, jn_lt, jn_le, jn_eq, h3, hx, hf0, hf1, Nat.not_lt_zero, if_false, e_push hd hd9]
theorem g_name {k} {s4 L : Nat} {v : Int32} (ht : t < 14) (hm : m ≤ 96) (hi : i < m) (h3 : K 3 t = nI m) (hx : K s4 i = -nI L) (hL : 97 ≤ L) (hL2 : L ≤ 122) (hv : C_X5_named q K (nI L) (nI c) = some v) (hd : K 1 5 = nI d) (hd9 : d < 96) : F_X5_gives_28 k q s4 (nI t) (nI c) (nI i) K = k s4 (nI t) (nI c) (nI (i + 1)) (up (up K 20 d v) 1 5 (nI (d + 1))) := by
  have hf2 : ¬ m ≤ i := by omega
  have hf3 : ¬ 96 ≤ i := by omega
  have hneg : -nI L < nI 0 := neg_lt (by omega) (by omega)
  have hlet : C_X5_isLetter (nI L) = some (nI 1) := by
    unfold C_X5_isLetter F_X5_isLetter_0
    simp (disch := omega) only [lit, jn_lt, Nat.not_lt.mpr (by omega : 97 ≤ L), Nat.not_lt.mpr (by omega : L ≤ 122), if_false]
  unfold F_X5_gives_28
  simp (disch := omega) only [nm_eq, gd_t, bd_s, bd2_s, lit, jn_add, pk_mul, inb_t, tn_nI, jn_lt, jn_le, jn_eq, h3, hx, hf2, hf3, if_false, hneg, if_true, Int32.neg_neg, hlet, Nat.one_ne_zero, hv, e_push hd hd9]
theorem g_not {k} {s4 : Nat} (ht : t < 14) (hm : m ≤ 96) (hi : i < m) (h3 : K 3 t = nI m) (hx : K s4 i = -nI 33) (hd : K 1 5 = nI (d + 1)) (hd9 : d < 96) : F_X5_gives_28 k q s4 (nI t) (nI c) (nI i) K = k s4 (nI t) (nI c) (nI (i + 1)) (up (up (up K 1 5 (nI d)) 20 d (if K 20 d = nI 0 then nI 1 else nI 0)) 1 5 (nI (d + 1))) := by
  have hf0 : ¬ m ≤ i := by omega
  have hf1 : ¬ 96 ≤ i := by omega
  have hneg : -nI 33 < nI 0 := neg_lt (by omega) (by omega)
  have hlet : C_X5_isLetter (nI 33) = some (nI 0) := by decide
  have hpush : ∀ v, C_X5_push v (up K 1 5 (nI d)) = some (up (up (up K 1 5 (nI d)) 20 d v) 1 5 (nI (d + 1))) := fun v => e_push (by rw [u_at]) (by omega) v
  have t1 : C_X5_truth (nI 1) = some (nI 1) := by decide
  have t0 : C_X5_truth (nI 0) = some (nI 0) := by decide
  unfold F_X5_gives_28
  simp (disch := omega) only [nm_eq, gd_t, bd_s, bd2_s, lit, jn_add, pk_mul, inb_t, tn_nI, jn_lt, jn_le, jn_eq, h3, hx, hf0, hf1, if_false, hneg, if_true, Int32.neg_neg, hlet, e_pop hd hd9, t1, t0, hpush]
  split <;> rfl
theorem g_sign {k} {s4 s : Nat} {x : Int32} (ht : t < 14) (hm : m ≤ 96) (hi : i < m) (h3 : K 3 t = nI m) (hx : K s4 i = -nI s) (hs0 : 0 < s) (hs1 : s < 97 ∨ 122 < s) (hs2 : s < 1000) (hs3 : s ≠ 33) (hd : K 1 5 = nI (d + 2)) (hd9 : d + 1 < 96) (hj : C_X5_joined (nI s) (K 20 d) (K 20 (d + 1)) = some x) : F_X5_gives_28 k q s4 (nI t) (nI c) (nI i) K = k s4 (nI t) (nI c) (nI (i + 1)) (up (up (up (up K 1 5 (nI (d + 1))) 1 5 (nI d)) 20 d x) 1 5 (nI (d + 1))) := by
  have hf1 : ¬ m ≤ i := by omega
  have hf2 : ¬ 96 ≤ i := by omega
  have hneg : -nI s < nI 0 := neg_lt hs0 hs2
  have hlet : C_X5_isLetter (nI s) = some (nI 0) := by
    unfold C_X5_isLetter F_X5_isLetter_0
    rcases hs1 with h | h
    · simp (disch := omega) only [lit, jn_lt, h, if_true]
    · simp (disch := omega) only [lit, jn_lt, Nat.not_lt.mpr (by omega : 97 ≤ s), h, if_true, if_false]
  have hpop1 := e_pop (K := K) (d := d + 1) hd (by omega)
  have hpop2 := e_pop (K := up K 1 5 (nI (d + 1))) (d := d) (by rw [u_at]) (by omega)
  have hpush : C_X5_push x (up (up K 1 5 (nI (d + 1))) 1 5 (nI d)) = some (up (up (up (up K 1 5 (nI (d + 1))) 1 5 (nI d)) 20 d x) 1 5 (nI (d + 1))) := e_push (by rw [u_at]) (by omega) x
  have h20 : up K 1 5 (nI (d + 1)) 20 = K 20 := u_ne (by decide)
  unfold F_X5_gives_28
  simp (disch := omega) only [nm_eq, gd_t, bd_s, bd2_s, lit, jn_add, pk_mul, inb_t, tn_nI, jn_lt, jn_le, jn_eq, h3, hx, hf1, hf2, if_false, hneg, if_true, Int32.neg_neg, hlet, hs3, hpop1, hpop2, h20, hj, hpush]
variable {S : Nat → Int32}
theorem w_end {k} (ht : t < 14) (hm : m ≤ 96) (h3 : R 1 (60 + 200 * t) = nI m) : F_X9_worked_4 k (nI t) (nI d) (nI m) R = some (R 17 0, R) := by
  unfold F_X9_worked_4 C_X9_textAt F_X9_textAt_0
  simp (disch := omega) only [nm_eq, gd_t, bd_s, bd2_s, lit, jn_add, pk_mul, inb_t, tn_nI, jn_lt, jn_le, jn_eq, show 58 + 200 * t + 2 = 60 + 200 * t by omega, h3, Nat.le_refl, if_true]
theorem w_num {k} {x : Int32} (ht : t < 14) (hm : m ≤ 96) (hi : i < m) (h3 : R 1 (60 + 200 * t) = nI m) (h1 : R 1 (62 + 200 * t + 2 * i) = nI 0) (h2 : R 1 (63 + 200 * t + 2 * i) = x) (hd9 : d < 100) : F_X9_worked_4 k (nI t) (nI d) (nI i) R = k (nI t) (nI (d + 1)) (nI (i + 1)) (up R 17 d x) := by
  have hf0 : ¬ m ≤ i := by omega
  have hf1 : ¬ 0 = 2 := by omega
  unfold F_X9_worked_4 C_X9_textAt F_X9_textAt_0
  simp (disch := omega) only [nm_eq, gd_t, bd_s, bd2_s, lit, jn_add, pk_mul, inb_t, tn_nI, jn_lt, jn_le, jn_eq, show 58 + 200 * t + 2 = 60 + 200 * t by omega, show 58 + 200 * t + 4 + 2 * i = 62 + 200 * t + 2 * i by omega, show 62 + 200 * t + 2 * i + 1 = 63 + 200 * t + 2 * i by omega, h3, h1, h2, hf0, if_false, hf1, if_true]
theorem w_name {k} {L : Nat} (ht : t < 14) (hm : m ≤ 96) (hi : i < m) (h3 : R 1 (60 + 200 * t) = nI m) (h1 : R 1 (62 + 200 * t + 2 * i) = nI 1) (h2 : R 1 (63 + 200 * t + 2 * i) = nI L) (hL : L < 128) (hd9 : d < 100) : F_X9_worked_4 k (nI t) (nI d) (nI i) R = k (nI t) (nI (d + 1)) (nI (i + 1)) (up R 17 d (R 16 L)) := by
  have hf0 : ¬ m ≤ i := by omega
  have hf1 : ¬ 1 = 2 := by omega
  have hf2 : ¬ 1 = 0 := by omega
  unfold F_X9_worked_4 C_X9_textAt F_X9_textAt_0
  simp (disch := omega) only [nm_eq, gd_t, bd_s, bd2_s, lit, jn_add, pk_mul, inb_t, tn_nI, jn_lt, jn_le, jn_eq, show 58 + 200 * t + 2 = 60 + 200 * t by omega, show 58 + 200 * t + 4 + 2 * i = 62 + 200 * t + 2 * i by omega, show 62 + 200 * t + 2 * i + 1 = 63 + 200 * t + 2 * i by omega, h3, h1, h2, hf0, if_false, hf1, hf2]
theorem w_not {k} (ht : t < 14) (hm : m ≤ 96) (hi : i < m) (h3 : R 1 (60 + 200 * t) = nI m) (h1 : R 1 (62 + 200 * t + 2 * i) = nI 2) (h2 : R 1 (63 + 200 * t + 2 * i) = nI 33) (hd9 : d < 99) : F_X9_worked_4 k (nI t) (nI (d + 1)) (nI i) R = k (nI t) (nI (d + 1)) (nI (i + 1)) (up R 17 d (if R 17 d = nI 0 then nI 1 else nI 0)) := by
  have hf0 : ¬ m ≤ i := by omega
  have ed : nI (d + 1) - nI 1 = nI d := by
    rw [jn_sub (by omega)]
    rfl
  unfold F_X9_worked_4 C_X9_textAt F_X9_textAt_0
  simp (disch := omega) only [nm_eq, gd_t, bd_s, bd2_s, lit, jn_add, pk_mul, inb_t, tn_nI, jn_lt, jn_le, jn_eq, show 58 + 200 * t + 2 = 60 + 200 * t by omega, show 58 + 200 * t + 4 + 2 * i = 62 + 200 * t + 2 * i by omega, show 62 + 200 * t + 2 * i + 1 = 63 + 200 * t + 2 * i by omega, h3, h1, h2, hf0, if_false, if_true, ed]
  split <;> rfl
theorem w_sign {k} {s : Nat} {x : Int32} (ht : t < 14) (hm : m ≤ 96) (hi : i < m) (h3 : R 1 (60 + 200 * t) = nI m) (h1 : R 1 (62 + 200 * t + 2 * i) = nI 2) (h2 : R 1 (63 + 200 * t + 2 * i) = nI s) (hs2 : s < 1000) (hs3 : s ≠ 33) (hd9 : d + 1 < 100) (hj : C_X9_joined (nI s) (R 17 d) (R 17 (d + 1)) = some x) : F_X9_worked_4 k (nI t) (nI (d + 2)) (nI i) R = k (nI t) (nI (d + 1)) (nI (i + 1)) (up R 17 d x) := by
  have hf0 : ¬ m ≤ i := by omega
  have ed : nI (d + 2) + -nI 1 = nI (d + 1) := by
    rw [jn_addm (by omega)]
    rfl
  have ed2 : nI (d + 1) - nI 1 = nI d := by
    rw [jn_sub (by omega)]
    rfl
  unfold F_X9_worked_4 C_X9_textAt F_X9_textAt_0
  simp (disch := omega) only [nm_eq, gd_t, bd_s, bd2_s, lit, jn_add, pk_mul, inb_t, tn_nI, jn_lt, jn_le, jn_eq, show 58 + 200 * t + 2 = 60 + 200 * t by omega, show 58 + 200 * t + 4 + 2 * i = 62 + 200 * t + 2 * i by omega, show 62 + 200 * t + 2 * i + 1 = 63 + 200 * t + 2 * i by omega, h3, h1, h2, hf0, if_false, if_true, hs3, ed, ed2, hj]
end EVS
