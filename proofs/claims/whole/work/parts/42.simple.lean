/-! the simple methods of both sides, over small naturals -/
theorem u_at {K : Mem} {c i : Nat} {v : Int32} : up K c i v c i = v := up_at
theorem u_ne {K : Mem} {c i : Nat} {v : Int32} {a : Nat} (h : a ≠ c) : up K c i v a = K a := up_ne h
theorem u_oth {K : Mem} {c i : Nat} {v : Int32} {j : Nat} (h : j ≠ i) : up K c i v c j = K c j := up_oth h
theorem u_if (K : Mem) (c i : Nat) (v : Int32) (a j : Nat) : up K c i v a j = if a = c ∧ j = i then v else K a j := rfl
theorem e_of {R : Mem} {k w : Nat} (h : 10 + 4 * k + w < 3058) : C_X9_of R (nI k) (nI w) = some (R 1 (10 + 4 * k + w)) := by
  unfold C_X9_of F_X9_of_0
  simp (disch := omega) only [nm_eq, gd_t, bd_s, bd2_s, lit, jn_add, pk_mul, inb_t, tn_nI, jn_lt, jn_le, jn_eq]
theorem e_sets {R : Mem} {k w : Nat} (v : Int32) (h : 10 + 4 * k + w < 3058) : C_X9_sets (nI k) (nI w) v R = some (up R 1 (10 + 4 * k + w) v) := by
  unfold C_X9_sets F_X9_sets_0
  simp (disch := omega) only [nm_eq, gd_t, bd_s, bd2_s, lit, jn_add, pk_mul, inb_t, tn_nI, jn_lt, jn_le, jn_eq]
theorem e_drawn {R : Mem} : C_X9_drawn R = some (jushr (R 1 9 * 1103515245 + 12345) 8, up R 1 9 (R 1 9 * 1103515245 + 12345)) := by
  unfold C_X9_drawn F_X9_drawn_0
  rw [show inb 9 3058 = true from by decide, show Int32.toNatClampNeg 9 = 9 from by decide]
  simp only [nm_eq, gd_t, u_at]
theorem e_draw {K : Mem} {q : Nat} : C_X6_draw q K = some (jushr (K q 12 * 1103515245 + 12345) 8, up K q 12 (K q 12 * 1103515245 + 12345)) := by
  unfold C_X6_draw F_X6_draw_0
  simp only [nm_eq, u_at]
/-- what a draw gives: a natural below 2^24 -/
theorem draw_nat (x : Int32) : ∃ d : Nat, d < 16777216 ∧ jushr x 8 = nI d := by
  have h := pk_ushr x 8 8 (by decide)
  have hx : x.toBitVec.toNat < 2 ^ 32 := x.toBitVec.isLt
  refine ⟨x.toBitVec.toNat / 2 ^ 8, by omega, ?_⟩
  apply Int32.toBitVec_inj.mp
  apply BitVec.eq_of_toNat_eq
  unfold jushr
  rw [h, pk_tn (by omega)]
theorem jrem_nat {a d : Nat} (ha : a < 2147483648) (h0 : 0 < d) (hd : d < 2147483648) : jrem (nI a) (nI d) = nI (a % d) := pk_rem (by omega) h0 (by omega)
theorem e_comes {R : Mem} {n : Nat} (hn : R 1 0 = nI n) (h : n < 12) (k g l : Int32) : ∃ R', C_X9_comes k g l R = some R' ∧ (∀ c, c ≠ 1 → R' c = R c) ∧ R' 1 0 = nI (n + 1) ∧ R' 1 (10 + 4 * n) = k ∧ R' 1 (11 + 4 * n) = g ∧ R' 1 (12 + 4 * n) = 0 ∧ R' 1 (13 + 4 * n) = l ∧ ∀ i, i ≠ 0 → (i < 10 + 4 * n ∨ 13 + 4 * n < i) → R' 1 i = R 1 i := by
  unfold C_X9_comes F_X9_comes_0
  rw [show inb 0 3058 = true from by decide, show Int32.toNatClampNeg 0 = 0 from by decide]
  simp only [nm_eq, gd_t, hn]
  rw [show (0 : Int32) = nI 0 from rfl, show (1 : Int32) = nI 1 from rfl, show (2 : Int32) = nI 2 from rfl, show (3 : Int32) = nI 3 from rfl, jn_add]
  rw [e_sets _ (by omega), bd_s, e_sets _ (by omega), bd_s, e_sets _ (by omega), bd_s, e_sets _ (by omega), bd_s]
  refine ⟨_, rfl, ?_, ?_, ?_, ?_, ?_, ?_, ?_⟩
  · intro c hc
    simp only [u_ne hc]
  all_goals simp only [u_if, true_and]
  · repeat (first | rw [if_neg (by omega)] | rw [if_pos (by omega)] | rw [if_pos trivial])
  · repeat (first | rw [if_neg (by omega)] | rw [if_pos (by omega)] | rw [if_pos trivial])
  · repeat (first | rw [if_neg (by omega)] | rw [if_pos (by omega)] | rw [if_pos trivial])
  · repeat (first | rw [if_neg (by omega)] | rw [if_pos (by omega)] | rw [if_pos trivial])
  · repeat (first | rw [if_neg (by omega)] | rw [if_pos (by omega)] | rw [if_pos trivial])
  · intro i h1 h2
    repeat (first | rw [if_neg (by omega)] | rw [if_pos (by omega)] | rw [if_pos trivial])
