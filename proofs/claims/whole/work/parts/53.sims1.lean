/-! the checks of arguments, both sides -/
theorem Rel.st {K R K' R' : Mem} {n n' : Nat} (h : Rel K R) (s : St 21 K R n K' R' n') : Rel K' R' := h.town s.1 (by rw [s.2.2.2.2]; exact h.nights) s.2.2.1.gk s.2.2.2.1.gr
theorem kind_e (a : Int32) : (∃ k, k < 6 ∧ a = nI k ∧ C_X0_isKind a = some (nI 1) ∧ C_X9_isIn (Int32.toInt64 a) 0 5 = some (nI 1)) ∨ (C_X0_isKind a = some (nI 0) ∧ C_X9_isIn (Int32.toInt64 a) 0 5 = some (nI 0)) := by
  rw [wide_lit 0 (by decide), wide_lit 5 (by decide)]
  unfold C_X0_isKind F_X0_isKind_0
  rcases isIn_e a (lo := 0) (hi := 5) (by decide) (by decide) with ⟨j, h1, h2, rfl, e⟩ | ⟨hx, e⟩
  · refine Or.inl ⟨j, by omega, rfl, ?_, e⟩
    rw [if_neg (show ¬ nI j < (0 : Int32) from jnlt (b := 0) (by omega) (by omega)), if_neg (show ¬ (6 : Int32) ≤ nI j from jnle (a := 6) (by omega) (by omega))]
    rfl
  · refine Or.inr ⟨?_, e⟩
    rcases hx with hx | hx
    · rw [if_pos (show a < (0 : Int32) from hx)]
      rfl
    · by_cases h0 : a < 0
      · rw [if_pos h0]
        rfl
      · rw [if_neg h0, if_pos]
        · rfl
        · rcases pk_ix a (n := 6) (by decide) with q | q | ⟨j, hj, rfl⟩
          · exact absurd q h0
          · exact q
          · have := (jn_lt (a := 5) (b := j) (by omega) (by omega)).mp hx
            omega
/-- the class's way to say 'between', the reference's -/
theorem btw_e (a : Int32) {lo hi : Nat} (h : hi < 2147483646) (hl : lo ≤ hi) : (∃ j, lo ≤ j ∧ j ≤ hi ∧ a = nI j ∧ ¬ a < nI lo ∧ ¬ nI hi < a ∧ ¬ nI (hi + 1) ≤ a ∧ nI lo ≤ a ∧ a ≤ nI hi ∧ a < nI (hi + 1) ∧ C_X9_isIn (Int32.toInt64 a) (Int32.toInt64 (nI lo)) (Int32.toInt64 (nI hi)) = some (nI 1)) ∨ ((a < nI lo ∨ (¬ a < nI lo ∧ nI hi < a ∧ nI (hi + 1) ≤ a)) ∧ C_X9_isIn (Int32.toInt64 a) (Int32.toInt64 (nI lo)) (Int32.toInt64 (nI hi)) = some (nI 0)) := by
  rcases isIn_e a (lo := lo) (hi := hi) (by omega) hl with ⟨j, h1, h2, rfl, e⟩ | ⟨hx, e⟩
  · exact Or.inl ⟨j, h1, h2, rfl, jnlt (by omega) (by omega), jnlt (by omega) (by omega), jnle (by omega) (by omega), jle (by omega) (by omega), jle (by omega) (by omega), jlt (by omega) (by omega), e⟩
  · refine Or.inr ⟨?_, e⟩
    by_cases h0 : a < nI lo
    · exact Or.inl h0
    · rcases hx with hx | hx
      · exact absurd hx h0
      · refine Or.inr ⟨h0, hx, ?_⟩
        rcases ix_cases a (n := hi + 1) (by omega) with (q | q) | ⟨j, hj, rfl⟩
        · have h3 : nI hi < (0 : Int32) := Int32.lt_trans hx q
          exact absurd h3 (jnlt (b := 0) (by omega) (by omega))
        · exact q
        · have := (jn_lt (a := hi) (b := j) (by omega) (by omega)).mp hx
          omega
theorem gauge_e (a : Int32) : (∃ k, 1 ≤ k ∧ k ≤ 9 ∧ a = nI k ∧ C_X8_isGauge a = some (nI 1) ∧ C_X9_isIn (Int32.toInt64 a) 1 9 = some (nI 1)) ∨ (C_X8_isGauge a = some (nI 0) ∧ C_X9_isIn (Int32.toInt64 a) 1 9 = some (nI 0)) := by
  rw [wide_lit 1 (by decide), wide_lit 9 (by decide)]
  unfold C_X8_isGauge F_X8_isGauge_0
  simp only [lit]
  rcases btw_e a (lo := 1) (hi := 9) (by decide) (by decide) with ⟨j, h1, h2, rfl, e1, e2, e3, e4, e5, e6, e⟩ | ⟨hx, e⟩
  · exact Or.inl ⟨j, h1, h2, rfl, by rw [if_neg e1, if_neg e2], e⟩
  · refine Or.inr ⟨?_, e⟩
    rcases hx with hx | ⟨h1, h2, h3⟩
    · rw [if_pos hx]
    · rw [if_neg h1, if_pos h2]
section SIMS
variable {K R : Mem} {n : Nat}
theorem loop_e (h : TS K 21 R n) (a b : Int32) : (∃ i c, i < n ∧ c < 8 ∧ a = nI i ∧ b = nI c ∧ C_X8_isLoop K a b = some (nI 1) ∧ C_X9_isCourse R a = some (nI 1) ∧ C_X9_isThere (nI 1) b = some (nI 1)) ∨ (C_X8_isLoop K a b = some (nI 0) ∧ ∃ x, C_X9_isCourse R a = some x ∧ C_X9_isThere x b = some (nI 0)) := by
  unfold C_X8_isLoop F_X8_isLoop_0 C_X9_isThere F_X9_isThere_0 C_X9_isLoop F_X9_isLoop_0
  rw [wide_lit 0 (by decide), wide_lit 7 (by decide)]
  rcases course_e h a with ⟨i, hi, rfl, e1, e2⟩ | ⟨e1, e2⟩
  · rw [e1, e2, bd_s, if_neg (show ¬ nI 1 = (0 : Int32) from by decide)]
    rcases btw_e b (lo := 0) (hi := 7) (by decide) (by decide) with ⟨j, h1, h2, rfl, d1, d2, d3, d4, d5, d6, e⟩ | ⟨hx, e⟩
    · refine Or.inl ⟨i, j, hi, by omega, rfl, rfl, ?_, rfl, ?_⟩
      · rw [if_neg (show ¬ nI j < (0 : Int32) from d1), if_neg (show ¬ (8 : Int32) ≤ nI j from d3)]
        rfl
      · rw [if_neg (show ¬ nI 1 = (0 : Int32) from by decide), e]
        rfl
    · refine Or.inr ⟨?_, nI 1, rfl, ?_⟩
      · rcases hx with hx | ⟨h1, h2, h3⟩
        · rw [if_pos (show b < (0 : Int32) from hx)]
          rfl
        · rw [if_neg (show ¬ b < (0 : Int32) from h1), if_pos (show (8 : Int32) ≤ b from h3)]
          rfl
      · rw [if_neg (show ¬ nI 1 = (0 : Int32) from by decide), e]
        rfl
  · rw [e1, e2, bd_s]
    exact Or.inr ⟨rfl, nI 0, rfl, rfl⟩
theorem n10 : ¬ nI 1 = (0 : Int32) := by decide
theorem z00 : nI 0 = (0 : Int32) := rfl
theorem b_worth {i k : Nat} {g : Int32} (hi : i < 12) (hk : k < 6) (e1 : R 1 (10 + 4 * i) = nI k) (e2 : R 1 (11 + 4 * i) = g) : ∃ v, C_X0_worth (nI k) g = some v ∧ C_X9_worth R (nI i) = some v := by
  have a1 : C_X9_of R (nI i) (nI 1) = some g := by rw [e_of (by omega), show 10 + 4 * i + 1 = 11 + 4 * i by omega, e2]
  have a0 : C_X9_of R (nI i) (nI 0) = some (nI k) := by rw [e_of (by omega), Nat.add_zero, e1]
  have e44 : (50 - g) - 6 = 44 - g := by
    rw [Int32.sub_eq_add_neg, Int32.sub_eq_add_neg, Int32.sub_eq_add_neg, Int32.add_assoc, Int32.add_comm (-g), ← Int32.add_assoc]
    rfl
  unfold C_X0_worth F_X0_worth_0 C_X9_worth F_X9_worth_0
  rw [show (0 : Int32) = nI 0 from rfl, show (1 : Int32) = nI 1 from rfl, a1, bd_s, a0, bd_s]
  simp only [nm_eq, e44]
  obtain rfl | rfl | rfl | rfl | rfl | rfl : k = 0 ∨ k = 1 ∨ k = 2 ∨ k = 3 ∨ k = 4 ∨ k = 5 := by omega
  · exact ⟨_, rfl, rfl⟩
  · exact ⟨_, rfl, rfl⟩
  · exact ⟨_, rfl, rfl⟩
  · exact ⟨_, rfl, rfl⟩
  · exact ⟨_, rfl, rfl⟩
  · exact ⟨_, rfl, rfl⟩
end SIMS
theorem s_knit : Sim2 Rel A8_knit A9_knit := by
  intro a b K R h
  obtain ⟨n, ht⟩ := h.now
  have h12 := ht.2.n12
  unfold A8_knit A9_knit C_X8_knit F_X8_knit_0 C_X9_knit F_X9_knit_0
  rcases kind_e a with ⟨k, hk, rfl, e1, e2⟩ | ⟨e1, e2⟩
  · rw [e1, e2]
    rcases gauge_e b with ⟨g, hg1, hg9, rfl, f1, f2⟩ | ⟨f1, f2⟩
    · rw [f1, f2]
      have ef : C_X6_isFull 21 K = some (if n < 12 then nI 0 else nI 1) := by
        unfold C_X6_isFull F_X6_isFull_0
        simp (disch := omega) only [nm_eq, gd_t, bd_s, bd2_s, lit, jn_add, pk_mul, inb_t, tn_nI, jn_lt, jn_le, jn_eq, Nat.reduceEqDiff, Nat.reduceLT, Nat.reduceLeDiff, Nat.not_lt_zero, Nat.zero_le, Nat.one_ne_zero, if_true, if_false, ht.1.nn, ht.2.s0]
        split <;> rfl
      rw [ef]
      by_cases q : n < 12
      · obtain ⟨K', R', c1, c2, s⟩ := st_add ht q (k := k) (l := 0) hk (by omega) (nI g)
        have q2 : ¬ n = 12 := by omega
        simp (disch := omega) only [nm_eq, gd_t, bd_s, bd2_s, lit, jn_add, pk_mul, inb_t, tn_nI, jn_lt, jn_le, jn_eq, Nat.reduceEqDiff, Nat.reduceLT, Nat.reduceLeDiff, Nat.not_lt_zero, Nat.zero_le, Nat.one_ne_zero, if_true, if_false, ht.2.s0, q, q2, c1, c2, s.1.1.nn]
        exact ⟨_, _, _, rfl, rfl, h.st s⟩
      · obtain rfl : n = 12 := by omega
        simp (disch := omega) only [nm_eq, gd_t, bd_s, bd2_s, lit, jn_add, pk_mul, inb_t, tn_nI, jn_lt, jn_le, jn_eq, Nat.reduceEqDiff, Nat.reduceLT, Nat.reduceLeDiff, Nat.not_lt_zero, Nat.zero_le, Nat.one_ne_zero, if_true, if_false, ht.2.s0]
        exact ⟨_, _, _, rfl, rfl, h⟩
    · rw [f1, f2]
      simp (disch := omega) only [nm_eq, gd_t, bd_s, bd2_s, lit, jn_add, pk_mul, inb_t, tn_nI, jn_lt, jn_le, jn_eq, Nat.reduceEqDiff, Nat.reduceLT, Nat.reduceLeDiff, Nat.not_lt_zero, Nat.zero_le, Nat.one_ne_zero, if_true, if_false]
      exact ⟨_, _, _, rfl, rfl, h⟩
  · rw [e1, e2]
    simp (disch := omega) only [nm_eq, gd_t, bd_s, bd2_s, lit, jn_add, pk_mul, inb_t, tn_nI, jn_lt, jn_le, jn_eq, Nat.reduceEqDiff, Nat.reduceLT, Nat.reduceLeDiff, Nat.not_lt_zero, Nat.zero_le, Nat.one_ne_zero, if_true, if_false]
    exact ⟨_, _, _, rfl, rfl, h⟩
theorem e_under_ : ∀ k : Fin 6, ∀ j : Fin 6, ∃ v, C_X0_isUnder (nI k) (nI j) = some v ∧ C_X9_isOf (nI k) (nI j) = some v := by
  have key : ∀ k : Fin 6, ∀ j : Fin 6, C_X0_isUnder (nI k) (nI j) = C_X9_isOf (nI k) (nI j) ∧ (C_X9_isOf (nI k) (nI j)).isSome = true := by decide +kernel
  intro k j
  obtain ⟨h1, h2⟩ := key k j
  obtain ⟨v, hv⟩ := Option.isSome_iff_exists.mp h2
  exact ⟨v, h1.trans hv, hv⟩
theorem e_under {k j : Nat} (hk : k < 6) (hj : j < 6) : ∃ v, C_X0_isUnder (nI k) (nI j) = some v ∧ C_X9_isOf (nI k) (nI j) = some v := e_under_ ⟨k, hk⟩ ⟨j, hj⟩
theorem s_as : Sim2 Rel A8_as A9_as := by
  intro a b K R h
  obtain ⟨n, ht⟩ := h.now
  have h12 := ht.2.n12
  unfold A8_as A9_as C_X8_as F_X8_as_0 C_X9_as F_X9_as_0
  rcases course_e ht a with ⟨i, hi, rfl, e1, e2⟩ | ⟨e1, e2⟩
  · rcases kind_e b with ⟨j, hj, rfl, f1, f2⟩ | ⟨f1, f2⟩
    · obtain ⟨k1, k2⟩ := ht.2.kf hi
      obtain ⟨v, v1, v2⟩ := e_under k1 hj
      have hk := ht.1.kd (c := i) (by omega)
      have hw := ht.1.we (c := i) (by omega)
      have o0 : C_X9_of R (nI i) (nI 0) = some (nI (kf (R 1) i)) := by rw [e_of (by omega), Nat.add_zero, k2]
      have o2 : C_X9_of R (nI i) (nI 2) = some (R 1 (12 + 4 * i)) := by rw [e_of (by omega), show 10 + 4 * i + 2 = 12 + 4 * i by omega]
      rw [k2] at hk
      simp (disch := omega) only [nm_eq, gd_t, bd_s, bd2_s, lit, jn_add, pk_mul, inb_t, tn_nI, jn_lt, jn_le, jn_eq, Nat.reduceEqDiff, Nat.reduceLT, Nat.reduceLeDiff, Nat.not_lt_zero, Nat.zero_le, Nat.one_ne_zero, if_true, if_false, e1, e2, f1, f2, hk, hw, o0, o2, v1, v2]
      split
      · exact ⟨_, _, _, rfl, rfl, h⟩
      · exact ⟨_, _, _, rfl, rfl, h⟩
    · simp (disch := omega) only [nm_eq, gd_t, bd_s, bd2_s, lit, jn_add, pk_mul, inb_t, tn_nI, jn_lt, jn_le, jn_eq, Nat.reduceEqDiff, Nat.reduceLT, Nat.reduceLeDiff, Nat.not_lt_zero, Nat.zero_le, Nat.one_ne_zero, if_true, if_false, e1, e2, f1, f2]
      exact ⟨_, _, _, rfl, rfl, h⟩
  · simp (disch := omega) only [nm_eq, gd_t, bd_s, bd2_s, lit, jn_add, pk_mul, inb_t, tn_nI, jn_lt, jn_le, jn_eq, Nat.reduceEqDiff, Nat.reduceLT, Nat.reduceLeDiff, Nat.not_lt_zero, Nat.zero_le, Nat.one_ne_zero, if_true, if_false, e1, e2]
    exact ⟨_, _, _, rfl, rfl, h⟩
theorem s_turns : Sim2 Rel A8_turns A9_turns := by
  intro a b K R h
  obtain ⟨n, ht⟩ := h.now
  have h12 := ht.2.n12
  unfold A8_turns A9_turns C_X8_turns F_X8_turns_0 C_X9_turns F_X9_turns_0 C_X9_changes F_X9_changes_0
  rcases course_e ht a with ⟨i, hi, rfl, e1, e2⟩ | ⟨e1, e2⟩
  · rcases kind_e b with ⟨j, hj, rfl, f1, f2⟩ | ⟨f1, f2⟩
    · have hk := ht.1.kd (c := i) (by omega)
      simp (disch := omega) only [nm_eq, gd_t, bd_s, bd2_s, lit, jn_add, pk_mul, inb_t, tn_nI, jn_lt, jn_le, jn_eq, Nat.reduceEqDiff, Nat.reduceLT, Nat.reduceLeDiff, Nat.not_lt_zero, Nat.zero_le, Nat.one_ne_zero, if_true, if_false, e1, e2, f1, f2, hk]
      refine ⟨_, _, _, rfl, rfl, h.town (ht.s_kd (i := i) (k := j) (by omega) hj) ?_ (FK.up (q := 21) (by omega) (by omega) (fun e => by omega)).gk (FR.up (by omega) (by omega)).gr⟩
      rw [u_oth (by omega)]
      exact h.nights
    · simp (disch := omega) only [nm_eq, gd_t, bd_s, bd2_s, lit, jn_add, pk_mul, inb_t, tn_nI, jn_lt, jn_le, jn_eq, Nat.reduceEqDiff, Nat.reduceLT, Nat.reduceLeDiff, Nat.not_lt_zero, Nat.zero_le, Nat.one_ne_zero, if_true, if_false, e1, e2, f1, f2]
      exact ⟨_, _, _, rfl, rfl, h⟩
  · simp (disch := omega) only [nm_eq, gd_t, bd_s, bd2_s, lit, jn_add, pk_mul, inb_t, tn_nI, jn_lt, jn_le, jn_eq, Nat.reduceEqDiff, Nat.reduceLT, Nat.reduceLeDiff, Nat.not_lt_zero, Nat.zero_le, Nat.one_ne_zero, if_true, if_false, e1, e2]
    exact ⟨_, _, _, rfl, rfl, h⟩
theorem s_told : Sim2 Rel A8_told A9_told := by
  intro a b K R h
  obtain ⟨n, ht⟩ := h.now
  have h12 := ht.2.n12
  unfold A8_told A9_told C_X8_told F_X8_told_0 C_X9_told F_X9_told_0
  rcases course_e ht a with ⟨i, hi, rfl, e1, e2⟩ | ⟨e1, e2⟩
  · rw [wide_lit 0 (by decide), wide_lit 7 (by decide)]
    obtain ⟨k1, k2⟩ := ht.2.kf hi
    have hk := ht.1.kd (c := i) (by omega)
    have hg := ht.1.ga (c := i) (by omega)
    have hw := ht.1.we (c := i) (by omega)
    have hl := ht.1.lo (c := i) (by omega)
    rcases btw_e b (lo := 0) (hi := 7) (by decide) (by decide) with ⟨j, h1, h2, rfl, d1, d2, d3, d4, d5, d6, e⟩ | ⟨hx, e⟩
    · obtain rfl | rfl | rfl | rfl | rfl | rfl | rfl | rfl : j = 0 ∨ j = 1 ∨ j = 2 ∨ j = 3 ∨ j = 4 ∨ j = 5 ∨ j = 6 ∨ j = 7 := by omega
      · have o : C_X9_of R (nI i) (nI 0) = some (R 1 (10 + 4 * i)) := by rw [e_of (by omega), Nat.add_zero]
        simp (disch := omega) only [nm_eq, gd_t, bd_s, bd2_s, lit, jn_add, pk_mul, inb_t, tn_nI, jn_lt, jn_le, jn_eq, Nat.reduceEqDiff, Nat.reduceLT, Nat.reduceLeDiff, Nat.not_lt_zero, Nat.zero_le, Nat.one_ne_zero, if_true, if_false, e1, e2, e, hk, o]
        exact ⟨_, _, _, rfl, rfl, h⟩
      · have o : C_X9_of R (nI i) (nI 1) = some (R 1 (11 + 4 * i)) := by rw [e_of (by omega), show 10 + 4 * i + 1 = 11 + 4 * i by omega]
        simp (disch := omega) only [nm_eq, gd_t, bd_s, bd2_s, lit, jn_add, pk_mul, inb_t, tn_nI, jn_lt, jn_le, jn_eq, Nat.reduceEqDiff, Nat.reduceLT, Nat.reduceLeDiff, Nat.not_lt_zero, Nat.zero_le, Nat.one_ne_zero, if_true, if_false, e1, e2, e, hg, o]
        exact ⟨_, _, _, rfl, rfl, h⟩
      · have o : C_X9_of R (nI i) (nI 2) = some (R 1 (12 + 4 * i)) := by rw [e_of (by omega), show 10 + 4 * i + 2 = 12 + 4 * i by omega]
        simp (disch := omega) only [nm_eq, gd_t, bd_s, bd2_s, lit, jn_add, pk_mul, inb_t, tn_nI, jn_lt, jn_le, jn_eq, Nat.reduceEqDiff, Nat.reduceLT, Nat.reduceLeDiff, Nat.not_lt_zero, Nat.zero_le, Nat.one_ne_zero, if_true, if_false, e1, e2, e, hw, o]
        exact ⟨_, _, _, rfl, rfl, h⟩
      · have o : C_X9_of R (nI i) (nI 3) = some (R 1 (13 + 4 * i)) := by rw [e_of (by omega), show 10 + 4 * i + 3 = 13 + 4 * i by omega]
        simp (disch := omega) only [nm_eq, gd_t, bd_s, bd2_s, lit, jn_add, pk_mul, inb_t, tn_nI, jn_lt, jn_le, jn_eq, Nat.reduceEqDiff, Nat.reduceLT, Nat.reduceLeDiff, Nat.not_lt_zero, Nat.zero_le, Nat.one_ne_zero, if_true, if_false, e1, e2, e, hl, o]
        exact ⟨_, _, _, rfl, rfl, h⟩
      · obtain ⟨R', r1, r2⟩ := e_holdingR ht.2 hi
        simp (disch := omega) only [nm_eq, gd_t, bd_s, bd2_s, lit, jn_add, pk_mul, inb_t, tn_nI, jn_lt, jn_le, jn_eq, Nat.reduceEqDiff, Nat.reduceLT, Nat.reduceLeDiff, Nat.not_lt_zero, Nat.zero_le, Nat.one_ne_zero, if_true, if_false, e1, e2, e, e_holding ht hi, r1]
        exact ⟨_, _, _, rfl, rfl, h.hr r2⟩
      · obtain ⟨w, K', R', hw, c1, r1, s1, s2⟩ := b_wears (by omega) ht h.xt hi
        simp (disch := omega) only [nm_eq, gd_t, bd_s, bd2_s, lit, jn_add, pk_mul, inb_t, tn_nI, jn_lt, jn_le, jn_eq, Nat.reduceEqDiff, Nat.reduceLT, Nat.reduceLeDiff, Nat.not_lt_zero, Nat.zero_le, Nat.one_ne_zero, if_true, if_false, e1, e2, e, c1, r1]
        exact ⟨_, _, _, rfl, rfl, h.ek s1 s2⟩
      · obtain ⟨v, v1, v2⟩ := b_bears (g := R 1 (11 + 4 * i)) (R := R) (i := i) (by omega) k1 k2 rfl
        rw [k2] at hk
        simp (disch := omega) only [nm_eq, gd_t, bd_s, bd2_s, lit, jn_add, pk_mul, inb_t, tn_nI, jn_lt, jn_le, jn_eq, Nat.reduceEqDiff, Nat.reduceLT, Nat.reduceLeDiff, Nat.not_lt_zero, Nat.zero_le, Nat.one_ne_zero, if_true, if_false, e1, e2, e, hk, hg, v1, v2]
        exact ⟨_, _, _, rfl, rfl, h⟩
      · obtain ⟨v, v1, v2⟩ := b_worth (g := R 1 (11 + 4 * i)) (R := R) (i := i) (by omega) k1 k2 rfl
        rw [k2] at hk
        simp (disch := omega) only [nm_eq, gd_t, bd_s, bd2_s, lit, jn_add, pk_mul, inb_t, tn_nI, jn_lt, jn_le, jn_eq, Nat.reduceEqDiff, Nat.reduceLT, Nat.reduceLeDiff, Nat.not_lt_zero, Nat.zero_le, Nat.one_ne_zero, if_true, if_false, e1, e2, e, hk, hg, v1, v2]
        exact ⟨_, _, _, rfl, rfl, h⟩
    · have ne : ∀ j, j ≤ 7 → ¬ b = nI j := by
        rintro j hj rfl
        rcases hx with hx | ⟨-, hx, -⟩
        · exact jnlt (Nat.zero_le _) (by omega) hx
        · exact jnlt hj (by omega) hx
      rw [e1, e2, bd_s, bd_s, if_neg n10, if_neg n10, e, bd_s, if_pos z00, if_neg (show ¬ b = 0 from ne 0 (by omega)), if_neg (show ¬ b = 1 from ne 1 (by omega)), if_neg (show ¬ b = 2 from ne 2 (by omega)), if_neg (show ¬ b = 3 from ne 3 (by omega)), if_neg (show ¬ b = 4 from ne 4 (by omega)), if_neg (show ¬ b = 5 from ne 5 (by omega)), if_neg (show ¬ b = 6 from ne 6 (by omega)), if_neg (show ¬ b = 7 from ne 7 (by omega))]
      exact ⟨_, _, _, rfl, rfl, h⟩
  · rw [e1, e2, bd_s, bd_s, if_pos z00, if_pos z00]
    exact ⟨_, _, _, rfl, rfl, h⟩
