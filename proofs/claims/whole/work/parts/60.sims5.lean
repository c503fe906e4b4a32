theorem s_behind : Sim2 Rel A8_behind A9_behind := by
  intro a b K R h
  have hF := FU_big
  obtain ⟨n, ht⟩ := h.now
  have h12 := ht.2.n12
  unfold A8_behind A9_behind C_X8_behind F_X8_behind_0 C_X9_behind F_X9_behind_0
  rw [wide_lit 0 (by decide), wide_lit 100 (by decide)]
  rcases btw_e a (lo := 0) (hi := 100) (by decide) (by decide) with ⟨m, h1, hm, rfl, d1, d2, d3, d4, d5, d6, e⟩ | ⟨hx, e⟩
  · rw [e, bd_s, if_neg n10, if_neg (show ¬ nI m < 0 from d1), if_neg (show ¬ (100 : Int32) < nI m from d2)]
    -- the nights passed on both sides
    obtain ⟨R1, y1, y2, y3⟩ := th_by (R := R)
    obtain ⟨K1, n1, z1, z2, z3, z4, n2, ht2, rfl⟩ := th_become h (K := K) (R := R1) (fun _ _ => rfl) y3
    obtain rfl : n = n2 := by
      have e1 := ht.2.s0.symm.trans ht2.2.s0
      have := ht2.2.n12
      rw [jn_eq (by omega) (by omega)] at e1
      exact e1
    obtain ⟨K2, R2, n2, c2, r2, nm2⟩ := nm_nights (q := 35) (by omega) (m := m) (by omega) m 0 K1 R1 n (by omega) z3 z4 FU FU (by omega) (by omega)
    have c2' : C_X6_passNights 35 (nI m) K1 = some K2 := c2
    have r2' : C_X9_goesOnMany (nI m) R1 = some R2 := r2
    have ts := nm2.1
    have tk := z2.fk nm2.2.2.1
    have tq := y2.fr nm2.2.2.2.1
    have n12 := ts.2.n12
    have hnn := nm2.2.1
    -- the three counts
    have cnt : ∀ j, j < 3 → ∃ v R3, F_X8_behind_35 (nI m) (nI j) K = some (v, K2) ∧ F_X9_behind_34 (nI m) (nI j) R = some (v, R3) ∧ Rel K2 R3 := by
      intro j hj
      obtain ⟨R3, b1, b2, b3⟩ := th_back tq
      have hrel := th_rel h tk b2 b3
      have hwa := ts.1.wa
      have hrn := ts.1.rn
      have hme := ts.1.me
      unfold F_X8_behind_35 F_X9_behind_34
      obtain rfl | rfl | rfl : j = 0 ∨ j = 1 ∨ j = 2 := by omega
      · simp (disch := omega) only [nm_eq, gd_t, bd_s, bd2_s, lit, jn_add, pk_mul, inb_t, tn_nI, jn_lt, jn_le, jn_eq, Nat.reduceEqDiff, Nat.reduceLT, Nat.reduceLeDiff, Nat.not_lt_zero, Nat.zero_le, Nat.one_ne_zero, if_true, if_false, z1, c2', y1, r2', b1, hwa]
        exact ⟨_, _, rfl, rfl, hrel⟩
      · simp (disch := omega) only [nm_eq, gd_t, bd_s, bd2_s, lit, jn_add, pk_mul, inb_t, tn_nI, jn_lt, jn_le, jn_eq, Nat.reduceEqDiff, Nat.reduceLT, Nat.reduceLeDiff, Nat.not_lt_zero, Nat.zero_le, Nat.one_ne_zero, if_true, if_false, z1, c2', y1, r2', b1, hrn]
        exact ⟨_, _, rfl, rfl, hrel⟩
      · simp (disch := omega) only [nm_eq, gd_t, bd_s, bd2_s, lit, jn_add, pk_mul, inb_t, tn_nI, jn_lt, jn_le, jn_eq, Nat.reduceEqDiff, Nat.reduceLT, Nat.reduceLeDiff, Nat.not_lt_zero, Nat.zero_le, Nat.one_ne_zero, if_true, if_false, z1, c2', y1, r2', b1, hme]
        exact ⟨_, _, rfl, rfl, hrel⟩
    have held : ∃ v R3, F_X8_behind_35 (nI m) (nI 3) K = some (v, K2) ∧ F_X9_behind_34 (nI m) (nI 3) R = some (v, R3) ∧ Rel K2 R3 := by
      obtain ⟨R3, r3, hr3⟩ := e_holds ts.2
      obtain ⟨R4, b1, b2, b3⟩ := th_back (tq.hr hr3)
      unfold F_X8_behind_35 F_X9_behind_34
      simp (disch := omega) only [nm_eq, gd_t, bd_s, bd2_s, lit, jn_add, pk_mul, inb_t, tn_nI, jn_lt, jn_le, jn_eq, Nat.reduceEqDiff, Nat.reduceLT, Nat.reduceLeDiff, Nat.not_lt_zero, Nat.zero_le, Nat.one_ne_zero, if_true, if_false, z1, c2', y1, r2', e_held ts, r3, b1]
      exact ⟨_, _, rfl, rfl, th_rel h tk b2 b3⟩
    by_cases q0 : b < 0
    · rw [if_pos q0, if_pos q0]
      exact ⟨_, _, _, rfl, rfl, h⟩
    · rw [if_neg q0, if_neg q0]
      rcases btw_e b (lo := 0) (hi := 3) (by decide) (by decide) with ⟨j, _, hj, rfl, f1, f2, f3, f4, f5, f6, f⟩ | ⟨hy, f⟩
      · rw [if_pos (show nI j < 4 from f6), if_pos (show nI j ≤ 3 from f5)]
        by_cases q3 : j = 3
        · subst q3
          obtain ⟨v, R3, a1, a2, a3⟩ := held
          exact ⟨v, K2, R3, a1, a2, a3⟩
        · obtain ⟨v, R3, a1, a2, a3⟩ := cnt j (by omega)
          exact ⟨v, K2, R3, a1, a2, a3⟩
      · have hy2 : ¬ b < nI 0 := q0
        rcases hy with hy | ⟨_, hy3, hy4⟩
        · exact absurd hy hy2
        · rw [if_neg (show ¬ b < 4 from Int32.not_lt.mpr hy4), if_neg (show ¬ b ≤ 3 from Int32.not_le.mpr hy3)]
          rcases course_e ht (b - 4) with ⟨i, hi, ei, e1, e2⟩ | ⟨e1, e2⟩
          · have ne : ∀ j, j ≤ 3 → ¬ b = nI j := by
              rintro j hj rfl
              exact jnlt hj (by omega) hy3
            obtain ⟨R3, r3, hr3⟩ := e_holdingR ts.2 (a := i) (by omega)
            obtain ⟨R4, b1, b2, b3⟩ := th_back (tq.hr hr3)
            have hb3 : (3 : Int32) ≤ b := Int32.le_of_lt hy3
            unfold F_X8_behind_35 F_X9_behind_34
            rw [e1, e2, bd_s, bd_s, if_neg n10, if_neg n10, z1, bd_s, c2', bd_s, if_neg (show ¬ b = 0 from ne 0 (by omega)), if_neg (show ¬ b = 1 from ne 1 (by omega)), if_neg (show ¬ b = 2 from ne 2 (by omega)), if_neg (show ¬ b = 3 from ne 3 (by omega)), ei, e_holding ts (a := i) (by omega), bd_s, y1, bd_s, r2', bd_s, if_pos hb3, if_neg (show ¬ b = 3 from ne 3 (by omega)), r3, bd2_s, b1, bd_s]
            exact ⟨_, _, _, rfl, rfl, th_rel h tk b2 b3⟩
          · rw [e1, e2, bd_s, bd_s, if_pos z00, if_pos z00]
            exact ⟨_, _, _, rfl, rfl, h⟩
  · rw [e, bd_s, if_pos z00]
    rcases hx with hx | ⟨hx1, hx2, hx3⟩
    · rw [if_pos (show a < 0 from hx)]
      exact ⟨_, _, _, rfl, rfl, h⟩
    · rw [if_neg (show ¬ a < 0 from hx1), if_pos (show (100 : Int32) < a from hx2)]
      exact ⟨_, _, _, rfl, rfl, h⟩
theorem TS.n_eq {K R : Mem} {q n m : Nat} (h : TS K q R n) (h2 : Inv (R 1) m) : n = m := by
  have h12 := h.2.n12
  have hm := h2.n12
  have e1 := h.2.s0.symm.trans h2.s0
  rw [jn_eq (by omega) (by omega)] at e1
  exact e1
theorem gone_loop {K0 R0 : Mem} (h0 : Rel K0 R0) {i c : Nat} (hc : c < 8) : ∀ (r j : Nat) (K R : Mem) (n : Nat), j + r = 201 → TS K 35 R n → XT K 35 (R 1) → i < n → TK K0 K → TQ R0 R → ∀ f1 f2, r < f1 → r < f2 → ∃ v K' R', L_X8_gone_25 f1 (nI i) (nI c) (nI j) K = some (v, K') ∧ L_X9_gone_21 f2 (nI i) (nI c) (nI j) R = some (v, R') ∧ Rel K' R'
  | 0, j, K, R, n, hj, ht, hX, hi, hK, hR, f1, f2, hf1, hf2 => by
    obtain ⟨g1, rfl⟩ : ∃ g, f1 = g + 1 := ⟨f1 - 1, by omega⟩
    obtain ⟨g2, rfl⟩ : ∃ g, f2 = g + 1 := ⟨f2 - 1, by omega⟩
    obtain ⟨R', b1, b2, b3⟩ := th_back hR
    have hlt : (200 : Int32) < nI j := jlt (a := 200) (by omega) (by omega)
    refine ⟨_, K, R', if_pos hlt, ?_, th_rel h0 hK b2 b3⟩
    refine (if_pos hlt).trans ?_
    rw [b1, bd_s, if_pos hlt]
  | r + 1, j, K, R, n, hj, ht, hX, hi, hK, hR, f1, f2, hf1, hf2 => by
    obtain ⟨g1, rfl⟩ : ∃ g, f1 = g + 1 := ⟨f1 - 1, by omega⟩
    obtain ⟨g2, rfl⟩ : ∃ g, f2 = g + 1 := ⟨f2 - 1, by omega⟩
    have h12 := ht.2.n12
    have hlt : ¬ (200 : Int32) < nI j := jnlt (b := j) (a := 200) (by omega) (by omega)
    have hh := e_holding ht hi
    obtain ⟨R1, r1, hr1⟩ := e_holdingR ht.2 hi
    have hl := hs_lt (k := kf (R 1)) (l := lf (R 1)) (n := n) (fun i hi => (ht.2.kf hi).1) (i + 1) (by omega)
    generalize hs (kf (R 1)) (lf (R 1)) (i + 1) = s at hh r1 hl
    have hq := hR.hr hr1
    have e11 : R1 1 = R 1 := hr1.1 1 (by decide)
    cases hb : s.testBit c
    · obtain ⟨R', b1, b2, b3⟩ := th_back hq
      refine ⟨nI j, K, R', ?_, ?_, th_rel h0 hK b2 b3⟩
      · refine (if_neg hlt).trans ?_
        rw [hh, bd_s, show (1 : Int32) = nI 1 from rfl, e_shrand hl hc, hb, if_neg Bool.false_ne_true, if_pos z00]
      · refine (if_neg hlt).trans ?_
        rw [r1, bd2_s, e_among hl hc, hb, if_neg Bool.false_ne_true, bd_s, if_pos z00, b1, bd_s, if_neg hlt]
    · have ht1 : TS K 35 R1 n := ⟨by rw [e11]; exact ht.1, by rw [e11]; exact ht.2⟩
      obtain ⟨K2, R2, n2, c2, r2, x2⟩ := nx_night (q := 35) (by omega) ht1 (by rw [e11]; exact hX)
      obtain ⟨v, K', R', v1, v2, v3⟩ := gone_loop h0 (i := i) hc r (j + 1) K2 R2 n2 (by omega) x2.1 ((show XT K 35 (R1 1) by rw [e11]; exact hX).fr (by omega) x2.2.2.1 x2.2.2.2.1) (by have := x2.2.1; omega) (hK.fk x2.2.2.1) (hq.fr x2.2.2.2.1) g1 g2 (by omega) (by omega)
      refine ⟨v, K', R', ?_, ?_, v3⟩
      · refine (if_neg hlt).trans ?_
        rw [hh, bd_s, show (1 : Int32) = nI 1 from rfl, e_shrand hl hc, hb, if_pos rfl, if_neg n10, c2, bd_s, nm_eq, jn_add]
        exact v1
      · refine (if_neg hlt).trans ?_
        rw [r1, bd2_s, e_among hl hc, hb, if_pos rfl, bd_s, if_neg n10, r2, bd_s, nm_eq, show (1 : Int32) = nI 1 from rfl, jn_add]
        exact v2
theorem s_gone : Sim2 Rel A8_gone A9_gone := by
  intro a b K R h
  have hF := FU_big
  obtain ⟨n, ht⟩ := h.now
  have h12 := ht.2.n12
  unfold A8_gone A9_gone C_X8_gone F_X8_gone_0 C_X9_gone F_X9_gone_0
  rcases loop_e ht a b with ⟨i, c, hi, hc, rfl, rfl, e1, e2, e3⟩ | ⟨e1, x, e2, e3⟩
  · obtain ⟨R1, y1, y2, y3⟩ := th_by (R := R)
    obtain ⟨K1, n1, z1, z2, z3, z4, n2, ht2, rfl⟩ := th_become h (K := K) (R := R1) (fun _ _ => rfl) y3
    obtain rfl := ht2.n_eq ht.2
    obtain ⟨v, K', R', v1, v2, v3⟩ := gone_loop h (i := i) hc 201 0 K1 R1 n2 (by omega) z3 z4 hi z2 y2 FU FU (by omega) (by omega)
    rw [e1, e2, bd_s, bd_s, e3, bd_s, if_neg n10, if_neg n10, z1, bd_s, y1, bd_s]
    exact ⟨v, K', R', v1, v2, v3⟩
  · rw [e1, e2, bd_s, bd_s, e3, bd_s, if_pos z00, if_pos z00]
    exact ⟨_, _, _, rfl, rfl, h⟩
