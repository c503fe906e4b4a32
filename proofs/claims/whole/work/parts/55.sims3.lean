theorem nights_loop {a : Nat} {v0 : Int32} (ha : a ≤ 100) : ∀ (r i : Nat) (K R : Mem) (n m : Nat), i + r = a → Rel K R → TS K 21 R n → R 1 2 = nI m → m ≤ 9999 → ∀ f, r < f → ∃ K' R' n', L_X8_nights_24 f (nI a) v0 (nI i) K = some (R' 1 7 - v0, K') ∧ (∀ x g, x = min r (9999 - m) → x < g → ∀ y z, z + x = y → y ≤ 9999 → L_X9_goesOnMany_2 g (nI y) (nI z) R = some R') ∧ Rel K' R' ∧ TS K' 21 R' n'
  | 0, i, K, R, n, m, hi, h, ht, h2, hm, f, hf => by
    obtain ⟨g1, rfl⟩ : ∃ g, f = g + 1 := ⟨f - 1, by omega⟩
    refine ⟨K, R, n, ?_, fun x g hx hg y z hy hy9 => ?_, h, ht⟩
    · show F_X8_nights_24 _ _ _ _ _ = _
      unfold F_X8_nights_24
      rw [if_pos (jle (by omega) (by omega)), ht.1.rn]
    · obtain ⟨g2, rfl⟩ : ∃ g', g = g' + 1 := ⟨g - 1, by omega⟩
      exact if_pos (jle (by omega) (by omega))
  | r + 1, i, K, R, n, m, hi, h, ht, h2, hm, f, hf => by
    obtain ⟨g1, rfl⟩ : ∃ g, f = g + 1 := ⟨f - 1, by omega⟩
    have hlt : ¬ nI a ≤ nI i := jnle (by omega) (by omega)
    have hni : K 21 11 = nI m := ht.1.ni.trans h2
    by_cases q : m = 9999
    · refine ⟨K, R, n, ?_, fun x g hx hg y z hy hy9 => ?_, h, ht⟩
      · show F_X8_nights_24 _ _ _ _ _ = _
        unfold F_X8_nights_24
        rw [if_neg hlt, hni, if_pos (show (9999 : Int32) ≤ nI m from jle (a := 9999) (by omega) (by omega)), ht.1.rn]
      · obtain ⟨g2, rfl⟩ : ∃ g', g = g' + 1 := ⟨g - 1, by omega⟩
        exact if_pos (jle (by omega) (by omega))
    · obtain ⟨K1, R1, n1, c1, r1, x1⟩ := nx_night (by omega) ht h.xt
      have e2 : R1 1 2 = nI (m + 1) := by rw [x1.2.2.2.2, h2, jn_add]
      have hrel : Rel K1 R1 := h.town x1.1 ⟨m + 1, by omega, e2⟩ x1.2.2.1.gk x1.2.2.2.1.gr
      obtain ⟨K', R', n', c, rr, hr, ht'⟩ := nights_loop (v0 := v0) ha r (i + 1) K1 R1 n1 (m + 1) (by omega) hrel x1.1 e2 (by omega) g1 (by omega)
      refine ⟨K', R', n', ?_, fun x g hx hg y z hy hy9 => ?_, hr, ht'⟩
      · show F_X8_nights_24 _ _ _ _ _ = _
        unfold F_X8_nights_24
        rw [if_neg hlt, hni, if_neg (show ¬ (9999 : Int32) ≤ nI m from jnle (a := 9999) (by omega) (by omega)), c1, bd_s, nm_eq, show (1 : Int32) = nI 1 from rfl, jn_add]
        exact c
      · obtain ⟨g2, rfl⟩ : ∃ g', g = g' + 1 := ⟨g - 1, by omega⟩
        refine (if_neg (jnle (by omega) (by omega))).trans ?_
        rw [r1, bd_s, nm_eq, show (1 : Int32) = nI 1 from rfl, jn_add]
        exact rr (x - 1) g2 (by omega) (by omega) y (z + 1) (by omega) hy9
theorem s_nights : Sim1 Rel A8_nights A9_nights := by
  intro a K R h
  have hF := FU_big
  obtain ⟨n, ht⟩ := h.now
  obtain ⟨m, hm, h2⟩ := h.nights
  unfold A8_nights A9_nights C_X8_nights F_X8_nights_0 C_X9_nights F_X9_nights_0 C_X9_goesOnMany F_X9_goesOnMany_0
  rw [wide_lit 1 (by decide), wide_lit 100 (by decide)]
  rcases btw_e a (lo := 1) (hi := 100) (by decide) (by decide) with ⟨i, h1, hi2, rfl, d1, d2, d3, d4, d5, d6, e⟩ | ⟨hx, e⟩
  · obtain ⟨K', R', n', c, rr, hr, ht'⟩ := nights_loop (v0 := R 1 7) hi2 i 0 K R n m (by omega) h ht h2 hm FU (by omega)
    have hrn : K 21 9 = R 1 7 := ht.1.rn
    rw [e, bd_s, if_neg n10, if_neg (show ¬ nI i < 1 from d1), if_pos (show nI i ≤ 100 from d5), hrn, nm_eq, show (0 : Int32) = nI 0 from rfl, c, show inb 7 3058 = true from by decide, gd_t, show Int32.toNatClampNeg 7 = 7 from by decide, nm_eq, show inb 2 3058 = true from by decide, gd_t, show Int32.toNatClampNeg 2 = 2 from by decide, h2, show (9999 : Int32) = nI 9999 from rfl, jn_sub hm, nm_eq]
    by_cases q : 9999 - m ≤ i
    · rw [if_pos (jle q (by omega)), rr (9999 - m) FU (by omega) (by omega) (9999 - m) 0 (by omega) (by omega), bd_s, gd_t]
      exact ⟨_, _, _, rfl, rfl, hr⟩
    · rw [if_neg (jnle (by omega) (by omega)), rr i FU (by omega) (by omega) i 0 (by omega) (by omega), bd_s, gd_t]
      exact ⟨_, _, _, rfl, rfl, hr⟩
  · rw [e, bd_s, if_pos z00]
    rcases hx with hx | ⟨hx1, hx2, hx3⟩
    · rw [if_pos (show a < 1 from hx)]
      exact ⟨_, _, _, rfl, rfl, h⟩
    · rw [if_neg (show ¬ a < 1 from hx1), if_neg (show ¬ a ≤ 100 from Int32.not_le.mpr hx2)]
      exact ⟨_, _, _, rfl, rfl, h⟩
/-! the lost loops of all -/
def lostN (l : Nat → Nat) : Nat → Nat
  | 0 => 0
  | i + 1 => lostN l i + pc (l i)
section LOSTALL
variable {K R : Mem} {q n : Nat}
theorem lostLoops_loop (h : TS K q R n) : ∀ (r i : Nat), i + r = n → ∀ f, r < f → L_X6_lostLoops_4 q K f (nI (lostN (lf (R 1)) i)) (nI i) = some (nI (lostN (lf (R 1)) n))
  | 0, i, hi, f, hf => by
    obtain ⟨g, rfl⟩ : ∃ g, f = g + 1 := ⟨f - 1, by omega⟩
    have h12 := h.2.n12
    obtain rfl : i = n := by omega
    refine if_pos ?_
    rw [h.1.nn, h.2.s0]
    exact jle (Nat.le_refl _) (by omega)
  | r + 1, i, hi, f, hf => by
    obtain ⟨g, rfl⟩ : ∃ g, f = g + 1 := ⟨f - 1, by omega⟩
    have h12 := h.2.n12
    obtain ⟨l1, l2⟩ := h.2.lf (c := i) (by omega)
    have eL : K (q + 4) i = nI (lf (R 1) i) := (h.1.lo (by omega)).trans l2
    refine (if_neg ?_).trans ?_
    · rw [h.1.nn, h.2.s0]
      exact jnle (by omega) (by omega)
    · rw [inb_t (by omega) (by omega), gd_t, tn_nI (by omega), eL, e_bitCount l1, bd_s, nm_eq, nm_eq, jn_add, show (1 : Int32) = nI 1 from rfl, jn_add]
      exact lostLoops_loop h r (i + 1) (by omega) g (by omega)
theorem e_lostLoops (h : TS K q R n) : C_X6_lostLoops q K = some (nI (lostN (lf (R 1)) n)) := by
  have hF := FU_big
  have h12 := h.2.n12
  exact lostLoops_loop h n 0 (by omega) FU (by omega)
theorem lostOfAll_loop (h : Inv (R 1) n) : ∀ (r i : Nat), i + r = n → ∀ f, r < f → L_X9_lostOfAll_4 R f (nI (lostN (lf (R 1)) i)) (nI i) = some (nI (lostN (lf (R 1)) n))
  | 0, i, hi, f, hf => by
    obtain ⟨g, rfl⟩ : ∃ g, f = g + 1 := ⟨f - 1, by omega⟩
    have h12 := h.n12
    obtain rfl : i = n := by omega
    show F_X9_lostOfAll_4 _ _ _ _ = _
    unfold F_X9_lostOfAll_4
    simp (disch := omega) only [nm_eq, gd_t, bd_s, bd2_s, lit, jn_add, pk_mul, inb_t, tn_nI, jn_lt, jn_le, jn_eq, Nat.reduceEqDiff, Nat.reduceLT, Nat.reduceLeDiff, Nat.not_lt_zero, Nat.zero_le, Nat.one_ne_zero, if_true, if_false, h.s0, Nat.le_refl]
  | r + 1, i, hi, f, hf => by
    obtain ⟨g, rfl⟩ : ∃ g, f = g + 1 := ⟨f - 1, by omega⟩
    have h12 := h.n12
    obtain ⟨l1, l2⟩ := h.lf (c := i) (by omega)
    have o : C_X9_of R (nI i) (nI 3) = some (nI (lf (R 1) i)) := by rw [e_of (by omega), show 10 + 4 * i + 3 = 13 + 4 * i by omega, l2]
    have e : ¬ n ≤ i := by omega
    show F_X9_lostOfAll_4 _ _ _ _ = _
    unfold F_X9_lostOfAll_4
    simp (disch := omega) only [nm_eq, gd_t, bd_s, bd2_s, lit, jn_add, pk_mul, inb_t, tn_nI, jn_lt, jn_le, jn_eq, Nat.reduceEqDiff, Nat.reduceLT, Nat.reduceLeDiff, Nat.not_lt_zero, Nat.zero_le, Nat.one_ne_zero, if_true, if_false, h.s0, e, o, e_bits l1]
    exact lostOfAll_loop h r (i + 1) (by omega) g (by omega)
theorem e_lostOfAll (h : Inv (R 1) n) : C_X9_lostOfAll R = some (nI (lostN (lf (R 1)) n)) := by
  have hF := FU_big
  have h12 := h.n12
  exact lostOfAll_loop h n 0 (by omega) FU (by omega)
end LOSTALL
theorem s_town : Sim1 Rel A8_town A9_town := by
  intro a K R h
  obtain ⟨n, ht⟩ := h.now
  have h12 := ht.2.n12
  unfold A8_town A9_town C_X8_town F_X8_town_0 C_X9_town F_X9_town_0
  rw [wide_lit 0 (by decide), wide_lit 4 (by decide)]
  rcases btw_e a (lo := 0) (hi := 4) (by decide) (by decide) with ⟨j, h1, h2, rfl, d1, d2, d3, d4, d5, d6, e⟩ | ⟨hx, e⟩
  · obtain rfl | rfl | rfl | rfl | rfl : j = 0 ∨ j = 1 ∨ j = 2 ∨ j = 3 ∨ j = 4 := by omega
    · have e1 := ht.1.wa
      simp (disch := omega) only [nm_eq, gd_t, bd_s, bd2_s, lit, jn_add, pk_mul, inb_t, tn_nI, jn_lt, jn_le, jn_eq, Nat.reduceEqDiff, Nat.reduceLT, Nat.reduceLeDiff, Nat.not_lt_zero, Nat.zero_le, Nat.one_ne_zero, if_true, if_false, e, e1, Option.map_some]
      exact ⟨_, _, _, rfl, rfl, h⟩
    · have e1 := ht.1.rn
      simp (disch := omega) only [nm_eq, gd_t, bd_s, bd2_s, lit, jn_add, pk_mul, inb_t, tn_nI, jn_lt, jn_le, jn_eq, Nat.reduceEqDiff, Nat.reduceLT, Nat.reduceLeDiff, Nat.not_lt_zero, Nat.zero_le, Nat.one_ne_zero, if_true, if_false, e, e1, Option.map_some]
      exact ⟨_, _, _, rfl, rfl, h⟩
    · have e1 := ht.1.me
      simp (disch := omega) only [nm_eq, gd_t, bd_s, bd2_s, lit, jn_add, pk_mul, inb_t, tn_nI, jn_lt, jn_le, jn_eq, Nat.reduceEqDiff, Nat.reduceLT, Nat.reduceLeDiff, Nat.not_lt_zero, Nat.zero_le, Nat.one_ne_zero, if_true, if_false, e, e1, Option.map_some]
      exact ⟨_, _, _, rfl, rfl, h⟩
    · obtain ⟨R1, r1, hr1⟩ := e_holds ht.2
      simp (disch := omega) only [nm_eq, gd_t, bd_s, bd2_s, lit, jn_add, pk_mul, inb_t, tn_nI, jn_lt, jn_le, jn_eq, Nat.reduceEqDiff, Nat.reduceLT, Nat.reduceLeDiff, Nat.not_lt_zero, Nat.zero_le, Nat.one_ne_zero, if_true, if_false, e, e_held ht, r1, Option.map_some]
      exact ⟨_, _, _, rfl, rfl, h.hr hr1⟩
    · simp (disch := omega) only [nm_eq, gd_t, bd_s, bd2_s, lit, jn_add, pk_mul, inb_t, tn_nI, jn_lt, jn_le, jn_eq, Nat.reduceEqDiff, Nat.reduceLT, Nat.reduceLeDiff, Nat.not_lt_zero, Nat.zero_le, Nat.one_ne_zero, if_true, if_false, e, e_lostLoops ht, e_lostOfAll ht.2, Option.map_some]
      exact ⟨_, _, _, rfl, rfl, h⟩
  · have ne : ∀ j, j ≤ 4 → ¬ a = nI j := by
      rintro j hj rfl
      rcases hx with hx | ⟨-, hx, -⟩
      · exact jnlt (Nat.zero_le _) (by omega) hx
      · exact jnlt hj (by omega) hx
    rw [e, bd_s, if_pos z00, if_neg (show ¬ a = 0 from ne 0 (by omega)), if_neg (show ¬ a = 1 from ne 1 (by omega)), if_neg (show ¬ a = 2 from ne 2 (by omega)), if_neg (show ¬ a = 3 from ne 3 (by omega)), if_neg (show ¬ a = 4 from ne 4 (by omega))]
    exact ⟨_, _, _, rfl, rfl, h⟩
theorem s_count : Sim1 Rel A8_count A9_count := by
  intro a K R h
  obtain ⟨n, ht⟩ := h.now
  obtain ⟨w, w1, w2, w3, -⟩ := h.waiting
  obtain ⟨l, l1, l2, l3, -⟩ := h.tape
  obtain ⟨tn, x1, x2, x3, -⟩ := h.xt
  have hn := ht.1.nn
  have hni := ht.1.ni
  have hz := ht.1.zz
  have r0 := ht.1.ru (i := 0) (by omega)
  have r1 := ht.1.ru (i := 1) (by omega)
  have r2 := ht.1.ru (i := 2) (by omega)
  unfold A8_count A9_count C_X8_count F_X8_count_0 C_X9_count F_X9_count_0
  by_cases q0 : a = nI 0
  · subst q0
    simp (disch := omega) only [nm_eq, gd_t, bd_s, bd2_s, lit, jn_add, pk_mul, inb_t, tn_nI, jn_lt, jn_le, jn_eq, Nat.reduceEqDiff, Nat.reduceLT, Nat.reduceLeDiff, Nat.not_lt_zero, Nat.zero_le, Nat.one_ne_zero, if_true, if_false, Option.map_some, hn]
    exact ⟨_, _, _, rfl, rfl, h⟩
  by_cases q1 : a = nI 1
  · subst q1
    simp (disch := omega) only [nm_eq, gd_t, bd_s, bd2_s, lit, jn_add, pk_mul, inb_t, tn_nI, jn_lt, jn_le, jn_eq, Nat.reduceEqDiff, Nat.reduceLT, Nat.reduceLeDiff, Nat.not_lt_zero, Nat.zero_le, Nat.one_ne_zero, if_true, if_false, Option.map_some, hni]
    exact ⟨_, _, _, rfl, rfl, h⟩
  by_cases q2 : a = nI 2
  · subst q2
    have e : nI 2 - nI 2 = nI 0 := by decide
    simp (disch := omega) only [nm_eq, gd_t, bd_s, bd2_s, lit, jn_add, pk_mul, inb_t, tn_nI, jn_lt, jn_le, jn_eq, Nat.reduceEqDiff, Nat.reduceLT, Nat.reduceLeDiff, Nat.not_lt_zero, Nat.zero_le, Nat.one_ne_zero, if_true, if_false, Option.map_some, e, r0]
    exact ⟨_, _, _, rfl, rfl, h⟩
  by_cases q3 : a = nI 3
  · subst q3
    have e : nI 3 - nI 2 = nI 1 := by decide
    simp (disch := omega) only [nm_eq, gd_t, bd_s, bd2_s, lit, jn_add, pk_mul, inb_t, tn_nI, jn_lt, jn_le, jn_eq, Nat.reduceEqDiff, Nat.reduceLT, Nat.reduceLeDiff, Nat.not_lt_zero, Nat.zero_le, Nat.one_ne_zero, if_true, if_false, Option.map_some, e, r1]
    exact ⟨_, _, _, rfl, rfl, h⟩
  by_cases q4 : a = nI 4
  · subst q4
    have e : nI 4 - nI 2 = nI 2 := by decide
    simp (disch := omega) only [nm_eq, gd_t, bd_s, bd2_s, lit, jn_add, pk_mul, inb_t, tn_nI, jn_lt, jn_le, jn_eq, Nat.reduceEqDiff, Nat.reduceLT, Nat.reduceLeDiff, Nat.not_lt_zero, Nat.zero_le, Nat.one_ne_zero, if_true, if_false, Option.map_some, e, r2]
    exact ⟨_, _, _, rfl, rfl, h⟩
  by_cases q5 : a = nI 5
  · subst q5
    simp (disch := omega) only [nm_eq, gd_t, bd_s, bd2_s, lit, jn_add, pk_mul, inb_t, tn_nI, jn_lt, jn_le, jn_eq, Nat.reduceEqDiff, Nat.reduceLT, Nat.reduceLeDiff, Nat.not_lt_zero, Nat.zero_le, Nat.one_ne_zero, if_true, if_false, Option.map_some, x2, x3]
    exact ⟨_, _, _, rfl, rfl, h⟩
  by_cases q6 : a = nI 6
  · subst q6
    simp (disch := omega) only [nm_eq, gd_t, bd_s, bd2_s, lit, jn_add, pk_mul, inb_t, tn_nI, jn_lt, jn_le, jn_eq, Nat.reduceEqDiff, Nat.reduceLT, Nat.reduceLeDiff, Nat.not_lt_zero, Nat.zero_le, Nat.one_ne_zero, if_true, if_false, Option.map_some, w2, w3]
    exact ⟨_, _, _, rfl, rfl, h⟩
  by_cases q7 : a = nI 7
  · subst q7
    simp (disch := omega) only [nm_eq, gd_t, bd_s, bd2_s, lit, jn_add, pk_mul, inb_t, tn_nI, jn_lt, jn_le, jn_eq, Nat.reduceEqDiff, Nat.reduceLT, Nat.reduceLeDiff, Nat.not_lt_zero, Nat.zero_le, Nat.one_ne_zero, if_true, if_false, Option.map_some, l2, l3]
    exact ⟨_, _, _, rfl, rfl, h⟩
  by_cases q8 : a = nI 8
  · subst q8
    simp (disch := omega) only [nm_eq, gd_t, bd_s, bd2_s, lit, jn_add, pk_mul, inb_t, tn_nI, jn_lt, jn_le, jn_eq, Nat.reduceEqDiff, Nat.reduceLT, Nat.reduceLeDiff, Nat.not_lt_zero, Nat.zero_le, Nat.one_ne_zero, if_true, if_false, Option.map_some, hz]
    exact ⟨_, _, _, rfl, rfl, h⟩
  rw [if_neg (show ¬ a = 0 from q0), if_neg (show ¬ a = 1 from q1), if_neg (show ¬ a = 2 from q2), if_neg (show ¬ a = 3 from q3), if_neg (show ¬ a = 4 from q4), if_neg (show ¬ a = 5 from q5), if_neg (show ¬ a = 6 from q6), if_neg (show ¬ a = 7 from q7), if_neg (show ¬ a = 8 from q8), if_neg (show ¬ a = 0 from q0), if_neg (show ¬ a = 1 from q1), if_neg (show ¬ a = 2 from q2), if_neg (show ¬ a = 3 from q3), if_neg (show ¬ a = 4 from q4), if_neg (show ¬ a = 5 from q5), if_neg (show ¬ a = 6 from q6), if_neg (show ¬ a = 7 from q7), if_neg (show ¬ a = 8 from q8)]
  exact ⟨_, _, _, rfl, rfl, h⟩
