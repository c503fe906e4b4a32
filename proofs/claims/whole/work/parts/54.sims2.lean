theorem Rel.same {K R : Mem} (h : Rel K R) {n n' : Nat} {K' R' : Mem} (ht : TS K' 21 R' n') (hK : FK 21 K K') (hR : FR R R') (h2 : R' 1 2 = R 1 2) : Rel K' R' := h.town ht (by rw [h2]; exact h.nights) hK.gk hR.gr
theorem s_set : Sim3 Rel A8_set A9_set := by
  intro a b c K R h
  obtain ⟨n, ht⟩ := h.now
  have h12 := ht.2.n12
  unfold A8_set A9_set C_X8_set F_X8_set_0 F_X8_set_50 C_X9_set F_X9_set_0 F_X9_set_55 C_X9_changes F_X9_changes_0
  rw [wide_lit 2 (by decide), wide_lit 99 (by decide), wide_lit 0 (by decide)]
  rcases course_e ht a with ⟨i, hi, rfl, e1, e2⟩ | ⟨e1, e2⟩
  · have hg := ht.1.ga (c := i) (by omega)
    have hw := ht.1.we (c := i) (by omega)
    rcases btw_e b (lo := 1) (hi := 2) (by decide) (by decide) with ⟨j, h1, h2, rfl, d1, d2, d3, d4, d5, d6, e⟩ | ⟨hx, e⟩
    · have e' : C_X9_isIn (nI j).toInt64 1 (nI 2).toInt64 = some (nI 1) := by
        rw [wide_lit 1 (by decide)]
        exact e
      obtain rfl | rfl : j = 1 ∨ j = 2 := by omega
      · rcases gauge_e c with ⟨g, hg1, hg9, rfl, f1, f2⟩ | ⟨f1, f2⟩
        · have ix1 : 10 + 4 * i + 1 = 11 + 4 * i := by omega
          simp (disch := omega) only [nm_eq, gd_t, bd_s, bd2_s, lit, jn_add, pk_mul, inb_t, tn_nI, jn_lt, jn_le, jn_eq, Nat.reduceEqDiff, Nat.reduceLT, Nat.reduceLeDiff, Nat.not_lt_zero, Nat.zero_le, Nat.one_ne_zero, if_true, if_false, e1, e2, e', f1, f2, hg, ix1]
          exact ⟨_, _, _, rfl, rfl, h.same (n := n) (ht.s_ga (i := i) (by omega) (nI g)) (FK.up (q := 21) (by omega) (by omega) (fun e => by omega)) (FR.up (i := 11 + 4 * i) (by omega) (by omega)) (u_oth (by omega))⟩
        · simp (disch := omega) only [nm_eq, gd_t, bd_s, bd2_s, lit, jn_add, pk_mul, inb_t, tn_nI, jn_lt, jn_le, jn_eq, Nat.reduceEqDiff, Nat.reduceLT, Nat.reduceLeDiff, Nat.not_lt_zero, Nat.zero_le, Nat.one_ne_zero, if_true, if_false, e1, e2, e', f1, f2]
          exact ⟨_, _, _, rfl, rfl, h⟩
      · rcases btw_e c (lo := 0) (hi := 99) (by decide) (by decide) with ⟨w, w1, w2, rfl, g1, g2, g3, g4, g5, g6, f⟩ | ⟨hy, f⟩
        · have q1 : ¬ 99 < w := by omega
          have ix1 : 10 + 4 * i + 2 = 12 + 4 * i := by omega
          simp (disch := omega) only [nm_eq, gd_t, bd_s, bd2_s, lit, jn_add, pk_mul, inb_t, tn_nI, jn_lt, jn_le, jn_eq, Nat.reduceEqDiff, Nat.reduceLT, Nat.reduceLeDiff, Nat.not_lt_zero, Nat.zero_le, Nat.one_ne_zero, if_true, if_false, e1, e2, e', f, hw, q1, ix1]
          exact ⟨_, _, _, rfl, rfl, h.same (n := n) (ht.s_we (i := i) (by omega) w2) (FK.up (q := 21) (by omega) (by omega) (fun e => by omega)) (FR.up (i := 12 + 4 * i) (by omega) (by omega)) (u_oth (by omega))⟩
        · rcases hy with hy | ⟨hy1, hy2, hy3⟩
          · simp (disch := omega) only [nm_eq, gd_t, bd_s, bd2_s, lit, jn_add, pk_mul, inb_t, tn_nI, jn_lt, jn_le, jn_eq, Nat.reduceEqDiff, Nat.reduceLT, Nat.reduceLeDiff, Nat.not_lt_zero, Nat.zero_le, Nat.one_ne_zero, if_true, if_false, e1, e2, e', f, hy]
            exact ⟨_, _, _, rfl, rfl, h⟩
          · simp (disch := omega) only [nm_eq, gd_t, bd_s, bd2_s, lit, jn_add, pk_mul, inb_t, tn_nI, jn_lt, jn_le, jn_eq, Nat.reduceEqDiff, Nat.reduceLT, Nat.reduceLeDiff, Nat.not_lt_zero, Nat.zero_le, Nat.one_ne_zero, if_true, if_false, e1, e2, e', f, hy1, hy2]
            exact ⟨_, _, _, rfl, rfl, h⟩
    · have e' : C_X9_isIn b.toInt64 1 (nI 2).toInt64 = some (nI 0) := by
        rw [wide_lit 1 (by decide)]
        exact e
      have ne : ∀ j, 1 ≤ j → j ≤ 2 → ¬ b = nI j := by
        rintro j hj hj2 rfl
        rcases hx with hx | ⟨-, hx, -⟩
        · exact jnlt hj (by omega) hx
        · exact jnlt hj2 (by omega) hx
      rw [e1, e2, bd_s, bd_s, if_neg n10, if_neg n10, e', bd_s, if_pos z00, if_neg (show ¬ b = 1 from ne 1 (by omega) (by omega)), if_neg (show ¬ b = 2 from ne 2 (by omega) (by omega))]
      exact ⟨_, _, _, rfl, rfl, h⟩
  · rw [e1, e2, bd_s, bd_s, if_pos z00, if_pos z00]
    exact ⟨_, _, _, rfl, rfl, h⟩
section LOSE
variable {K R : Mem} {n : Nat}
theorem e_lost (h : Inv (R 1) n) {i c : Nat} (hi : i < n) (hc : c < 8) : C_X9_isLost R (nI i) (nI c) = some (if (lf (R 1) i).testBit c then nI 1 else nI 0) := by
  have h12 := h.n12
  obtain ⟨l1, l2⟩ := h.lf hi
  unfold C_X9_isLost F_X9_isLost_0
  rw [show (3 : Int32) = nI 3 from rfl, e_of (by omega), bd_s, show 10 + 4 * i + 3 = 13 + 4 * i by omega, l2, e_among l1 hc, bd_s]
  split <;> rfl
theorem e_toggle (h : Inv (R 1) n) {i c : Nat} (hi : i < n) (hc : c < 8) : C_X9_losesOrNot (nI i) (nI c) R = some (up R 1 (13 + 4 * i) (nI (lf (R 1) i ^^^ 2 ^ c))) := by
  have h12 := h.n12
  obtain ⟨l1, l2⟩ := h.lf hi
  unfold C_X9_losesOrNot F_X9_losesOrNot_0
  rw [show (3 : Int32) = nI 3 from rfl, e_of (by omega), bd_s, show 10 + 4 * i + 3 = 13 + 4 * i by omega, l2, show (1 : Int32) = nI 1 from rfl, e_shl1 hc, j_xor, e_sets _ (by omega), bd_s, show 10 + 4 * i + 3 = 13 + 4 * i by omega]
theorem e_and1 (h : TS K 21 R n) {i c : Nat} (hi : i < n) (hc : c < 8) : (K 25 i &&& nI (2 ^ c) = nI 0) ↔ (lf (R 1) i).testBit c = false := by
  have h12 := h.2.n12
  obtain ⟨l1, l2⟩ := h.2.lf hi
  rw [show K 25 i = nI (lf (R 1) i) from (h.1.lo (by omega)).trans l2]
  exact and_eq0 hc
theorem lfw_same {l : Nat → Nat} {a c : Nat} (h : (l a).testBit c = true) : lfw l a (2 ^ c) = l := by
  funext i
  unfold lfw
  split
  · rename_i e
    subst e
    apply Nat.eq_of_testBit_eq
    intro j
    rw [Nat.testBit_or, Nat.testBit_two_pow]
    by_cases e : c = j
    · subst e
      rw [h]
      rfl
    · simp [e]
  · rfl
theorem lf_up {R : Mem} {i l : Nat} (hl : l < 256) : ∀ j, lf (up R 1 (13 + 4 * i) (nI l) 1) j = if j = i then l else lf (R 1) j := by
  intro j
  unfold lf
  by_cases e : j = i
  · subst e
    rw [u_at, if_pos rfl, tn_nI (by omega)]
  · rw [u_oth (by omega), if_neg e]
theorem kf_up {R : Mem} {i : Nat} {v : Int32} : ∀ j, kf (up R 1 (13 + 4 * i) v 1) j = kf (R 1) j := by
  intro j
  unfold kf
  rw [u_oth (by omega)]
theorem e_held_lost (h : TS K 21 R n) {i c : Nat} (hi : i < n) (hc : c < 8) (hb : (lf (R 1) i).testBit c = false) : TS (up K 25 i (nI (lf (R 1) i ||| 2 ^ c))) 21 (up R 1 (13 + 4 * i) (nI (lf (R 1) i ||| 2 ^ c))) n ∧ tot (kf (up R 1 (13 + 4 * i) (nI (lf (R 1) i ||| 2 ^ c)) 1)) (lf (up R 1 (13 + 4 * i) (nI (lf (R 1) i ||| 2 ^ c)) 1)) n = tot (kf (R 1)) (lfw (lf (R 1)) i (2 ^ c)) n := by
  have h12 := h.2.n12
  obtain ⟨l1, l2⟩ := h.2.lf hi
  refine ⟨h.s_lo (i := i) (by omega) (or_pow_lt l1 hc), (tot_ext n (fun j hj => ⟨kf_up j, ?_⟩)).2⟩
  rw [lf_up (or_pow_lt l1 hc)]
  unfold lfw
  by_cases e : j = i
  · subst e
    rw [if_pos rfl]
  · rw [if_neg e, if_neg e]
end LOSE
theorem s_drops : Sim2 Rel A8_drops A9_drops := by
  intro a b K R h
  obtain ⟨n, ht⟩ := h.now
  have h12 := ht.2.n12
  unfold A8_drops A9_drops C_X8_drops F_X8_drops_0 C_X9_drops F_X9_drops_0
  rcases loop_e ht a b with ⟨i, c, hi, hc, rfl, rfl, e1, e2, e3⟩ | ⟨e1, x, e2, e3⟩
  · have ea := e_and1 ht hi hc
    have el := e_lost ht.2 hi hc
    cases hb : (lf (R 1) i).testBit c
    · rw [hb, if_neg Bool.false_ne_true] at el
      have ea2 := ea.mpr hb
      obtain ⟨R1, r1, hr1⟩ := e_holds ht.2
      have t1 : TS K 21 R1 n := by
        have e11 : R1 1 = R 1 := hr1.1 1 (by decide)
        exact ⟨by rw [e11]; exact ht.1, by rw [e11]; exact ht.2⟩
      have e11 : R1 1 = R 1 := hr1.1 1 (by decide)
      have tg := e_toggle t1.2 hi hc
      rw [e11, xor_or hb] at tg
      obtain ⟨t2, et⟩ := e_held_lost t1 hi hc (by rw [e11]; exact hb)
      rw [e11] at t2 et
      obtain ⟨R3, r3, hr3⟩ := e_holds t2.2
      have hh := e_held ht
      have hh2 := e_held t2
      rw [et] at r3 hh2
      have eK : K 25 i = nI (lf (R 1) i) := (ht.1.lo (by omega)).trans (ht.2.lf hi).2
      have eo : K 25 i ||| nI (2 ^ c) = nI (lf (R 1) i ||| 2 ^ c) := by rw [eK, j_or]
      simp (disch := omega) only [nm_eq, gd_t, bd_s, bd2_s, lit, jn_add, pk_mul, inb_t, tn_nI, jn_lt, jn_le, jn_eq, Nat.reduceEqDiff, Nat.reduceLT, Nat.reduceLeDiff, Nat.not_lt_zero, Nat.zero_le, Nat.one_ne_zero, if_true, if_false, e1, e2, e3, el, e_shl1 hc, ea2, hh, eo, hh2, r1, tg, r3]
      refine ⟨_, _, _, rfl, rfl, ?_⟩
      have hrel1 : Rel K R1 := h.hr hr1
      have hrel2 := hrel1.same (n := n) t2 (FK.up (q := 21) (by omega) (by omega) (fun e => by omega)) (FR.up (by omega) (by omega)) (u_oth (by omega))
      exact hrel2.hr hr3
    · rw [hb, if_pos rfl] at el
      have ea2 : ¬ (K 25 i &&& nI (2 ^ c) = nI 0) := fun e => by rw [ea.mp e] at hb; cases hb
      simp (disch := omega) only [nm_eq, gd_t, bd_s, bd2_s, lit, jn_add, pk_mul, inb_t, tn_nI, jn_lt, jn_le, jn_eq, Nat.reduceEqDiff, Nat.reduceLT, Nat.reduceLeDiff, Nat.not_lt_zero, Nat.zero_le, Nat.one_ne_zero, if_true, if_false, e1, e2, e3, el, e_shl1 hc, ea2]
      exact ⟨_, _, _, rfl, rfl, h⟩
  · rw [e1, e2, bd_s, bd_s, e3, bd_s, if_pos z00, if_pos z00]
    exact ⟨_, _, _, rfl, rfl, h⟩
theorem s_hooks : Sim2 Rel A8_hooks A9_hooks := by
  intro a b K R h
  obtain ⟨n, ht⟩ := h.now
  have h12 := ht.2.n12
  unfold A8_hooks A9_hooks C_X8_hooks F_X8_hooks_0 C_X9_hooks F_X9_hooks_0
  rcases loop_e ht a b with ⟨i, c, hi, hc, rfl, rfl, e1, e2, e3⟩ | ⟨e1, x, e2, e3⟩
  · have ea := e_and1 ht hi hc
    have el := e_lost ht.2 hi hc
    obtain ⟨l1, l2⟩ := ht.2.lf hi
    cases hb : (lf (R 1) i).testBit c
    · rw [hb, if_neg Bool.false_ne_true] at el
      have ea2 := ea.mpr hb
      simp (disch := omega) only [nm_eq, gd_t, bd_s, bd2_s, lit, jn_add, pk_mul, inb_t, tn_nI, jn_lt, jn_le, jn_eq, Nat.reduceEqDiff, Nat.reduceLT, Nat.reduceLeDiff, Nat.not_lt_zero, Nat.zero_le, Nat.one_ne_zero, if_true, if_false, e1, e2, e3, el, e_shl1 hc, ea2]
      exact ⟨_, _, _, rfl, rfl, h⟩
    · rw [hb, if_pos rfl] at el
      have ea2 : ¬ (K 25 i &&& nI (2 ^ c) = nI 0) := fun e => by rw [ea.mp e] at hb; cases hb
      obtain ⟨R1, r1, hr1⟩ := e_holds ht.2
      have e11 : R1 1 = R 1 := hr1.1 1 (by decide)
      have t1 : TS K 21 R1 n := ⟨by rw [e11]; exact ht.1, by rw [e11]; exact ht.2⟩
      have tg := e_toggle t1.2 hi hc
      rw [e11, xor_andn hb] at tg
      have t2 := t1.s_lo (i := i) (l := andn (lf (R 1) i) (2 ^ c)) (by omega) (andn_lt (n := 8) l1)
      obtain ⟨R3, r3, hr3⟩ := e_holds t2.2
      have hh := e_held ht
      have hh2 := e_held t2
      have eK : K 25 i = nI (lf (R 1) i) := (ht.1.lo (by omega)).trans l2
      have eo : K 25 i &&& (nI (2 ^ c) ^^^ -nI 1) = nI (andn (lf (R 1) i) (2 ^ c)) := by
        rw [eK]
        exact j_andn (by omega)
      simp (disch := omega) only [nm_eq, gd_t, bd_s, bd2_s, lit, jn_add, pk_mul, inb_t, tn_nI, jn_lt, jn_le, jn_eq, Nat.reduceEqDiff, Nat.reduceLT, Nat.reduceLeDiff, Nat.not_lt_zero, Nat.zero_le, Nat.one_ne_zero, if_true, if_false, e1, e2, e3, el, e_shl1 hc, ea2, hh, eo, hh2, r1, tg, r3]
      refine ⟨_, _, _, rfl, rfl, ?_⟩
      have hrel1 : Rel K R1 := h.hr hr1
      have hrel2 := hrel1.same (n := n) t2 (FK.up (q := 21) (by omega) (by omega) (fun e => by omega)) (FR.up (by omega) (by omega)) (u_oth (by omega))
      exact hrel2.hr hr3
  · rw [e1, e2, bd_s, bd_s, e3, bd_s, if_pos z00, if_pos z00]
    exact ⟨_, _, _, rfl, rfl, h⟩
theorem s_rule : Sim2 Rel A8_rule A9_rule := by
  intro a b K R h
  obtain ⟨n, ht⟩ := h.now
  unfold A8_rule A9_rule C_X8_rule F_X8_rule_0 C_X9_rule F_X9_rule_0 C_X9_changes F_X9_changes_0
  rw [wide_lit 2 (by decide), wide_lit 100 (by decide), wide_lit 0 (by decide)]
  rcases btw_e a (lo := 0) (hi := 2) (by decide) (by decide) with ⟨i, h1, h2, rfl, d1, d2, d3, d4, d5, d6, e⟩ | ⟨hx, e⟩
  · rcases btw_e b (lo := 0) (hi := 100) (by decide) (by decide) with ⟨w, w1, w2, rfl, g1, g2, g3, g4, g5, g6, f⟩ | ⟨hy, f⟩
    · have hr := ht.1.ru (i := i) (by omega)
      have q1 : ¬ 3 ≤ i := by omega
      have q2 : w ≤ 100 := w2
      have q3 : 3 + i < 3058 := by omega
      simp (disch := omega) only [nm_eq, gd_t, bd_s, bd2_s, lit, jn_add, pk_mul, inb_t, tn_nI, jn_lt, jn_le, jn_eq, Nat.reduceEqDiff, Nat.reduceLT, Nat.reduceLeDiff, Nat.not_lt_zero, Nat.zero_le, Nat.one_ne_zero, if_true, if_false, e, f, hr, q1, q2]
      exact ⟨_, _, _, rfl, rfl, h.same (n := n) (ht.s_ru (i := i) (by omega) (nI w)) (FK.up (q := 21) (by omega) (by omega) (fun e => by omega)) (FR.up (by omega) (by omega)) (u_oth (by omega))⟩
    · have q1 : ¬ 3 ≤ i := by omega
      rcases hy with hy | ⟨hy1, hy2, hy3⟩
      · simp (disch := omega) only [nm_eq, gd_t, bd_s, bd2_s, lit, jn_add, pk_mul, inb_t, tn_nI, jn_lt, jn_le, jn_eq, Nat.reduceEqDiff, Nat.reduceLT, Nat.reduceLeDiff, Nat.not_lt_zero, Nat.zero_le, Nat.one_ne_zero, if_true, if_false, e, f, q1, hy]
        exact ⟨_, _, _, rfl, rfl, h⟩
      · have hy4 : ¬ b ≤ nI 100 := Int32.not_le.mpr hy2
        simp (disch := omega) only [nm_eq, gd_t, bd_s, bd2_s, lit, jn_add, pk_mul, inb_t, tn_nI, jn_lt, jn_le, jn_eq, Nat.reduceEqDiff, Nat.reduceLT, Nat.reduceLeDiff, Nat.not_lt_zero, Nat.zero_le, Nat.one_ne_zero, if_true, if_false, e, f, q1, hy1, hy4]
        exact ⟨_, _, _, rfl, rfl, h⟩
  · rcases hx with hx | ⟨hx1, hx2, hx3⟩
    · rw [e, bd_s, if_pos z00, if_pos (show a < 0 from hx)]
      exact ⟨_, _, _, rfl, rfl, h⟩
    · rw [e, bd_s, if_pos z00, if_neg (show ¬ a < 0 from hx1), if_pos (show 3 ≤ a from hx3)]
      exact ⟨_, _, _, rfl, rfl, h⟩
theorem s_seed : Sim1 Rel A8_seed A9_seed := by
  intro a K R h
  obtain ⟨n, ht⟩ := h.now
  unfold A8_seed A9_seed C_X8_seed F_X8_seed_0 C_X9_seed F_X9_seed_0 C_X9_changes F_X9_changes_0
  have hz := ht.1.zz
  simp (disch := omega) only [nm_eq, gd_t, bd_s, bd2_s, lit, jn_add, pk_mul, inb_t, tn_nI, jn_lt, jn_le, jn_eq, Nat.reduceEqDiff, Nat.reduceLT, Nat.reduceLeDiff, Nat.not_lt_zero, Nat.zero_le, Nat.one_ne_zero, if_true, if_false, hz]
  exact ⟨_, _, _, rfl, rfl, h.same (n := n) (ht.s_zz a) (FK.up (q := 21) (by omega) (by omega) (fun _ => by decide)) (FR.up (by decide) (by decide)) (u_oth (by decide))⟩
theorem deal_loop {a : Nat} (ha : a ≤ 12) : ∀ (r i : Nat) (K R : Mem), i + r = a → Rel K R → ∀ f1 f2, r < f1 → r < f2 → ∃ v K' R', L_X8_deal_18 f1 (nI a) (nI i) (nI i) K = some (v, K') ∧ L_X9_deal_17 f2 (nI a) (nI i) R = some (v, R') ∧ Rel K' R'
  | 0, i, K, R, hi, h, f1, f2, hf1, hf2 => by
    obtain ⟨g1, rfl⟩ : ∃ g, f1 = g + 1 := ⟨f1 - 1, by omega⟩
    obtain ⟨g2, rfl⟩ : ∃ g, f2 = g + 1 := ⟨f2 - 1, by omega⟩
    exact ⟨nI i, K, R, if_pos (jle (by omega) (by omega)), if_pos (jle (by omega) (by omega)), h⟩
  | r + 1, i, K, R, hi, h, f1, f2, hf1, hf2 => by
    obtain ⟨g1, rfl⟩ : ∃ g, f1 = g + 1 := ⟨f1 - 1, by omega⟩
    obtain ⟨g2, rfl⟩ : ∃ g, f2 = g + 1 := ⟨f2 - 1, by omega⟩
    obtain ⟨n, ht⟩ := h.now
    have h12 := ht.2.n12
    have hlt : ¬ nI a ≤ nI i := jnle (by omega) (by omega)
    have ef : C_X6_isFull 21 K = some (if n < 12 then nI 0 else nI 1) := by
      unfold C_X6_isFull F_X6_isFull_0
      simp (disch := omega) only [nm_eq, gd_t, bd_s, bd2_s, lit, jn_add, pk_mul, inb_t, tn_nI, jn_lt, jn_le, jn_eq, Nat.reduceEqDiff, Nat.reduceLT, Nat.reduceLeDiff, Nat.not_lt_zero, Nat.zero_le, Nat.one_ne_zero, if_true, if_false, ht.1.nn, ht.2.s0]
      split <;> rfl
    show ∃ v K' R', F_X8_deal_18 _ _ _ _ _ = some (v, K') ∧ F_X9_deal_17 _ _ _ _ = some (v, R') ∧ Rel K' R'
    unfold F_X8_deal_18 F_X9_deal_17
    rw [if_neg hlt, if_neg hlt, ef]
    by_cases q : n < 12
    · obtain ⟨d1, K1, R1, hd1, c1, r1, s1⟩ := st_draw ht
      obtain ⟨d2, K2, R2, hd2, c2, r2, s2⟩ := st_draw s1.1
      obtain ⟨d3, K3, R3, hd3, c3, r3, s3⟩ := st_draw s2.1
      obtain ⟨d4, K4, R4, hd4, c4, r4, s4⟩ := st_draw s3.1
      have hl : d3 &&& d4 &&& 255 < 256 := Nat.and_lt_two_pow (n := 8) _ (by decide)
      obtain ⟨K5, R5, c5, r5, s5⟩ := st_add s4.1 q (k := d1 % 6) (l := d3 &&& d4 &&& 255) (Nat.mod_lt _ (by omega)) hl (nI 1 + nI (d2 % 9))
      obtain ⟨v, K', R', e1, e2, e3⟩ := deal_loop ha r (i + 1) K5 R5 (by omega) (h.st ((((s1.tr s2).tr s3).tr s4).tr s5)) g1 g2 (by omega) (by omega)
      have q2 : ¬ 12 ≤ n := by omega
      have j1 : jrem (nI d1) (nI 6) = nI (d1 % 6) := jrem_nat (by omega) (by omega) (by omega)
      have j2 : jrem (nI d2) (nI 9) = nI (d2 % 9) := jrem_nat (by omega) (by omega) (by omega)
      rw [jn_add] at c5 r5
      unfold C_X6_drawCourse F_X6_drawCourse_0
      simp (disch := omega) only [nm_eq, gd_t, bd_s, bd2_s, lit, jn_add, pk_mul, inb_t, tn_nI, jn_lt, jn_le, jn_eq, Nat.reduceEqDiff, Nat.reduceLT, Nat.reduceLeDiff, Nat.not_lt_zero, Nat.zero_le, Nat.one_ne_zero, if_true, if_false, ht.2.s0, q, q2, c1, c2, c3, c4, r1, r2, r3, r4, j1, j2, j_and, c5, r5]
      exact ⟨v, K', R', e1, e2, e3⟩
    · obtain rfl : n = 12 := by omega
      simp (disch := omega) only [nm_eq, gd_t, bd_s, bd2_s, lit, jn_add, pk_mul, inb_t, tn_nI, jn_lt, jn_le, jn_eq, Nat.reduceEqDiff, Nat.reduceLT, Nat.reduceLeDiff, Nat.not_lt_zero, Nat.zero_le, Nat.one_ne_zero, if_true, if_false, ht.2.s0]
      exact ⟨_, _, _, rfl, rfl, h⟩
theorem s_deal : Sim1 Rel A8_deal A9_deal := by
  intro a K R h
  have hF := FU_big
  unfold A8_deal A9_deal C_X8_deal F_X8_deal_0 C_X9_deal F_X9_deal_0
  rw [wide_lit 1 (by decide), wide_lit 12 (by decide)]
  rcases btw_e a (lo := 1) (hi := 12) (by decide) (by decide) with ⟨i, h1, h2, rfl, d1, d2, d3, d4, d5, d6, e⟩ | ⟨hx, e⟩
  · rw [e, bd_s, if_neg n10, if_neg (show ¬ nI i < 1 from d1), if_pos (show nI i ≤ 12 from d5)]
    exact deal_loop h2 i 0 K R (by omega) h FU FU (by omega) (by omega)
  · rw [e, bd_s, if_pos z00]
    rcases hx with hx | ⟨hx1, hx2, hx3⟩
    · rw [if_pos (show a < 1 from hx)]
      exact ⟨_, _, _, rfl, rfl, h⟩
    · rw [if_neg (show ¬ a < 1 from hx1), if_neg (show ¬ a ≤ 12 from Int32.not_le.mpr hx2)]
      exact ⟨_, _, _, rfl, rfl, h⟩
