theorem key_eq {S : Nat → Int32} {K : Mem} {t key k m : Nat} {p : Nat → Nat × Nat} (hT : TextP K S t key m p) (hk : k < 3) (h : S (58 + 200 * t) = nI k) : key = k := by
  have := hT.2.2.2.2.1.symm.trans h
  rw [jn_eq (by have := hT.1; omega) (by omega)] at this
  exact this
theorem s_fee : Sim0 Rel A8_fee A9_fee := by
  intro K R h
  obtain ⟨n, ht⟩ := h.now
  have h12 := ht.2.n12
  obtain ⟨tn, x1, x2, x3, x4, x5⟩ := h.xt
  have ecnt := e_counts (k := 1) x1 x2
  have hrn : K 21 9 = R 1 7 := ht.1.rn
  have hme : K 21 10 = R 1 8 := ht.1.me
  have x41 : K 27 1 = lastT (R 1) 1 tn := x4 1 (by omega)
  unfold A8_fee A9_fee C_X8_fee F_X8_fee_0 C_X9_fee F_X9_fee_0
  rcases lastT_or (R 1) 1 tn with e | ⟨t, t1, t2, t3⟩
  · have ng : ¬ (0 : Int32) ≤ -1 := by decide
    rw [show inb 1 3 = true from by decide, gd_t, show Int32.toNatClampNeg 1 = 1 from by decide, x41, e, nm_eq, if_neg ng, hrn, show (1 : Int32) = nI 1 from rfl, ecnt, e, bd_s, if_neg ng, show inb 7 3058 = true from by decide, gd_t, show Int32.toNatClampNeg 7 = 7 from by decide]
    exact ⟨_, _, _, rfl, rfl, h⟩
  · obtain ⟨key, m, p, hT⟩ := x5 t t1
    obtain rfl := key_eq hT (by omega) t3
    have hp : (0 : Int32) ≤ nI t := jle (a := 0) (Nat.zero_le _) (by omega)
    have hn : ∀ L, names 1 L → ∀ K2 : Mem, (∀ a, a ≠ 1 → a ≠ 20 → K2 a = K a) → (∀ j, j ≠ 5 → K2 1 j = K 1 j) → C_X5_named 21 K2 (nI L) (nI 0) = some (up (up R 16 114 (R 1 7)) 16 109 (R 1 8) 16 L) := by
      intro L hL K2 hK2 _
      have a0 : K2 21 = K 21 := hK2 21 (by omega) (by omega)
      rcases hL with ⟨rfl, h0⟩ | ⟨rfl, h0⟩ | ⟨rfl, h0⟩ | ⟨rfl, -⟩ | ⟨rfl, -⟩
      · omega
      · omega
      · omega
      · rw [e_named (by omega) (by omega), if_neg (by decide), if_neg (by decide), if_neg (by decide), if_pos rfl, a0, hrn, u_oth (by decide), u_at]
      · rw [e_named (by omega) (by omega), if_neg (by decide), if_pos rfl, a0, hme, u_at]
    obtain ⟨v, K', R', e1, e2, e3, e4, e5⟩ := b_text (q := 21) (c := 0) (K := K) (R := up (up R 16 114 (R 1 7)) 16 109 (R 1 8)) (vv := fun L => up (up R 16 114 (R 1 7)) 16 109 (R 1 8) 16 L) (t := t) (by omega) hT hn (fun L _ => rfl)
    rw [show inb 1 3 = true from by decide, gd_t, show Int32.toNatClampNeg 1 = 1 from by decide, x41, t2, nm_eq, if_pos hp, show (0 : Int32) = nI 0 from rfl, e1, bd2_s, show (1 : Int32) = nI 1 from rfl, ecnt, t2, bd_s, if_pos (show nI 0 ≤ nI t from hp), show inb 7 3058 = true from by decide, gd_t, show Int32.toNatClampNeg 7 = 7 from by decide, show inb 114 128 = true from by decide, gd_t, show Int32.toNatClampNeg 114 = 114 from by decide, nm_eq, show inb 8 3058 = true from by decide, gd_t, show Int32.toNatClampNeg 8 = 8 from by decide, show inb 109 128 = true from by decide, gd_t, show Int32.toNatClampNeg 109 = 109 from by decide, nm_eq, u_ne (a := 1) (by decide), e2, bd2_s]
    refine ⟨_, _, _, rfl, rfl, h.ek e3 (fun a h1 h2 => ?_)⟩
    rw [e5 a h2, u_ne h1, u_ne h1]
theorem s_fine : Sim1 Rel A8_fine A9_fine := by
  intro a K R h
  obtain ⟨n, ht⟩ := h.now
  have h12 := ht.2.n12
  obtain ⟨tn, x1, x2, x3, x4, x5⟩ := h.xt
  have ecnt := e_counts (k := 2) x1 x2
  have x42 : K 27 2 = lastT (R 1) 2 tn := x4 2 (by omega)
  unfold A8_fine A9_fine C_X8_fine F_X8_fine_0 C_X9_fine F_X9_fine_0
  rcases course_e ht a with ⟨i, hi, rfl, e1, e2⟩ | ⟨e1, e2⟩
  · have o1 : ∀ M : Mem, C_X9_of M (nI i) (nI 1) = some (M 1 (11 + 4 * i)) := fun M => by rw [e_of (by omega), show 10 + 4 * i + 1 = 11 + 4 * i by omega]
    have o2 : ∀ M : Mem, C_X9_of M (nI i) (nI 2) = some (M 1 (12 + 4 * i)) := fun M => by rw [e_of (by omega), show 10 + 4 * i + 2 = 12 + 4 * i by omega]
    rw [e1, e2, bd_s, bd_s, if_neg n10, if_neg n10, show inb 2 3 = true from by decide, gd_t, show Int32.toNatClampNeg 2 = 2 from by decide, x42, nm_eq, show (2 : Int32) = nI 2 from rfl, ecnt, bd_s, show (1 : Int32) = nI 1 from rfl]
    rcases lastT_or (R 1) 2 tn with e | ⟨t, t1, t2, t3⟩
    · have ng : ¬ (0 : Int32) ≤ -1 := by decide
      rw [e, if_neg ng, if_neg ng, inb_t (by omega) (by omega), gd_t, tn_nI (by omega), show K 24 i = R 1 (12 + 4 * i) from ht.1.we (by omega), o2, bd_s]
      exact ⟨_, _, _, rfl, rfl, h⟩
    · obtain ⟨key, m, p, hT⟩ := x5 t t1
      obtain rfl := key_eq hT (by omega) t3
      have hp : (0 : Int32) ≤ nI t := jle (a := 0) (Nat.zero_le _) (by omega)
      have ht3 : TS K 21 (up (up R 16 103 (R 1 (11 + 4 * i))) 16 119 (R 1 (12 + 4 * i))) n := ht
      obtain ⟨v, K', R', g1, g2, g3, g4⟩ := b_textC (by omega) ht3 (t := t) (c := i) (by omega) hT (by omega) (Or.inr rfl) (by rw [u_oth (by decide), u_at]; rfl) (by rw [u_at]; rfl) (fun e => by omega)
      rw [t2, if_pos hp, if_pos hp, g1, bd2_s, o1, bd_s, show inb 103 128 = true from by decide, gd_t, show Int32.toNatClampNeg 103 = 103 from by decide, nm_eq, o2, bd_s, u_ne (a := 1) (by decide), show inb 119 128 = true from by decide, gd_t, show Int32.toNatClampNeg 119 = 119 from by decide, nm_eq, g2, bd2_s]
      refine ⟨_, _, _, rfl, rfl, h.ek g3 (fun a h1 h2 => ?_)⟩
      rw [g4 a h1 h2, u_ne h1, u_ne h1]
  · rw [e1, e2, bd_s, bd_s, if_pos z00, if_pos z00]
    exact ⟨_, _, _, rfl, rfl, h⟩
theorem s_why : Sim1 Rel A8_why A9_why := by
  intro a K R h
  obtain ⟨tn, x1, x2, x3, x4, x5⟩ := h.xt
  unfold A8_why A9_why C_X8_why F_X8_why_0 C_X9_why F_X9_why_0 C_X9_orNone F_X9_orNone_0
  rw [wide_lit 0 (by decide), wide_lit 2 (by decide)]
  rcases btw_e a (lo := 0) (hi := 2) (by decide) (by decide) with ⟨j, h1, h2, rfl, d1, d2, d3, d4, d5, d6, e⟩ | ⟨hx, e⟩
  · have x4j : K 27 j = lastT (R 1) j tn := x4 j (by omega)
    rw [e, bd_s, if_neg n10, if_neg (show ¬ nI j < 0 from d1), if_pos (show nI j < 3 from d6), inb_t (by omega) (by omega), gd_t, gd_t, tn_nI (by omega), x4j, e_counts (k := j) x1 x2, bd_s]
    by_cases q : (0 : Int32) ≤ lastT (R 1) j tn
    · rw [if_pos q, bd_s]
      exact ⟨_, _, _, rfl, rfl, h⟩
    · rw [if_neg q, bd_s]
      exact ⟨_, _, _, rfl, rfl, h⟩
  · rw [e, bd_s, if_pos z00]
    rcases hx with hx | ⟨hx1, hx2, hx3⟩
    · rw [if_pos (show a < 0 from hx)]
      exact ⟨_, _, _, rfl, rfl, h⟩
    · rw [if_neg (show ¬ a < 0 from hx1), if_neg (show ¬ a < 3 from Int32.not_lt.mpr hx3)]
      exact ⟨_, _, _, rfl, rfl, h⟩
theorem isText_e {R : Mem} {n : Nat} (hn : n ≤ 14) (h : R 1 1 = nI n) (a : Int32) : (∃ i, i < n ∧ a = nI i ∧ C_X9_isText R a = some (nI 1)) ∨ ((a < 0 ∨ nI n ≤ a) ∧ C_X9_isText R a = some (nI 0)) := by
  have e : C_X9_isText R a = bd (some (if nI 0 ≤ a ∧ a ≤ nI n - 1 then 1 else 0)) (fun r => gd (z01 r) (some r)) := by
    unfold C_X9_isText F_X9_isText_0
    rw [show inb 1 3058 = true from by decide, gd_t, show Int32.toNatClampNeg 1 = 1 from by decide, h, wide_lit 0 (by decide), e_isIn]
  rcases ix_cases a (n := n) (by omega) with hx | ⟨i, hi, rfl⟩
  · refine Or.inr ⟨hx, ?_⟩
    rw [e, bd_s, if_neg]
    · rfl
    · rintro ⟨h1, h2⟩
      rcases hx with hx | hx
      · exact absurd h1 (Int32.not_le.mpr hx)
      · by_cases hn : n = 0
        · subst hn
          have : (0 : Int32) ≤ -1 := Int32.le_trans h1 (by exact h2)
          exact absurd this (by decide)
        · have : nI n ≤ nI n - 1 := Int32.le_trans hx h2
          rw [show (1 : Int32) = nI 1 from rfl, jn_sub (by omega), jn_le (by omega) (by omega)] at this
          omega
  · refine Or.inl ⟨i, hi, rfl, ?_⟩
    rw [e, bd_s, if_pos]
    · rfl
    · refine ⟨jle (Nat.zero_le _) (by omega), ?_⟩
      rw [show (1 : Int32) = nI 1 from rfl, jn_sub (by omega)]
      exact jle (by omega) (by omega)
theorem s_textTold : Sim2 Rel A8_textTold A9_textTold := by
  intro a b K R h
  obtain ⟨tn, x1, x2, x3, x4, x5⟩ := h.xt
  unfold A8_textTold A9_textTold C_X8_textTold F_X8_textTold_0 C_X9_textTold F_X9_textTold_0 C_X9_textAt F_X9_textAt_0
  rw [x3, wide_lit 0 (by decide), wide_lit 1 (by decide)]
  rcases isText_e x1 x2 a with ⟨i, hi, rfl, e⟩ | ⟨hx, e⟩
  · obtain ⟨key, m, p, hT⟩ := x5 i hi
    have c4 : K 4 i = R 1 (58 + 200 * i) := hT.2.2.2.2.2.1.trans hT.2.2.2.2.1.symm
    have c5 : K 5 i = R 1 (59 + 200 * i) := hT.2.2.2.2.2.2.1
    have ix1 : 58 + 200 * i + 1 = 59 + 200 * i := by omega
    rw [e, bd_s, if_neg n10, if_neg (show ¬ nI i < 0 from jnlt (b := 0) (by omega) (by omega)), if_pos (show nI i < nI tn from jlt hi (by omega))]
    rcases btw_e b (lo := 0) (hi := 1) (by decide) (by decide) with ⟨j, h1, h2, rfl, d1, d2, d3, d4, d5, d6, f⟩ | ⟨hy, f⟩
    · rw [f]
      obtain rfl | rfl : j = 0 ∨ j = 1 := by omega
      · simp (disch := omega) only [nm_eq, gd_t, bd_s, bd2_s, lit, jn_add, pk_mul, inb_t, tn_nI, jn_lt, jn_le, jn_eq, Nat.reduceEqDiff, Nat.reduceLT, Nat.reduceLeDiff, Nat.not_lt_zero, Nat.zero_le, Nat.one_ne_zero, if_true, if_false, c4, Option.map_some]
        exact ⟨_, _, _, rfl, rfl, h⟩
      · simp (disch := omega) only [nm_eq, gd_t, bd_s, bd2_s, lit, jn_add, pk_mul, inb_t, tn_nI, jn_lt, jn_le, jn_eq, Nat.reduceEqDiff, Nat.reduceLT, Nat.reduceLeDiff, Nat.not_lt_zero, Nat.zero_le, Nat.one_ne_zero, if_true, if_false, c5, Option.map_some, ix1]
        exact ⟨_, _, _, rfl, rfl, h⟩
    · have ne : ∀ j, j ≤ 1 → ¬ b = nI j := by
        rintro j hj rfl
        rcases hy with hx | ⟨-, hx, -⟩
        · exact jnlt (Nat.zero_le _) (by omega) hx
        · exact jnlt hj (by omega) hx
      rw [f, bd_s, if_pos z00, if_neg (show ¬ b = 0 from ne 0 (by omega)), if_neg (show ¬ b = 1 from ne 1 (by omega))]
      exact ⟨_, _, _, rfl, rfl, h⟩
  · rw [e, bd_s, if_pos z00]
    rcases hx with hx | hx
    · rw [if_pos hx]
      exact ⟨_, _, _, rfl, rfl, h⟩
    · by_cases q : a < 0
      · rw [if_pos q]
        exact ⟨_, _, _, rfl, rfl, h⟩
      · rw [if_neg q, if_neg (Int32.not_lt.mpr hx)]
        exact ⟨_, _, _, rfl, rfl, h⟩
/-! what a loop pulls -/
theorem xor_xor_c (a b : Nat) : a ^^^ b ^^^ b = a := by
  rw [Nat.xor_assoc, Nat.xor_self, Nat.xor_zero]
section PULL
variable {K R : Mem} {n : Nat}
theorem e_pulledWith (h : Inv (R 1) n) {i c : Nat} (hi : i < n) (hc : c < 8) : ∃ R', C_X9_pulledWith (nI i) (nI c) R = some (nI (tot (kf (R 1)) (lf (R 1)) n) - nI (tot (kf (R 1)) (lfw (lf (R 1)) i (2 ^ c)) n), R') ∧ (∀ a, a ≠ 12 → R' a = R a) := by
  have h12 := h.n12
  obtain ⟨l1, l2⟩ := h.lf hi
  have el := e_lost h hi hc
  unfold C_X9_pulledWith F_X9_pulledWith_0
  cases hb : (lf (R 1) i).testBit c
  · rw [hb, if_neg Bool.false_ne_true] at el
    obtain ⟨R1, r1, hr1⟩ := e_holds h
    have e11 : R1 1 = R 1 := hr1.1 1 (by decide)
    have h1 : Inv (R1 1) n := by rw [e11]; exact h
    have tg := e_toggle h1 hi hc
    rw [e11, xor_or hb] at tg
    have h2 : Inv (up R1 1 (13 + 4 * i) (nI (lf (R 1) i ||| 2 ^ c)) 1) n := by
      rw [up_row]
      exact h1.u_lo i (or_pow_lt l1 hc)
    have et : tot (kf (up R1 1 (13 + 4 * i) (nI (lf (R 1) i ||| 2 ^ c)) 1)) (lf (up R1 1 (13 + 4 * i) (nI (lf (R 1) i ||| 2 ^ c)) 1)) n = tot (kf (R 1)) (lfw (lf (R 1)) i (2 ^ c)) n := by
      refine (tot_ext n (fun j hj => ⟨?_, ?_⟩)).2
      · rw [kf_up, e11]
      · rw [lf_up (or_pow_lt l1 hc), e11]
        unfold lfw
        by_cases e : j = i
        · subst e
          rw [if_pos rfl]
        · rw [if_neg e, if_neg e]
    obtain ⟨R3, r3, hr3⟩ := e_holds h2
    rw [et] at r3
    have e31 : R3 1 = up R1 1 (13 + 4 * i) (nI (lf (R 1) i ||| 2 ^ c)) 1 := hr3.1 1 (by decide)
    have h3 : Inv (R3 1) n := by rw [e31]; exact h2
    have tg3 := e_toggle h3 hi hc
    have elf : lf (R3 1) i = lf (R 1) i ||| 2 ^ c := by rw [e31, lf_up (or_pow_lt l1 hc), if_pos rfl]
    rw [elf, ← xor_or hb, xor_xor_c] at tg3
    rw [el, bd_s, if_pos z00, r1, bd2_s, tg, bd_s, r3, bd2_s, nm_eq, tg3, bd_s]
    refine ⟨_, rfl, fun a ha => ?_⟩
    by_cases e : a = 1
    · subst e
      funext j
      by_cases e2 : j = 13 + 4 * i
      · subst e2
        rw [u_at, l2]
      · rw [u_oth e2, e31, u_oth e2, e11]
    · rw [u_ne e, hr3.1 a ha, u_ne e, hr1.1 a ha]
  · rw [hb, if_pos rfl] at el
    rw [lfw_same hb, Int32.sub_self, el, bd_s, if_neg n10]
    exact ⟨_, rfl, fun _ _ => rfl⟩
end PULL
theorem Rel.r12 {K R R' : Mem} (h : Rel K R) (hR : ∀ a, a ≠ 12 → R' a = R a) : Rel K R' := h.quiet GK.rf (fun _ _ _ => rfl) ⟨fun a ha => hR a (by omega), fun i _ => by rw [hR 1 (by decide)]⟩ (hR 1 (by decide))
theorem s_pulled : Sim2 Rel A8_pulled A9_pulled := by
  intro a b K R h
  obtain ⟨n, ht⟩ := h.now
  have h12 := ht.2.n12
  unfold A8_pulled A9_pulled C_X8_pulled F_X8_pulled_0 C_X9_pulled F_X9_pulled_0
  rcases loop_e ht a b with ⟨i, c, hi, hc, rfl, rfl, e1, e2, e3⟩ | ⟨e1, x, e2, e3⟩
  · obtain ⟨R', r1, r2⟩ := e_pulledWith ht.2 hi hc
    have ew := e_without ht (a := i) (m := 2 ^ c) (by omega) (two_pow_lt hc)
    simp (disch := omega) only [nm_eq, gd_t, bd_s, bd2_s, lit, jn_add, pk_mul, inb_t, tn_nI, jn_lt, jn_le, jn_eq, Nat.reduceEqDiff, Nat.reduceLT, Nat.reduceLeDiff, Nat.not_lt_zero, Nat.zero_le, Nat.one_ne_zero, if_true, if_false, e1, e2, e3, e_held ht, e_shl1 hc, ew, r1, Option.map_some]
    exact ⟨_, _, _, rfl, rfl, h.r12 r2⟩
  · rw [e1, e2, bd_s, bd_s, e3, bd_s, if_pos z00, if_pos z00]
    exact ⟨_, _, _, rfl, rfl, h⟩
