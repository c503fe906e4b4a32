/-! a night, on both sides -/
def St (q : Nat) (K R : Mem) (n : Nat) (K' R' : Mem) (n' : Nat) : Prop := TS K' q R' n' ∧ n ≤ n' ∧ FK q K K' ∧ FR R R' ∧ R' 1 2 = R 1 2
theorem St.tr {q : Nat} {K R K1 R1 K2 R2 : Mem} {n n1 n2 : Nat} (h : St q K R n K1 R1 n1) (h2 : St q K1 R1 n1 K2 R2 n2) : St q K R n K2 R2 n2 := ⟨h2.1, Nat.le_trans h.2.1 h2.2.1, h.2.2.1.tr h2.2.2.1, h.2.2.2.1.tr h2.2.2.2.1, h2.2.2.2.2.trans h.2.2.2.2⟩
theorem St.xt {q : Nat} {K R K1 R1 : Mem} {n n1 : Nat} (h : St q K R n K1 R1 n1) (hq : 21 ≤ q) (hX : XT K q (R 1)) : XT K1 q (R1 1) := hX.fr hq h.2.2.1 h.2.2.2.1
section NIGHT
variable {K R : Mem} {q n : Nat}
theorem St.rf (h : TS K q R n) : St q K R n K R n := ⟨h, Nat.le_refl _, FK.rf, FR.rf, rfl⟩
theorem st_draw (h : TS K q R n) : ∃ d K' R', d < 16777216 ∧ C_X6_draw q K = some (nI d, K') ∧ C_X9_drawn R = some (nI d, R') ∧ St q K R n K' R' n := by
  obtain ⟨d, K', R', h1, h2, h3, h4, h5, h6⟩ := b_draw h
  refine ⟨d, K', R', h1, h2, h3, h4, Nat.le_refl _, h5, h6, ?_⟩
  rw [e_drawn] at h3
  injection h3 with h3
  injection h3 with _ h3
  rw [← h3, u_oth (by decide)]
theorem st_add (h : TS K q R n) (hn : n < 12) {k l : Nat} (hk : k < 6) (hl : l < 256) (g : Int32) : ∃ K' R', C_X6_add q (nI k) g (nI l) K = some K' ∧ C_X9_comes (nI k) g (nI l) R = some R' ∧ St q K R n K' R' (n + 1) := by
  obtain ⟨K', R', h1, h2, h3, h4, h5⟩ := b_add h hn hk hl g
  refine ⟨K', R', h1, h2, h3, by omega, h4, h5, ?_⟩
  obtain ⟨R2, e1, -, -, -, -, -, -, e2⟩ := e_comes h.2.s0 hn (nI k) g (nI l)
  rw [h2] at e1
  injection e1 with e1
  rw [e1]
  exact e2 2 (by decide) (Or.inl (by omega))
theorem and_eq0 {l c : Nat} (hc : c < 8) : (nI l &&& nI (2 ^ c) = 0) ↔ l.testBit c = false := fa_bit (by omega)
theorem st_lose (h : TS K q R n) {i c : Nat} (hi : i < n) (hc : c < 8) : ∃ K' R', C_X6_lose q (nI i) (nI c) K = some K' ∧ C_X9_loses (nI i) (nI c) R = some R' ∧ St q K R n K' R' n := by
  have h12 := h.2.n12
  obtain ⟨l1, l2⟩ := h.2.lf hi
  have eL : K (q + 4) i = nI (lf (R 1) i) := (h.1.lo (by omega)).trans l2
  have eR : C_X9_isLost R (nI i) (nI c) = some (if (lf (R 1) i).testBit c then nI 1 else nI 0) := by
    unfold C_X9_isLost F_X9_isLost_0
    rw [show (3 : Int32) = nI 3 from rfl, e_of (by omega), bd_s, show 10 + 4 * i + 3 = 13 + 4 * i by omega, l2, e_among l1 hc, bd_s]
    split <;> rfl
  cases hb : (lf (R 1) i).testBit c
  · refine ⟨up (up K (q + 4) i (nI (lf (R 1) i ||| 2 ^ c))) q 9 (K q 9 + 1), up (up R 1 (13 + 4 * i) (nI (lf (R 1) i ||| 2 ^ c))) 1 7 (R 1 7 + 1), ?_, ?_, ?_, Nat.le_refl _, ?_, ?_, ?_⟩
    · unfold C_X6_lose F_X6_lose_0
      rw [show (1 : Int32) = nI 1 from rfl, e_shl1 hc, nm_eq, inb_t (by omega) (by omega), gd_t, tn_nI (by omega), eL, if_pos ((and_eq0 hc).mpr hb), gd_t, gd_t, nm_eq, j_or, nm_eq, u_ne (by omega)]
    · unfold C_X9_loses F_X9_loses_0 C_X9_losesOrNot F_X9_losesOrNot_0
      rw [eR, bd_s, hb, if_neg Bool.false_ne_true, if_pos (show nI 0 = (0 : Int32) from rfl), show (3 : Int32) = nI 3 from rfl, e_of (by omega), bd_s, show 10 + 4 * i + 3 = 13 + 4 * i by omega, l2, show (1 : Int32) = nI 1 from rfl, e_shl1 hc, j_xor, xor_or hb, e_sets _ (by omega), bd_s, bd_s, show inb 7 3058 = true from by decide, gd_t, gd_t, nm_eq, show Int32.toNatClampNeg 7 = 7 from by decide, show 10 + 4 * i + 3 = 13 + 4 * i by omega, u_oth (by omega)]
    · have := (h.s_lo (i := i) (by omega) (or_pow_lt l1 hc)).s_rn (R 1 7 + 1)
      rw [h.1.rn]
      exact this
    · exact (FK.up (by omega) (by omega) (fun e => by omega)).tr (FK.up (by omega) (by omega) (fun _ => by decide))
    · exact (FR.up (by omega) (by omega)).tr (FR.up (by decide) (by decide))
    · rw [u_oth (by decide), u_oth (by omega)]
  · refine ⟨K, R, ?_, ?_, St.rf h⟩
    · unfold C_X6_lose F_X6_lose_0
      rw [show (1 : Int32) = nI 1 from rfl, e_shl1 hc, nm_eq, inb_t (by omega) (by omega), gd_t, tn_nI (by omega), eL, if_neg (fun e => by rw [(and_eq0 hc).mp e] at hb; cases hb)]
    · unfold C_X9_loses F_X9_loses_0
      rw [eR, bd_s, hb, if_pos rfl, if_neg (show ¬ nI 1 = (0 : Int32) from by decide)]
theorem mend_loop (h : TS K q R n) : ∀ (r i : Nat), i + r = n → ∀ f1 f2, r < f1 → r < f2 → ∃ K' R', L_X6_mendFirst_2 q f1 (nI i) K = some K' ∧ L_X9_mends_2 f2 (nI i) R = some R' ∧ St q K R n K' R' n
  | 0, i, hi, f1, f2, hf1, hf2 => by
    obtain ⟨g1, rfl⟩ : ∃ g, f1 = g + 1 := ⟨f1 - 1, by omega⟩
    obtain ⟨g2, rfl⟩ : ∃ g, f2 = g + 1 := ⟨f2 - 1, by omega⟩
    have h12 := h.2.n12
    have e : n ≤ i := by omega
    refine ⟨K, R, ?_, ?_, St.rf h⟩
    · show F_X6_mendFirst_2 _ q _ _ = _
      unfold F_X6_mendFirst_2
      simp (disch := omega) only [h.1.nn, h.2.s0, jn_le, e, if_true]
    · show F_X9_mends_2 _ _ _ = _
      unfold F_X9_mends_2 F_X9_mends_27
      simp (disch := omega) only [nm_eq, gd_t, bd_s, bd2_s, lit, jn_add, pk_mul, inb_t, tn_nI, jn_lt, jn_le, jn_eq, h.2.s0, e, if_true]
  | r + 1, i, hi, f1, f2, hf1, hf2 => by
    obtain ⟨g1, rfl⟩ : ∃ g, f1 = g + 1 := ⟨f1 - 1, by omega⟩
    obtain ⟨g2, rfl⟩ : ∃ g, f2 = g + 1 := ⟨f2 - 1, by omega⟩
    have h12 := h.2.n12
    have e : ¬ n ≤ i := by omega
    obtain ⟨l1, l2⟩ := h.2.lf (c := i) (by omega)
    have eL : K (q + 4) i = nI (lf (R 1) i) := (h.1.lo (by omega)).trans l2
    have eR : C_X9_of R (nI i) (nI 3) = some (nI (lf (R 1) i)) := by
      rw [e_of (by omega), show 10 + 4 * i + 3 = 13 + 4 * i by omega, l2]
    by_cases hz : lf (R 1) i = 0
    · obtain ⟨K', R', e1, e2, e3⟩ := mend_loop h r (i + 1) (by omega) g1 g2 (by omega) (by omega)
      refine ⟨K', R', ?_, ?_, e3⟩
      · refine Eq.trans ?_ e1
        show F_X6_mendFirst_2 _ q _ _ = _
        unfold F_X6_mendFirst_2
        simp (disch := omega) only [nm_eq, gd_t, bd_s, bd2_s, lit, jn_add, pk_mul, inb_t, tn_nI, jn_lt, jn_le, jn_eq, h.1.nn, h.2.s0, e, if_false, eL, hz, if_true]
      · refine Eq.trans ?_ e2
        show F_X9_mends_2 _ _ _ = _
        unfold F_X9_mends_2
        simp (disch := omega) only [nm_eq, gd_t, bd_s, bd2_s, lit, jn_add, pk_mul, inb_t, tn_nI, jn_lt, jn_le, jn_eq, h.2.s0, e, if_false, eR, hz, if_true]
    · have e1 : nI (lf (R 1) i) - nI 1 = nI (lf (R 1) i - 1) := jn_sub (by omega)
      have hlt : lf (R 1) i &&& (lf (R 1) i - 1) < 256 := Nat.and_lt_two_pow (n := 8) _ (by omega)
      refine ⟨up (up K (q + 4) i (nI (lf (R 1) i &&& (lf (R 1) i - 1)))) q 10 (K q 10 + nI 1), up (up R 1 (13 + 4 * i) (nI (lf (R 1) i &&& (lf (R 1) i - 1)))) 1 8 (R 1 8 + nI 1), ?_, ?_, ?_, Nat.le_refl _, ?_, ?_, ?_⟩
      · show F_X6_mendFirst_2 _ q _ _ = _
        unfold F_X6_mendFirst_2
        have a1 : ∀ v, up K (q + 4) i v q = K q := fun v => u_ne (by omega)
        simp (disch := omega) only [nm_eq, gd_t, bd_s, bd2_s, lit, jn_add, pk_mul, inb_t, tn_nI, jn_lt, jn_le, jn_eq, h.1.nn, h.2.s0, e, if_false, eL, hz, e1, j_and, a1]
      · show F_X9_mends_2 _ _ _ = _
        unfold F_X9_mends_2 F_X9_mends_27
        have eS : ∀ v, C_X9_sets (nI i) (nI 3) v R = some (up R 1 (13 + 4 * i) v) := fun v => by
          rw [e_sets _ (by omega), show 10 + 4 * i + 3 = 13 + 4 * i by omega]
        have a1 : ∀ v, up R 1 (13 + 4 * i) v 1 8 = R 1 8 := fun v => u_oth (by omega)
        simp (disch := omega) only [nm_eq, gd_t, bd_s, bd2_s, lit, jn_add, pk_mul, inb_t, tn_nI, jn_lt, jn_le, jn_eq, h.2.s0, e, if_false, eR, hz, e1, j_and, eS, a1]
      · have := (h.s_lo (i := i) (by omega) hlt).s_me (R 1 8 + nI 1)
        rw [h.1.me]
        exact this
      · exact (FK.up (by omega) (by omega) (fun e => by omega)).tr (FK.up (by omega) (by omega) (fun _ => by decide))
      · exact (FR.up (by omega) (by omega)).tr (FR.up (by decide) (by decide))
      · rw [u_oth (by decide), u_oth (by omega)]
theorem st_mend (h : TS K q R n) : ∃ K' R', C_X6_mendFirst q K = some K' ∧ C_X9_mends R = some R' ∧ St q K R n K' R' n := by
  have hF := FU_big
  have h12 := h.2.n12
  exact mend_loop h n 0 (by omega) FU FU (by omega) (by omega)
theorem b_bears {i k : Nat} {g : Int32} (hi : i < 12) (hk : k < 6) (e1 : R 1 (10 + 4 * i) = nI k) (e2 : R 1 (11 + 4 * i) = g) : ∃ v, C_X0_bears (nI k) g = some v ∧ C_X9_bears R (nI i) = some v := by
  unfold C_X0_bears F_X0_bears_0 C_X9_bears F_X9_bears_0
  have a1 : C_X9_of R (nI i) (nI 1) = some g := by rw [e_of (by omega), show 10 + 4 * i + 1 = 11 + 4 * i by omega, e2]
  have a0 : C_X9_of R (nI i) (nI 0) = some (nI k) := by rw [e_of (by omega), Nat.add_zero, e1]
  rw [show (0 : Int32) = nI 0 from rfl, show (1 : Int32) = nI 1 from rfl, a1, bd_s, a0]
  simp only [nm_eq, bd_s]
  split
  · exact ⟨_, rfl, rfl⟩
  · split
    · exact ⟨_, rfl, rfl⟩
    · exact ⟨_, rfl, rfl⟩
theorem e_jmin {a b : Nat} (ha : a ≤ 99) (hb : b ≤ 198) : jmin (nI 99) (nI a + nI b) = nI (min 99 (a + b)) := by
  unfold jmin
  rw [jn_add]
  by_cases e : a + b < 99
  · rw [if_pos (jlt e (by omega)), Nat.min_eq_right (by omega)]
  · rw [if_neg (jnlt (by omega) (by omega)), Nat.min_eq_left (by omega)]
theorem e_within2 {a b : Nat} (ha : a ≤ 99) (hb : b ≤ 198) : C_X9_within (nI a + nI b) (nI 99) = some (nI (min 99 (a + b))) := by
  unfold C_X9_within F_X9_within_0
  rw [jn_add, if_pos (show (0 : Int32) ≤ nI (a + b) from jle (a := 0) (Nat.zero_le _) (by omega))]
  by_cases e : a + b ≤ 99
  · rw [if_pos (jle e (by omega)), Nat.min_eq_right e]
  · rw [if_neg (jnle (by omega) (by omega)), Nat.min_eq_left (by omega)]
theorem st_walk (hq : 21 ≤ q) (h : TS K q R n) (hX : XT K q (R 1)) (hn : 0 < n) : ∃ K' R', C_X6_walkSomewhere q K = some K' ∧ C_X9_isWalked R = some R' ∧ St q K R n K' R' n := by
  have h12 := h.2.n12
  obtain ⟨d, K1, R1, hd, c1, r1, s1⟩ := st_draw h
  obtain ⟨d2, K2, R2, hd2, c2, r2, s2⟩ := st_draw s1.1
  have s02 := s1.tr s2
  have hi : d % n < n := Nat.mod_lt _ hn
  have hc : d2 % 8 < 8 := Nat.mod_lt _ (by omega)
  generalize hie : d % n = i at hi
  generalize hce : d2 % 8 = c at hc
  -- the walk is counted
  have s3 : St q K2 R2 n (up K2 q 8 (R2 1 6 + nI 1)) (up R2 1 6 (R2 1 6 + nI 1)) n := ⟨s2.1.s_wa _, Nat.le_refl _, FK.up (by omega) (by omega) (fun _ => by decide), FR.up (by decide) (by decide), u_oth (by decide)⟩
  have e8 : K2 q 8 = R2 1 6 := s2.1.1.wa
  generalize hK3 : up K2 q 8 (R2 1 6 + nI 1) = K3 at s3
  generalize hR3 : up R2 1 6 (R2 1 6 + nI 1) = R3 at s3
  have s03 := s02.tr s3
  obtain ⟨w, K4, R4, hw, c4, r4, hEK, hER⟩ := b_wears hq s3.1 (s03.xt hq hX) hi
  have t4 := s3.1.ek hq hEK hER
  have s4 : St q K3 R3 n K4 R4 n := ⟨t4, Nat.le_refl _, hEK.fk hq, hER.fr, by rw [hER 1 (by decide) (by decide)]⟩
  obtain ⟨w0, hw0, ew0⟩ := s3.1.2.we hi
  have eK0 : K3 (q + 3) i = nI w0 := (s3.1.1.we (by omega)).trans ew0
  have hm : min 99 (w0 + w) ≤ 99 := Nat.min_le_left _ _
  have t5 := t4.s_we (i := i) (by omega) hm
  have s5 : St q K4 R4 n (up K4 (q + 3) i (nI (min 99 (w0 + w)))) (up R4 1 (12 + 4 * i) (nI (min 99 (w0 + w)))) n := ⟨t5, Nat.le_refl _, FK.up (by omega) (by omega) (fun e => by omega), FR.up (by omega) (by omega), u_oth (by omega)⟩
  generalize hK5 : up K4 (q + 3) i (nI (min 99 (w0 + w))) = K5 at t5 s5
  generalize hR5 : up R4 1 (12 + 4 * i) (nI (min 99 (w0 + w))) = R5 at t5 s5
  have ew5 : K5 (q + 3) i = nI (min 99 (w0 + w)) := by rw [← hK5, u_at]
  have er5 : R5 1 (12 + 4 * i) = nI (min 99 (w0 + w)) := by rw [← hR5, u_at]
  obtain ⟨k1, k2⟩ := t5.2.kf hi
  obtain ⟨bv, b1, b2⟩ := b_bears (g := R5 1 (11 + 4 * i)) (by omega) k1 k2 rfl
  have eb : C_X0_bears (K5 (q + 1) i) (K5 (q + 2) i) = some bv := by rw [t5.1.kd (by omega), t5.1.ga (by omega), k2, b1]
  have s05 := (s03.tr s4).tr s5
  -- the class's rows
  have cls : ∀ X : Option Mem, (if nI (min 99 (w0 + w)) ≤ bv then some K5 else bd (C_X6_lose q (nI i) (nI c) (up K5 (q + 3) i (nI 0))) fun K27 => some K27) = X → C_X6_walkSomewhere q K = X := by
    intro X hx
    unfold C_X6_walkSomewhere F_X6_walkSomewhere_0
    have n7 : K q 7 = nI n := h.1.nn.trans h.2.s0
    have n71 : K1 q 7 = nI n := s1.1.1.nn.trans s1.1.2.s0
    have nzn : nz (nI n) = true := by
      show (!decide (nI n = nI 0)) = true
      rw [decide_eq_false (jne (by omega) (by omega) (by omega))]
      rfl
    rw [n7, if_pos (show (0 : Int32) < nI n from jlt (a := 0) hn (by omega)), c1, bd2_s, n71, nzn, gd_t, jrem_nat (by omega) hn (by omega), nm_eq, c2, bd2_s, show (8 : Int32) = nI 8 from rfl, jrem_nat (by omega) (by omega) (by omega), nm_eq, e8, show (1 : Int32) = nI 1 from rfl, hK3, nm_eq, hie, hce, inb_t (by omega) (by omega), gd_t, c4, bd2_s, gd_t, tn_nI (by omega), eK0, show (99 : Int32) = nI 99 from rfl, e_jmin hw0 hw, hK5, nm_eq, gd_t, gd_t, gd_t, eb, bd_s, ew5, gd_t, nm_eq]
    exact hx
  have ref : ∀ X : Option Mem, (if nI (min 99 (w0 + w)) ≤ bv then some R5 else bd (C_X9_loses (nI i) (nI c) (up R5 1 (12 + 4 * i) (nI 0))) fun K31 => some K31) = X → C_X9_isWalked R = X := by
    intro X hx
    unfold C_X9_isWalked F_X9_isWalked_0
    have n01 : R1 1 0 = nI n := s1.1.2.s0
    have nzn : nz (nI n) = true := by
      show (!decide (nI n = nI 0)) = true
      rw [decide_eq_false (jne (by omega) (by omega) (by omega))]
      rfl
    have o2 : ∀ M : Mem, C_X9_of M (nI i) (nI 2) = some (M 1 (12 + 4 * i)) := fun M => by rw [e_of (by omega), show 10 + 4 * i + 2 = 12 + 4 * i by omega]
    have p2 : ∀ (M : Mem) (v : Int32), C_X9_sets (nI i) (nI 2) v M = some (up M 1 (12 + 4 * i) v) := fun M v => by rw [e_sets _ (by omega), show 10 + 4 * i + 2 = 12 + 4 * i by omega]
    rw [r1, bd2_s, show inb 0 3058 = true from by decide, gd_t, show Int32.toNatClampNeg 0 = 0 from by decide, n01, nzn, gd_t, jrem_nat (by omega) hn (by omega), nm_eq, r2, bd2_s, show (8 : Int32) = nI 8 from rfl, jrem_nat (by omega) (by omega) (by omega), nm_eq, show inb 6 3058 = true from by decide, gd_t, gd_t, show Int32.toNatClampNeg 6 = 6 from by decide, show (1 : Int32) = nI 1 from rfl, hR3, nm_eq, hie, hce, show (2 : Int32) = nI 2 from rfl, o2, ew0, bd_s, r4, bd2_s, show (99 : Int32) = nI 99 from rfl, e_within2 hw0 hw, bd_s, p2, hR5, bd_s, o2, er5, bd_s, b2, bd_s, p2, bd_s]
    exact hx
  by_cases hz : nI (min 99 (w0 + w)) ≤ bv
  · exact ⟨K5, R5, cls _ (if_pos hz), ref _ (if_pos hz), s05⟩
  · have t6 := t5.s_we (i := i) (w := 0) (by omega) (by omega)
    have s6 : St q K5 R5 n (up K5 (q + 3) i (nI 0)) (up R5 1 (12 + 4 * i) (nI 0)) n := ⟨t6, Nat.le_refl _, FK.up (by omega) (by omega) (fun e => by omega), FR.up (by omega) (by omega), u_oth (by omega)⟩
    obtain ⟨K7, R7, c7, r7, s7⟩ := st_lose t6 hi hc
    refine ⟨K7, R7, cls _ ?_, ref _ ?_, (s05.tr s6).tr s7⟩
    · rw [if_neg hz, c7, bd_s]
    · rw [if_neg hz, r7, bd_s]
end NIGHT
