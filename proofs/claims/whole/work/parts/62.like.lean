/-! sheets of the state; the course most like a sheet -/
theorem fb_small {z : Int} (h1 : -2147483648 ≤ z) (h2 : z < 2147483648) : z.bmod (2 ^ 32) = z := Int.bmod_eq_of_le (by omega) (by omega)
theorem off_e {v : Int32} {w : Nat} (h1 : (-99999 : Int32) ≤ v) (h2 : v ≤ 99999) (hw : w ≤ 99) : ∃ d, d ≤ 100098 ∧ jabs (nI w - v) = nI d ∧ C_X9_off v (nI w) = some (nI d) := by
  have t1 : (-99999 : Int) ≤ v.toInt := Int32.le_iff_toInt_le.mp h1
  have t2 : v.toInt ≤ 99999 := Int32.le_iff_toInt_le.mp h2
  have tw : (nI w).toInt = (w : Int) := jn_toInt (by omega)
  have s1 : (nI w - v).toInt = w - v.toInt := by
    rw [Int32.toInt_sub, tw]
    exact fb_small (by omega) (by omega)
  have s2 : (v - nI w).toInt = v.toInt - w := by
    rw [Int32.toInt_sub, tw]
    exact fb_small (by omega) (by omega)
  refine ⟨((w : Int) - v.toInt).natAbs, by omega, ?_, ?_⟩
  · unfold jabs
    by_cases q : (0 : Int32) ≤ nI w - v
    · rw [if_pos q]
      apply Int32.toInt_inj.mp
      have q2 : (0 : Int) ≤ (nI w - v).toInt := Int32.le_iff_toInt_le.mp q
      rw [s1, jn_toInt (by omega)]
      omega
    · rw [if_neg q]
      apply Int32.toInt_inj.mp
      have q2 : ¬ (0 : Int) ≤ (nI w - v).toInt := fun e => q (Int32.le_iff_toInt_le.mpr e)
      rw [Int32.toInt_sub, show (0 : Int32).toInt = 0 from rfl, s1, jn_toInt (by omega), fb_small (by omega) (by omega)]
      omega
  · unfold C_X9_off F_X9_off_0
    by_cases q : nI w ≤ v
    · have q2 : (nI w).toInt ≤ v.toInt := Int32.le_iff_toInt_le.mp q
      rw [if_pos q]
      congr 1
      apply Int32.toInt_inj.mp
      rw [s2, jn_toInt (by omega)]
      omega
    · have q2 : ¬ (nI w).toInt ≤ v.toInt := fun e => q (Int32.le_iff_toInt_le.mpr e)
      rw [if_neg q]
      congr 1
      apply Int32.toInt_inj.mp
      rw [s1, jn_toInt (by omega)]
      omega
theorem sheet_e (K : Mem) (a : Int32) : (∃ k, k < 4 ∧ a = nI k ∧ C_X8_isSheet K a = some (nI 1) ∧ C_X9_isSheet a = some (nI 1)) ∨ (C_X8_isSheet K a = some (nI 0) ∧ C_X9_isSheet a = some (nI 0)) := by
  unfold C_X8_isSheet F_X8_isSheet_0 C_X9_isSheet F_X9_isSheet_0
  rw [wide_lit 0 (by decide), wide_lit 3 (by decide)]
  rcases btw_e a (lo := 0) (hi := 3) (by decide) (by decide) with ⟨m, h1, hm, rfl, d1, d2, d3, d4, d5, d6, e⟩ | ⟨hx, e⟩
  · rw [e, bd_s, if_neg (show ¬ nI m < 0 from d1), if_neg (show ¬ (4 : Int32) ≤ nI m from d3)]
    exact Or.inl ⟨m, by omega, rfl, rfl, rfl⟩
  · rw [e, bd_s]
    rcases hx with hx | ⟨hx1, hx2, hx3⟩
    · rw [if_pos (show a < 0 from hx)]
      exact Or.inr ⟨rfl, rfl⟩
    · rw [if_neg (show ¬ a < 0 from hx1), if_pos (show (4 : Int32) ≤ a from hx3)]
      exact Or.inr ⟨rfl, rfl⟩
/-- is a sheet's place a number? -/
theorem hasNumber_e {K : Mem} {s z p : Nat} (hz : K s 2 = nI z) (hz24 : z ≤ 24) (hp : p < z) : C_X2_hasNumber s K (nI p) = some (if K (s + 1) p = -1000000005 then nI 0 else nI 1) := by
  unfold C_X2_hasNumber F_X2_hasNumber_0 C_X2_hasPlace F_X2_hasPlace_0
  rw [hz, if_neg (show ¬ nI p < 0 from jnlt (b := 0) (by omega) (by omega)), if_neg (jnle (by omega) (by omega)), bd_s, if_neg (show ¬ (1 : Int32) = 0 from n10), inb_t (by omega) (by omega), gd_t, tn_nI (by omega)]
  split <;> rfl
theorem diff_loop {K0 R0 : Mem} (h0 : Rel K0 R0) {a i z : Nat} (ha : a < 4) (hz : R0 5 a = nI z) (hz24 : z ≤ 24) : ∀ (r p : Nat) (K R : Mem) (n s : Nat), p + r = z → TS K 35 R n → XT K 35 (R 1) → i < n → TK K0 K → TQ R0 R → s ≤ p * 100098 → ∀ f1 f2, r < f1 → r < f2 → ∃ d K' R', L_X8_difference_16 (51 + 2 * a) f1 (nI i) (nI s) (nI p) K = some (nI d, K') ∧ L_X9_offBy_9 f2 (nI a) (nI i) (nI s) (nI p) R = some (nI d, R') ∧ d ≤ 2402352 ∧ TK K0 K' ∧ TQ R0 R' ∧ R' 1 = R0 1
  | 0, p, K, R, n, s, hp, ht, hX, hi, hK, hR, hs, f1, f2, hf1, hf2 => by
    obtain ⟨g1, rfl⟩ : ∃ g, f1 = g + 1 := ⟨f1 - 1, by omega⟩
    obtain ⟨g2, rfl⟩ : ∃ g, f2 = g + 1 := ⟨f2 - 1, by omega⟩
    obtain rfl : p = z := by omega
    obtain ⟨R', b1, b2, b3⟩ := th_back hR
    have sh := h0.sheets a ha
    have e2 : K (51 + 2 * a) 2 = nI p := by rw [hK _ (by omega), sh.2.1, hz]
    have e5 : R 5 a = nI p := by rw [hR.1 5 (by decide), hz]
    refine ⟨s, K, R', ?_, ?_, by omega, hK, b2, b3⟩
    · refine if_pos ?_
      rw [e2]
      exact jle (Nat.le_refl _) (by omega)
    · show F_X9_offBy_9 _ _ _ _ _ _ = _
      unfold F_X9_offBy_9
      rw [inb_t (by omega) (by omega), gd_t, tn_nI (by omega), e5, if_pos (jle (Nat.le_refl _) (by omega)), b1, bd_s]
  | r + 1, p, K, R, n, s, hp, ht, hX, hi, hK, hR, hs, f1, f2, hf1, hf2 => by
    obtain ⟨g1, rfl⟩ : ∃ g, f1 = g + 1 := ⟨f1 - 1, by omega⟩
    obtain ⟨g2, rfl⟩ : ∃ g, f2 = g + 1 := ⟨f2 - 1, by omega⟩
    have h12 := ht.2.n12
    have sh := h0.sheets a ha
    obtain ⟨v1, v2⟩ := sh.2.2.2.2 p (by omega)
    have e2 : K (51 + 2 * a) 2 = nI z := by rw [hK _ (by omega), sh.2.1, hz]
    have e5 : R 5 a = nI z := by rw [hR.1 5 (by decide), hz]
    have e6 : R 6 (24 * a + p) = R0 6 (24 * a + p) := by rw [hR.1 6 (by decide)]
    have ek : K (51 + 2 * a + 1) p = R0 6 (24 * a + p) := by rw [show 51 + 2 * a + 1 = 52 + 2 * a by omega, hK _ (by omega), v1]
    obtain ⟨w, hw, ew⟩ := ht.2.we hi
    have ew2 : K 38 i = nI w := (ht.1.we (by omega)).trans ew
    obtain ⟨K2, R2, n2, c2, r2, x2⟩ := nx_night (q := 35) (by omega) ht hX
    have hnum := hasNumber_e (K := K) e2 hz24 (p := p) (by omega)
    have hlt : ¬ nI z ≤ nI p := jnle (by omega) (by omega)
    have o2 : C_X9_of R (nI i) (nI 2) = some (nI w) := by rw [e_of (by omega), show 10 + 4 * i + 2 = 12 + 4 * i by omega, ew]
    have hi2 : i < n2 := Nat.lt_of_lt_of_le hi x2.2.1
    have hpz : p + 1 + r = z := by omega
    have hg1 : r < g1 := by omega
    have hg2 : r < g2 := by omega
    have next : ∀ s', s' ≤ (p + 1) * 100098 → _ := fun s' hs' => diff_loop h0 (i := i) ha hz hz24 r (p + 1) K2 R2 n2 s' hpz x2.1 (hX.fr (by decide) x2.2.2.1 x2.2.2.2.1) hi2 (hK.fk x2.2.2.1) (hR.fr x2.2.2.2.1) hs' g1 g2 hg1 hg2
    have hsA : s ≤ (p + 1) * 100098 := Nat.le_trans hs (Nat.mul_le_mul_right _ (Nat.le_succ p))
    have hix : (24 : Int32) * nI a + nI p = nI (24 * a + p) := by rw [show (24 : Int32) = nI 24 from rfl, pk_mul, jn_add]
    by_cases q : R0 6 (24 * a + p) = -1000000005
    · obtain ⟨d, K', R', w1, w2, w3⟩ := next s hsA
      refine ⟨d, K', R', ?_, ?_, w3⟩
      · show F_X8_difference_16 _ _ _ _ _ _ = _
        unfold F_X8_difference_16
        rw [e2, if_neg hlt, hnum, ek, if_pos q, bd_s, if_pos z00, c2, bd_s, nm_eq, show (1 : Int32) = nI 1 from rfl, jn_add]
        exact w1
      · show F_X9_offBy_9 _ _ _ _ _ _ = _
        unfold F_X9_offBy_9
        rw [inb_t (by omega) (by omega), gd_t, tn_nI (by omega), e5, if_neg hlt, hix, inb_t (by omega) (by omega), gd_t, tn_nI (by omega), e6, nm_eq, if_pos q, nm_eq, r2, bd_s, nm_eq, show (1 : Int32) = nI 1 from rfl, jn_add, Int32.add_zero]
        exact w2
    · have hv : (-99999 : Int32) ≤ R0 6 (24 * a + p) ∧ R0 6 (24 * a + p) ≤ 99999 := by
        rcases v2 with e | e
        · exact absurd e q
        · exact e
      obtain ⟨d0, d1, d2, d3⟩ := off_e hv.1 hv.2 hw
      have hsB : s + d0 ≤ (p + 1) * 100098 := by
        rw [Nat.succ_mul]
        exact Nat.add_le_add hs d1
      obtain ⟨d, K', R', w1, w2, w3⟩ := next (s + d0) hsB
      refine ⟨d, K', R', ?_, ?_, w3⟩
      · show F_X8_difference_16 _ _ _ _ _ _ = _
        unfold F_X8_difference_16
        rw [e2, if_neg hlt, hnum, ek, if_neg q, bd_s, if_neg n10, inb_t (by omega) (by omega), gd_t, inb_t (by omega) (by omega), gd_t, tn_nI (by omega), tn_nI (by omega), ew2, ek, d2, jn_add, nm_eq, c2, bd_s, nm_eq, show (1 : Int32) = nI 1 from rfl, jn_add]
        exact w1
      · show F_X9_offBy_9 _ _ _ _ _ _ = _
        unfold F_X9_offBy_9
        rw [inb_t (by omega) (by omega), gd_t, tn_nI (by omega), e5, if_neg hlt, hix, inb_t (by omega) (by omega), gd_t, tn_nI (by omega), e6, nm_eq, if_neg q, show (2 : Int32) = nI 2 from rfl, o2, bd_s, d3, bd_s, jn_add, nm_eq, r2, bd_s, nm_eq, show (1 : Int32) = nI 1 from rfl, jn_add]
        exact w2
def TW (R0 R : Mem) : Prop := ∀ a, ¬ (a = 1 ∨ a = 12 ∨ a = 14 ∨ a = 16 ∨ a = 17) → R a = R0 a
theorem th_rel2 {K0 R0 K R : Mem} (h : Rel K0 R0) (hK : TK K0 K) (hR : TW R0 R) (h1 : R 1 = R0 1) : Rel K R := h.quiet ⟨fun a ha => hK a (by omega), by rw [hK 21 (by decide)]⟩ (fun a h1 h2 => hK a (by omega)) ⟨fun a ha => hR a (by omega), fun i _ => by rw [h1]⟩ h1
theorem like_loop {K0 R0 : Mem} (h0 : Rel K0 R0) {n a z w : Nat} (ht0 : TS K0 21 R0 n) (ha : a < 4) (hz : R0 5 a = nI z) (hz24 : z ≤ 24) : ∀ (r i : Nat) (K R : Mem) (x y x2 y2 : Int32), i + r = n → TK K0 K → TW R0 R → R 1 = R0 1 → (y = -1 ∧ x2 = -1 ∧ r ≠ 0 ∨ ∃ j d, j < 12 ∧ d ≤ 2402352 ∧ x = nI j ∧ x2 = nI j ∧ y = nI d ∧ y2 = nI d) → ∀ f1 f2, r < f1 → r < f2 → ∃ v K' R', L_X8_like_59 f1 (51 + 2 * a) (nI w) x y (nI i) K = some (v, K') ∧ L_X9_like_41 f2 (nI a) (nI w) x2 y2 (nI i) R = some (v, R') ∧ Rel K' R'
  | 0, i, K, R, x, y, x2, y2, hi, hK, hR, h1, hs, f1, f2, hf1, hf2 => by
    obtain ⟨g1, rfl⟩ : ∃ g, f1 = g + 1 := ⟨f1 - 1, by omega⟩
    obtain ⟨g2, rfl⟩ : ∃ g, f2 = g + 1 := ⟨f2 - 1, by omega⟩
    obtain rfl : i = n := by omega
    have h12 := ht0.2.n12
    rcases hs with ⟨-, -, e⟩ | ⟨j, d, hj, hd, rfl, rfl, rfl, rfl⟩
    · exact absurd rfl e
    · have e7 : K 21 7 = nI i := by rw [hK 21 (by decide), ht0.1.nn, ht0.2.s0]
      have e0 : R 1 0 = nI i := by rw [h1, ht0.2.s0]
      have hle : nI i ≤ nI i := jle (Nat.le_refl _) (by omega)
      have hge : (0 : Int32) ≤ nI j := jle (a := 0) (Nat.zero_le _) (by omega)
      have hrel := th_rel2 h0 hK hR h1
      have c1 : ∀ X, (if nI w = 0 then some (nI j, K) else some (nI d, K)) = X → L_X8_like_59 (g1 + 1) (51 + 2 * a) (nI w) (nI j) (nI d) (nI i) K = X := by
        intro X hx
        show F_X8_like_59 _ _ _ _ _ _ _ = _
        unfold F_X8_like_59
        rw [e7, if_pos hle]
        exact hx
      have c2 : ∀ X, (if nI w = 0 then some (nI j, R) else some (nI d, R)) = X → L_X9_like_41 (g2 + 1) (nI a) (nI w) (nI j) (nI d) (nI i) R = X := by
        intro X hx
        show F_X9_like_41 _ _ _ _ _ _ _ = _
        unfold F_X9_like_41
        rw [show inb 0 3058 = true from by decide, gd_t, show Int32.toNatClampNeg 0 = 0 from by decide, e0, if_pos hle, if_pos hge]
        exact hx
      by_cases q : nI w = 0
      · exact ⟨nI j, K, R, c1 _ (if_pos q), c2 _ (if_pos q), hrel⟩
      · exact ⟨nI d, K, R, c1 _ (if_neg q), c2 _ (if_neg q), hrel⟩
  | r + 1, i, K, R, x, y, x2, y2, hi, hK, hR, h1, hs, f1, f2, hf1, hf2 => by
    obtain ⟨g1, rfl⟩ : ∃ g, f1 = g + 1 := ⟨f1 - 1, by omega⟩
    obtain ⟨g2, rfl⟩ : ∃ g, f2 = g + 1 := ⟨f2 - 1, by omega⟩
    have hF := FU_big
    have h12 := ht0.2.n12
    obtain ⟨R1, y1, yq, y3⟩ := th_by (R := R)
    have hq1 : TQ R0 R1 := ⟨fun a ha => (yq.1 a ha).trans (hR a ha), fun i hi => by rw [yq.2.1 i hi, h1], fun i hi => by rw [y3, h1]⟩
    have h11 : R1 1 = R0 1 := y3.trans h1
    obtain ⟨K1, n1, z1, z2, z3, z4, n2, ht2, rfl⟩ := th_become h0 hK h11
    obtain rfl := ht2.n_eq ht0.2
    obtain ⟨d, K2, R2, c2, r2, d3, hK2, hR2, h21⟩ := diff_loop h0 (i := i) ha hz hz24 z 0 K1 R1 n2 0 (by omega) z3 z4 (by omega) z2 hq1 (by omega) FU FU (by omega) (by omega)
    have cD : C_X8_difference (51 + 2 * a) (nI i) K = some (nI d, K2) := by
      unfold C_X8_difference F_X8_difference_0
      rw [z1, bd_s]
      exact c2
    have rD : C_X9_offBy (nI a) (nI i) R = some (nI d, R2) := by
      unfold C_X9_offBy F_X9_offBy_0
      rw [y1, bd_s]
      exact r2
    have e7 : K 21 7 = nI n2 := by rw [hK 21 (by decide), ht0.1.nn, ht0.2.s0]
    have e0 : R 1 0 = nI n2 := by rw [h1, ht0.2.s0]
    have hlt : ¬ nI n2 ≤ nI i := jnle (by omega) (by omega)
    have c1 : ∀ X, (if y < 0 then L_X8_like_59 g1 (51 + 2 * a) (nI w) (nI i) (nI d) (nI (i + 1)) K2 else if y ≤ nI d then L_X8_like_59 g1 (51 + 2 * a) (nI w) x y (nI (i + 1)) K2 else L_X8_like_59 g1 (51 + 2 * a) (nI w) (nI i) (nI d) (nI (i + 1)) K2) = X → L_X8_like_59 (g1 + 1) (51 + 2 * a) (nI w) x y (nI i) K = X := by
      intro X hx
      show F_X8_like_59 _ _ _ _ _ _ _ = _
      unfold F_X8_like_59
      rw [e7, if_neg hlt, cD, bd2_s]
      simp only [nm_eq, show (1 : Int32) = nI 1 from rfl, jn_add]
      exact hx
    have c3 : ∀ X, (if x2 < 0 then L_X9_like_41 g2 (nI a) (nI w) (nI i) (nI d) (nI (i + 1)) R2 else if y2 ≤ nI d then L_X9_like_41 g2 (nI a) (nI w) x2 y2 (nI (i + 1)) R2 else L_X9_like_41 g2 (nI a) (nI w) (nI i) (nI d) (nI (i + 1)) R2) = X → L_X9_like_41 (g2 + 1) (nI a) (nI w) x2 y2 (nI i) R = X := by
      intro X hx
      show F_X9_like_41 _ _ _ _ _ _ _ = _
      unfold F_X9_like_41
      rw [show inb 0 3058 = true from by decide, gd_t, show Int32.toNatClampNeg 0 = 0 from by decide, e0, if_neg hlt, rD, bd2_s]
      simp only [nm_eq, show (1 : Int32) = nI 1 from rfl, jn_add]
      exact hx
    have take := like_loop h0 (w := w) ht0 ha hz hz24 r (i + 1) K2 R2 (nI i) (nI d) (nI i) (nI d) (by omega) hK2 hR2.1 h21 (Or.inr ⟨i, d, by omega, d3, rfl, rfl, rfl, rfl⟩) g1 g2 (by omega) (by omega)
    rcases hs with ⟨rfl, rfl, -⟩ | ⟨j, d', hj, hd', rfl, rfl, rfl, rfl⟩
    · obtain ⟨v, K', R', v1, v2, v3⟩ := take
      have hneg : (-1 : Int32) < 0 := by decide
      exact ⟨v, K', R', c1 _ (by rw [if_pos hneg]; exact v1), c3 _ (by rw [if_pos hneg]; exact v2), v3⟩
    · have n1 : ¬ nI d' < (0 : Int32) := jnlt (b := 0) (by omega) (by omega)
      have n2' : ¬ nI j < (0 : Int32) := jnlt (b := 0) (by omega) (by omega)
      by_cases q : nI d' ≤ nI d
      · obtain ⟨v, K', R', v1, v2, v3⟩ := like_loop h0 (w := w) ht0 ha hz hz24 r (i + 1) K2 R2 (nI j) (nI d') (nI j) (nI d') (by omega) hK2 hR2.1 h21 (Or.inr ⟨j, d', hj, hd', rfl, rfl, rfl, rfl⟩) g1 g2 (by omega) (by omega)
        exact ⟨v, K', R', c1 _ (by rw [if_neg n1, if_pos q]; exact v1), c3 _ (by rw [if_neg n2', if_pos q]; exact v2), v3⟩
      · obtain ⟨v, K', R', v1, v2, v3⟩ := take
        exact ⟨v, K', R', c1 _ (by rw [if_neg n1, if_neg q]; exact v1), c3 _ (by rw [if_neg n2', if_neg q]; exact v2), v3⟩
theorem s_like : Sim2 Rel A8_like A9_like := by
  intro a b K R h
  have hF := FU_big
  obtain ⟨n, ht⟩ := h.now
  have h12 := ht.2.n12
  unfold A8_like A9_like C_X8_like F_X8_like_0 C_X9_like F_X9_like_0
  rcases sheet_e K a with ⟨k, hk, rfl, e1, e2⟩ | ⟨e1, e2⟩
  · rw [e1, e2, bd_s, bd_s, if_neg n10, if_neg n10, wide_lit 0 (by decide), wide_lit 1 (by decide)]
    rcases btw_e b (lo := 0) (hi := 1) (by decide) (by decide) with ⟨w, _, hw, rfl, d1, d2, d3, d4, d5, d6, e⟩ | ⟨hx, e⟩
    · obtain ⟨s1, s2, s3, ⟨z, hz24, hz⟩, s5⟩ := h.sheets k hk
      rw [e, bd_s, if_neg n10, if_neg (show ¬ nI w < 0 from d1), if_pos (show nI w ≤ 1 from d5), inb_t (by omega) (by omega), gd_t, gd_t, tn_nI (by omega), nm_eq]
      show ∃ r K' R', bd (C_X2_isMissing (51 + 2 * k) K) _ = _ ∧ _
      unfold C_X2_isMissing F_X2_isMissing_0
      rw [s1]
      by_cases q : R 4 k = -1
      · rw [if_pos q, bd_s, if_neg (show ¬ (1 : Int32) = 0 from n10), q, if_neg (show ¬ (0 : Int32) ≤ -1 from by decide)]
        exact ⟨_, _, _, rfl, rfl, h⟩
      · have hge : (0 : Int32) ≤ R 4 k := by
          rcases s3 with e | e | e
          · exact absurd e q
          · rw [e]
            decide
          · rw [e]
            decide
        rw [if_neg q, bd_s, if_pos (show (0 : Int32) = 0 from rfl), if_pos hge, ht.1.nn, ht.2.s0]
        obtain ⟨G, hG⟩ : ∃ G, FU = G + 1 := ⟨FU - 1, by omega⟩
        by_cases hn : n = 0
        · subst hn
          have : L_X9_like_41 FU (nI k) (nI w) (-1) 0 0 R = some (-1000000005, R) := by
            rw [hG]
            show F_X9_like_41 _ _ _ _ _ _ _ = _
            unfold F_X9_like_41
            rw [show inb 0 3058 = true from by decide, gd_t, show Int32.toNatClampNeg 0 = 0 from by decide, ht.2.s0, if_pos (show nI 0 ≤ (0 : Int32) from by decide), if_neg (show ¬ (0 : Int32) ≤ -1 from by decide)]
          rw [if_pos (show nI 0 = (0 : Int32) from rfl), this]
          exact ⟨_, _, _, rfl, rfl, h⟩
        · rw [if_neg (show ¬ nI n = 0 from jne (b := 0) (by omega) (by omega) (by omega))]
          exact like_loop h (w := w) ht hk hz hz24 n 0 K R 0 (-1) (-1) 0 (by omega) (fun _ _ => rfl) (fun _ _ => rfl) rfl (Or.inl ⟨rfl, rfl, hn⟩) FU FU (by omega) (by omega)
    · rw [e, bd_s, if_pos z00]
      rcases hx with hx | ⟨hx1, hx2, hx3⟩
      · rw [if_pos (show b < 0 from hx)]
        exact ⟨_, _, _, rfl, rfl, h⟩
      · rw [if_neg (show ¬ b < 0 from hx1), if_neg (show ¬ b ≤ 1 from Int32.not_le.mpr hx2)]
        exact ⟨_, _, _, rfl, rfl, h⟩
  · rw [e1, e2, bd_s, bd_s, if_pos z00, if_pos z00]
    exact ⟨_, _, _, rfl, rfl, h⟩
