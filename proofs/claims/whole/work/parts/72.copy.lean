/-! a stretch of one sheet into another -/
theorem copy1_loop {k b m : Nat} {c d : Int32} (hb : b + m ≤ 24) (hk : k < 4) : ∀ (r i : Nat) (R : Mem), i + r = m → ∀ f, r < f → ∃ R', L_X9_copy_113 f (nI k) (nI b) c d (nI m) (nI i) R = L_X9_copy_150 FU c d (nI m) 0 R' ∧ (∀ a, a ≠ 18 → R' a = R a) ∧ (∀ j, j < i → R' 18 j = R 18 j) ∧ ∀ j, i ≤ j → j < m → R' 18 j = R 6 (24 * k + b + j)
  | 0, i, R, hi, f, hf => by
    obtain ⟨g, rfl⟩ : ∃ g, f = g + 1 := ⟨f - 1, by omega⟩
    exact ⟨R, if_pos (jle (by omega) (by omega)), fun _ _ => rfl, fun _ _ => rfl, fun j h1 h2 => by omega⟩
  | r + 1, i, R, hi, f, hf => by
    obtain ⟨g, rfl⟩ : ∃ g, f = g + 1 := ⟨f - 1, by omega⟩
    obtain ⟨R', e, h1, h2, h3⟩ := copy1_loop (c := c) (d := d) hb hk r (i + 1) (up R 18 i (R 6 (24 * k + b + i))) (by omega) g (by omega)
    refine ⟨R', ?_, fun a ha => by rw [h1 a ha, u_ne ha], fun j hj => by rw [h2 j (by omega), u_oth (by omega)], fun j hj1 hj2 => ?_⟩
    · refine (if_neg (jnle (by omega) (by omega))).trans ?_
      rw [show (24 : Int32) * nI k + nI b + nI i = nI (24 * k + b + i) from by rw [show (24 : Int32) = nI 24 from rfl, pk_mul, jn_add, jn_add], inb_t (by omega) (by omega), gd_t, inb_t (by omega) (by omega), gd_t, tn_nI (by omega), tn_nI (by omega), nm_eq, nm_eq, show (1 : Int32) = nI 1 from rfl, jn_add]
      exact e
    · by_cases e : j = i
      · subst e
        rw [h2 j (by omega), u_at]
      · rw [h3 j (by omega) hj2, u_ne (by decide)]
theorem copy2_loop {k b m : Nat} (hb : b + m ≤ 24) (hk : k < 4) : ∀ (r i : Nat) (R : Mem), i + r = m → ∀ f, r < f → ∃ R', L_X9_copy_150 f (nI k) (nI b) (nI m) (nI i) R = some (nI m, R') ∧ (∀ a, a ≠ 6 → R' a = R a) ∧ (∀ j, (j < 24 * k + b + i ∨ 24 * k + b + m ≤ j) → R' 6 j = R 6 j) ∧ ∀ j, i ≤ j → j < m → R' 6 (24 * k + b + j) = R 18 j
  | 0, i, R, hi, f, hf => by
    obtain ⟨g, rfl⟩ : ∃ g, f = g + 1 := ⟨f - 1, by omega⟩
    exact ⟨R, if_pos (jle (by omega) (by omega)), fun _ _ => rfl, fun _ _ => rfl, fun j h1 h2 => by omega⟩
  | r + 1, i, R, hi, f, hf => by
    obtain ⟨g, rfl⟩ : ∃ g, f = g + 1 := ⟨f - 1, by omega⟩
    obtain ⟨R', e, h1, h2, h3⟩ := copy2_loop hb hk r (i + 1) (up R 6 (24 * k + b + i) (R 18 i)) (by omega) g (by omega)
    refine ⟨R', ?_, fun a ha => by rw [h1 a ha, u_ne ha], fun j hj => by rw [h2 j (by omega), u_oth (by omega)], fun j hj1 hj2 => ?_⟩
    · refine (if_neg (jnle (by omega) (by omega))).trans ?_
      rw [show (24 : Int32) * nI k + nI b + nI i = nI (24 * k + b + i) from by rw [show (24 : Int32) = nI 24 from rfl, pk_mul, jn_add, jn_add], inb_t (by omega) (by omega), gd_t, inb_t (by omega) (by omega), gd_t, tn_nI (by omega), tn_nI (by omega), nm_eq, nm_eq, show (1 : Int32) = nI 1 from rfl, jn_add]
      exact e
    · by_cases e : j = i
      · subst e
        rw [h2 _ (by omega), u_at]
      · rw [h3 j (by omega) hj2, u_ne (by decide)]
theorem nonneg_nat {x : Int32} (h : ¬ x < 0) : ∃ j, j < 2147483648 ∧ x = nI j := by
  have h1 : (0 : Int) ≤ x.toInt := by
    have := Int32.not_lt.mp h
    exact Int32.le_iff_toInt_le.mp this
  have h2 : x.toInt < 2147483648 := Int32.toInt_lt x
  refine ⟨x.toInt.toNat, by omega, ?_⟩
  apply Int32.toInt_inj.mp
  rw [jn_toInt (by omega)]
  omega
theorem wide_n {j : Nat} (h : j < 2147483648) : Int32.toInt64 (nI j) = lN j := by
  unfold lN nI
  rw [← Int64.toInt_inj, Int32.toInt_toInt64, Int32.toInt_ofNat_of_lt (by omega), Int64.toInt_ofNat_of_lt (by omega)]
theorem cmp_n {a b z : Nat} (ha : a < 2147483648) (hb : b < 2147483648) (hz : z < 2147483648) : (0 < lg_cmp (Int32.toInt64 (nI a) + Int32.toInt64 (nI b)) (Int32.toInt64 (nI z)) ↔ z < a + b) ∧ (lg_cmp (Int32.toInt64 (nI a) + Int32.toInt64 (nI b)) (Int32.toInt64 (nI z)) ≤ 0 ↔ a + b ≤ z) := by
  rw [wide_n ha, wide_n hb, wide_n hz, show lN a + lN b = lN (a + b) from (Int64.ofNat_add a b).symm]
  unfold lg_cmp
  have h1 := pk_lLT (a := z) (b := a + b) (by omega) (by omega)
  have h2 := pk_lEQ (a := a + b) (b := z) (by omega) (by omega)
  by_cases q : z < a + b
  · have q1 : lN (a + b) > lN z := h1.mpr q
    rw [if_pos q1]
    exact ⟨⟨fun _ => q, fun _ => by decide⟩, ⟨fun e => absurd e (by decide), fun e => by omega⟩⟩
  · have q1 : ¬ lN (a + b) > lN z := fun e => q (h1.mp e)
    rw [if_neg q1]
    by_cases q2 : lN (a + b) = lN z
    · rw [if_pos q2]
      exact ⟨⟨fun e => absurd e (by decide), fun e => absurd e q⟩, ⟨fun _ => by omega, fun _ => by decide⟩⟩
    · rw [if_neg q2]
      exact ⟨⟨fun e => absurd e (by decide), fun e => absurd e q⟩, ⟨fun _ => by omega, fun _ => by decide⟩⟩
theorem places_e {K : Mem} {s z a m : Nat} (h : K s 2 = nI z) (hz : z ≤ 24) (ha : a < 2147483648) (hm : m < 2147483648) : C_X2_hasPlaces s K (nI a) (nI m) = some (if a + m ≤ z then nI 1 else nI 0) := by
  unfold C_X2_hasPlaces F_X2_hasPlaces_0
  rw [h, if_neg (show ¬ nI a < 0 from jnlt (b := 0) (by omega) (by omega)), if_neg (show ¬ nI m < 0 from jnlt (b := 0) (by omega) (by omega))]
  by_cases q : z < a
  · rw [if_pos (jlt q (by omega)), if_neg (by omega)]
    rfl
  · rw [if_neg (jnlt (by omega) (by omega)), jn_sub (by omega)]
    by_cases q2 : z - a < m
    · rw [if_pos (jlt q2 (by omega)), if_neg (by omega)]
      rfl
    · rw [if_neg (jnlt (by omega) (by omega)), if_pos (by omega)]
      rfl
theorem cpok_t {a b m : Nat} (h1 : a + m ≤ 24) (h2 : b + m ≤ 24) : cpok (nI a) (nI b) (nI m) 24 24 = true := by
  unfold cpok
  rw [tn_nI (by omega), tn_nI (by omega), tn_nI (by omega)]
  simp only [Bool.and_eq_true, decide_eq_true_eq]
  exact ⟨⟨⟨⟨jle (a := 0) (Nat.zero_le _) (by omega), jle (a := 0) (Nat.zero_le _) (by omega)⟩, jle (a := 0) (Nat.zero_le _) (by omega)⟩, h1⟩, h2⟩
theorem s_copy : Sim5 Rel A8_copy A9_copy := by
  intro a b c d e K R h
  have hF := FU_big
  unfold A8_copy A9_copy C_X8_copy F_X8_copy_0 C_X9_copy F_X9_copy_0
  rcases sheet_e K a with ⟨k, hk, rfl, e1, e2⟩ | ⟨e1, e2⟩
  · rw [e1, e2, bd_s, bd_s, if_neg n10, if_neg n10]
    rcases sheet_e K c with ⟨l, hl, rfl, e3, e4⟩ | ⟨e3, e4⟩
    · obtain ⟨s1, s2, s3, ⟨z, hz24, hz⟩, s5⟩ := h.sheets k hk
      obtain ⟨t1, t2, t3, ⟨y, hy24, hy⟩, t5⟩ := h.sheets l hl
      have z1 : ¬ (1 : Int32) = 0 := n10
      rw [e3, e4, bd_s, bd_s, if_neg n10, if_neg n10, inb_t (by omega) (by omega), inb_t (by omega) (by omega), tn_nI (by omega), tn_nI (by omega)]
      simp only [gd_t, nm_eq]
      show ∃ r K' R', bd (C_X2_isMissing (51 + 2 * k) K) (fun r12 => if r12 = 0 then bd (C_X2_isMissing (51 + 2 * l) K) (fun r15 => if r15 = 0 then if K (51 + 2 * k) 1 = K (51 + 2 * l) 1 then bd (C_X2_hasPlaces (51 + 2 * k) K b e) (fun r19 => if r19 = 0 then some (-1000000013, K) else bd (C_X2_hasPlaces (51 + 2 * l) K d e) (fun r22 => if r22 = 0 then some (-1000000013, K) else gd (cpok b d e 24 24) (some (e, cpm K (51 + 2 * k + 1) (51 + 2 * l + 1) (Int32.toNatClampNeg b) (Int32.toNatClampNeg d) (Int32.toNatClampNeg e))))) else some (-1000000012, K) else some (-1000000011, K)) else some (-1000000011, K)) = _ ∧ _
      rw [miss_e s1, bd_s]
      by_cases q : R 4 k = -1
      · have hn : R 4 k < 0 := by
          rw [q]
          decide
        rw [if_pos q, if_neg z1, if_pos hn]
        exact ⟨_, _, _, rfl, rfl, h⟩
      · rw [if_neg q, if_pos (show (0 : Int32) = 0 from rfl), if_neg (Int32.not_lt.mpr (sort_ge s3 q)), miss_e t1, bd_s]
        by_cases qq : R 4 l = -1
        · have hn : ¬ (0 : Int32) ≤ R 4 l := by
            rw [qq]
            decide
          rw [if_pos qq, if_neg z1, if_neg hn]
          exact ⟨_, _, _, rfl, rfl, h⟩
        · rw [if_neg qq, if_pos (show (0 : Int32) = 0 from rfl), if_pos (sort_ge t3 qq), s1, t1]
          by_cases qs : R 4 k = R 4 l
          · rw [if_pos qs, if_pos qs]
            have bad : ∀ (s : Nat) (x y : Int32), (x < 0 ∨ y < 0) → C_X2_hasPlaces s K x y = some (nI 0) := by
              intro s x y hxy
              unfold C_X2_hasPlaces F_X2_hasPlaces_0
              by_cases q1 : x < 0
              · rw [if_pos q1]
                rfl
              · rw [if_neg q1, if_pos (hxy.resolve_left q1)]
                rfl
            by_cases qb : b < 0
            · rw [if_pos qb, bad _ _ _ (Or.inl qb), bd_s, if_pos z00]
              exact ⟨_, _, _, rfl, rfl, h⟩
            · rw [if_neg qb]
              by_cases qe : e < 0
              · rw [bad _ _ _ (Or.inr qe), bd_s, if_pos z00, if_pos qe]
                split <;> exact ⟨_, _, _, rfl, rfl, h⟩
              · rw [if_neg qe]
                obtain ⟨i, hi, rfl⟩ := nonneg_nat qb
                obtain ⟨m, hm, rfl⟩ := nonneg_nat qe
                rw [places_e (s2.trans hz) hz24 hi hm, bd_s, hz, hy]
                have cm := cmp_n hi hm (z := z) (by omega)
                by_cases qd : d < 0
                · rw [if_pos qd, bad _ _ _ (Or.inl qd), bd_s, if_pos z00]
                  split <;> exact ⟨_, _, _, rfl, rfl, h⟩
                · rw [if_neg qd]
                  obtain ⟨j, hj, rfl⟩ := nonneg_nat qd
                  have cm2 := cmp_n hj hm (z := y) (by omega)
                  rw [places_e (t2.trans hy) hy24 hj hm, bd_s]
                  by_cases q1 : i + m ≤ z
                  · have n1 : ¬ 0 < lg_cmp (Int32.toInt64 (nI i) + Int32.toInt64 (nI m)) (Int32.toInt64 (nI z)) := fun e => by have := cm.1.mp e; omega
                    rw [if_pos q1, if_neg n10, if_neg n1]
                    by_cases q2 : j + m ≤ y
                    · rw [if_pos q2, if_neg n10, if_pos (cm2.2.mpr q2), cpok_t (by omega) (by omega), gd_t, tn_nI hi, tn_nI hj, tn_nI hm]
                      obtain ⟨R1, r1, r2, _, r3⟩ := copy1_loop (k := k) (b := i) (m := m) (c := nI l) (d := nI j) (by omega) hk m 0 R (by omega) FU (by omega)
                      obtain ⟨R2, w1, w2, w3, w4⟩ := copy2_loop (k := l) (b := j) (m := m) (by omega) hl m 0 R1 (by omega) FU (by omega)
                      have rr : L_X9_copy_113 FU (nI k) (nI i) (nI l) (nI j) (nI m) 0 R = some (nI m, R2) := r1.trans w1
                      rw [rr]
                      have q52 : 51 + 2 * l + 1 = 52 + 2 * l := by omega
                      have p52 : 51 + 2 * k + 1 = 52 + 2 * k := by omega
                      rw [q52, p52]
                      refine ⟨_, _, _, rfl, rfl, h.sh hl (fun a h1 h2 => cpm_ne h2) (fun a h1 h2 h3 h4 => by rw [w2 a h3, r2 a h4]) (fun x _ => by rw [w2 4 (by decide), r2 4 (by decide)]) (fun x _ => by rw [w2 5 (by decide), r2 5 (by decide)]) (fun x p hx hp => by rw [w3 _ (by omega), r2 6 (by decide)]) ⟨?_, ?_, ?_, ?_, fun p hp => ?_⟩⟩
                      · rw [cpm_ne (by omega), w2 4 (by decide), r2 4 (by decide)]
                        exact t1
                      · rw [cpm_ne (by omega), w2 5 (by decide), r2 5 (by decide)]
                        exact t2
                      · rw [w2 4 (by decide), r2 4 (by decide)]
                        exact t3
                      · rw [w2 5 (by decide), r2 5 (by decide)]
                        exact ⟨y, hy24, hy⟩
                      · by_cases qp : j ≤ p ∧ p < j + m
                        · have ec : cpm K (52 + 2 * k) (52 + 2 * l) i j m (52 + 2 * l) p = K (52 + 2 * k) (i + (p - j)) := if_pos ⟨rfl, qp.1, qp.2⟩
                          have er : R2 6 (24 * l + p) = R 6 (24 * k + (i + (p - j))) := by
                            have := w4 (p - j) (Nat.zero_le _) (by omega)
                            rw [show 24 * l + j + (p - j) = 24 * l + p by omega, r3 (p - j) (Nat.zero_le _) (by omega)] at this
                            rw [this, Nat.add_assoc]
                          rw [ec, er]
                          exact s5 _ (by omega)
                        · have ec : cpm K (52 + 2 * k) (52 + 2 * l) i j m (52 + 2 * l) p = K (52 + 2 * l) p := if_neg (fun e => qp e.2)
                          rw [ec, w3 _ (by omega), r2 6 (by decide)]
                          exact t5 p hp
                    · have n2 : ¬ lg_cmp (Int32.toInt64 (nI j) + Int32.toInt64 (nI m)) (Int32.toInt64 (nI y)) ≤ 0 := fun e => q2 (cm2.2.mp e)
                      rw [if_neg q2, if_pos z00, if_neg n2]
                      exact ⟨_, _, _, rfl, rfl, h⟩
                  · have n1 : 0 < lg_cmp (Int32.toInt64 (nI i) + Int32.toInt64 (nI m)) (Int32.toInt64 (nI z)) := cm.1.mpr (by omega)
                    rw [if_neg q1, if_pos z00, if_pos n1]
                    exact ⟨_, _, _, rfl, rfl, h⟩
          · rw [if_neg qs, if_neg qs]
            exact ⟨_, _, _, rfl, rfl, h⟩
    · rw [e3, e4, bd_s, bd_s, if_pos z00, if_pos z00]
      exact ⟨_, _, _, rfl, rfl, h⟩
  · rw [e1, e2, bd_s, bd_s, if_pos z00, if_pos z00]
    exact ⟨_, _, _, rfl, rfl, h⟩
