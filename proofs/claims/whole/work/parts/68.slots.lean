/-! slots -/
theorem slot_e (K : Mem) (a : Int32) : (∃ k, k < 5 ∧ a = nI k ∧ C_X8_isSlot K a = some (nI 1) ∧ C_X9_isSlot a = some (nI 1)) ∨ (C_X8_isSlot K a = some (nI 0) ∧ C_X9_isSlot a = some (nI 0)) := by
  unfold C_X8_isSlot F_X8_isSlot_0 C_X9_isSlot F_X9_isSlot_0
  rw [wide_lit 0 (by decide), wide_lit 4 (by decide)]
  rcases btw_e a (lo := 0) (hi := 4) (by decide) (by decide) with ⟨m, h1, hm, rfl, d1, d2, d3, d4, d5, d6, e⟩ | ⟨hx, e⟩
  · rw [e, bd_s, if_neg (show ¬ nI m < 0 from d1), if_neg (show ¬ (5 : Int32) ≤ nI m from d3)]
    exact Or.inl ⟨m, by omega, rfl, rfl, rfl⟩
  · rw [e, bd_s]
    rcases hx with hx | ⟨hx1, hx2, hx3⟩
    · rw [if_pos (show a < 0 from hx)]
      exact Or.inr ⟨rfl, rfl⟩
    · rw [if_neg (show ¬ a < 0 from hx1), if_pos (show (5 : Int32) ≤ a from hx3)]
      exact Or.inr ⟨rfl, rfl⟩
theorem s_ask : Sim2 Rel A8_ask A9_ask := by
  intro a b K R h
  unfold A8_ask A9_ask C_X8_ask F_X8_ask_0 C_X9_ask F_X9_ask_0
  rcases slot_e K a with ⟨k, hk, rfl, e1, e2⟩ | ⟨e1, e2⟩
  · rcases kind_e b with ⟨j, hj, rfl, f1, f2⟩ | ⟨f1, f2⟩
    · obtain ⟨s1, s2⟩ := h.slots k hk
      rw [e1, e2, bd_s, bd_s, if_neg n10, if_neg n10, f1, f2, bd_s, bd_s, if_neg n10, if_neg n10, inb_t (by omega) (by omega), tn_nI (by omega)]
      simp only [gd_t, nm_eq]
      show ∃ r K' R', Option.map _ (if K (60 + 3 * k) 1 = 0 then _ else if K (60 + 3 * k) 1 = 1 then bd (C_X0_isUnder (K (60 + 3 * k) 2) (nI j)) (fun r12 => if r12 = 0 then some (-1000000012) else bd (C_X0_worth (K (60 + 3 * k) 2) (K (60 + 3 * k) 3)) fun r15 => some r15) else _) = _ ∧ _
      rw [s1]
      by_cases q0 : R 7 k = 0
      · rw [if_pos q0, if_pos q0]
        exact ⟨_, _, _, rfl, rfl, h⟩
      · rw [if_neg q0, if_neg q0]
        by_cases q1 : R 7 k = 1
        · have hs : K (60 + 3 * k) 2 = R 8 k ∧ (∃ j, j < 6 ∧ R 8 k = nI j) ∧ C_X0_worth (K (60 + 3 * k) 2) (K (60 + 3 * k) 3) = some (R 9 k) := by
            rcases s2 with e | ⟨_, e⟩ | ⟨e, _⟩ | ⟨e, _⟩
            · exact absurd e q0
            · exact e
            · rw [q1] at e
              exact absurd e (by decide)
            · rw [q1] at e
              exact absurd e (by decide)
          obtain ⟨t1, ⟨i, hi, t2⟩, t3⟩ := hs
          obtain ⟨v, v1, v2⟩ := e_under hi hj
          rw [if_pos q1, if_pos q1, t3, t1, t2, v1, v2, bd_s, bd_s, bd_s]
          by_cases qv : v = 0
          · rw [if_pos qv]
            exact ⟨_, _, _, rfl, rfl, h⟩
          · rw [if_neg qv]
            exact ⟨_, _, _, rfl, rfl, h⟩
        · rw [if_neg q1, if_neg q1]
          exact ⟨_, _, _, rfl, rfl, h⟩
    · rw [e1, e2, bd_s, bd_s, if_neg n10, if_neg n10, f1, f2, bd_s, bd_s, if_pos z00, if_pos z00]
      exact ⟨_, _, _, rfl, rfl, h⟩
  · rw [e1, e2, bd_s, bd_s, if_pos z00, if_pos z00]
    exact ⟨_, _, _, rfl, rfl, h⟩
theorem s_rest : Sim2 Rel A8_rest A9_rest := by
  intro a b K R h
  unfold A8_rest A9_rest C_X8_rest F_X8_rest_0 C_X9_rest F_X9_rest_0
  rcases slot_e K a with ⟨k, hk, rfl, e1, e2⟩ | ⟨e1, e2⟩
  · obtain ⟨s1, s2⟩ := h.slots k hk
    rw [e1, e2, bd_s, bd_s, if_neg n10, if_neg n10, inb_t (by omega) (by omega), tn_nI (by omega)]
    simp only [gd_t, nm_eq]
    show ∃ r K' R', Option.map _ (if K (60 + 3 * k) 1 = 0 then _ else if K (60 + 3 * k) 1 = 3 then (if b = 0 then _ else gd (nz b) (some (jrem (K (60 + 3 * k) 4) b))) else _) = _ ∧ _
    rw [s1]
    by_cases q3 : R 7 k = 3
    · have q0 : ¬ R 7 k = 0 := by
        rw [q3]
        decide
      have hs : K (60 + 3 * k) 4 = R 8 k := by
        rcases s2 with e | ⟨e, _⟩ | ⟨e, _⟩ | ⟨_, e⟩
        · exact absurd e q0
        · rw [q3] at e
          exact absurd e (by decide)
        · rw [q3] at e
          exact absurd e (by decide)
        · exact e
      rw [if_neg q0, if_pos q3, if_pos q3, hs]
      by_cases qb : b = 0
      · rw [if_pos qb]
        exact ⟨_, _, _, rfl, rfl, h⟩
      · have hn : nz b = true := by
          show (!decide (b = 0)) = true
          rw [decide_eq_false qb]
          rfl
        rw [if_neg qb, hn, gd_t]
        exact ⟨_, _, _, rfl, rfl, h⟩
    · rw [if_neg q3]
      by_cases q0 : R 7 k = 0
      · rw [if_pos q0, if_neg q3]
        exact ⟨_, _, _, rfl, rfl, h⟩
      · rw [if_neg q0, if_neg q3]
        exact ⟨_, _, _, rfl, rfl, h⟩
  · rw [e1, e2, bd_s, bd_s, if_pos z00, if_pos z00]
    exact ⟨_, _, _, rfl, rfl, h⟩
theorem sprop_e {K R : Mem} {k z : Nat} (h2 : K (61 + 3 * k) 2 = nI z) (h5 : R 10 k = nI z) (hz : z ≤ 24) (b : Int32) : (∃ p, p < z ∧ b = nI p ∧ C_X2_hasPlace (60 + 3 * k + 1) K b = some (nI 1) ∧ C_X9_isIn (Int32.toInt64 b) 0 (Int32.toInt64 (R 10 k - 1)) = some (nI 1)) ∨ (C_X2_hasPlace (60 + 3 * k + 1) K b = some (nI 0) ∧ C_X9_isIn (Int32.toInt64 b) 0 (Int32.toInt64 (R 10 k - 1)) = some (nI 0)) := by
  unfold C_X2_hasPlace F_X2_hasPlace_0
  rw [show 60 + 3 * k + 1 = 61 + 3 * k by omega, h2, h5, wide_lit 0 (by decide), e_isIn]
  rcases ix_cases b (n := z) (by omega) with hx | ⟨i, hi, rfl⟩
  · refine Or.inr ⟨?_, ?_⟩
    · by_cases q : b < 0
      · rw [if_pos q]
        rfl
      · rw [if_neg q]
        rcases hx with hx | hx
        · exact absurd hx q
        · rw [if_pos hx]
          rfl
    · rw [if_neg]
      · rfl
      · rintro ⟨q1, q2⟩
        rcases hx with hx | hx
        · exact absurd q1 (Int32.not_le.mpr hx)
        · by_cases hn : z = 0
          · subst hn
            have : (0 : Int32) ≤ -1 := Int32.le_trans q1 (by exact q2)
            exact absurd this (by decide)
          · have : nI z ≤ nI z - 1 := Int32.le_trans hx q2
            rw [show (1 : Int32) = nI 1 from rfl, jn_sub (by omega), jn_le (by omega) (by omega)] at this
            omega
  · refine Or.inl ⟨i, hi, rfl, ?_, ?_⟩
    · rw [if_neg (show ¬ nI i < 0 from jnlt (b := 0) (by omega) (by omega)), if_neg (jnle (by omega) (by omega))]
      rfl
    · rw [if_pos]
      · rfl
      · refine ⟨jle (Nat.zero_le _) (by omega), ?_⟩
        rw [show (1 : Int32) = nI 1 from rfl, jn_sub (by omega)]
        exact jle (by omega) (by omega)
theorem s_item : Sim2 Rel A8_item A9_item := by
  intro a b K R h
  unfold A8_item A9_item C_X8_item F_X8_item_0 C_X9_item F_X9_item_0
  rcases slot_e K a with ⟨k, hk, rfl, e1, e2⟩ | ⟨e1, e2⟩
  · obtain ⟨s1, s2⟩ := h.slots k hk
    rw [e1, e2, bd_s, bd_s, if_neg n10, if_neg n10, inb_t (by omega) (by omega), tn_nI (by omega)]
    simp only [gd_t, nm_eq]
    show ∃ r K' R', Option.map _ (if K (60 + 3 * k) 1 = 0 then _ else if K (60 + 3 * k) 1 = 2 then bd (C_X2_hasPlace (60 + 3 * k + 1) K b) (fun r9 => if r9 = 0 then some (-1000000013) else bd (C_X2_hasNumber (60 + 3 * k + 1) K b) fun r12 => if r12 = 0 then some (-1000000012) else gd (inb b 24) (some (K (60 + 3 * k + 1 + 1) (Int32.toNatClampNeg b)))) else _) = _ ∧ _
    rw [s1]
    by_cases q2 : R 7 k = 2
    · have q0 : ¬ R 7 k = 0 := by
        rw [q2]
        decide
      have hs : K (61 + 3 * k) 2 = R 10 k ∧ (∃ m, m ≤ 24 ∧ R 10 k = nI m) ∧ ∀ p, p < 24 → K (62 + 3 * k) p = R 11 (24 * k + p) := by
        rcases s2 with e | ⟨e, _⟩ | ⟨_, e⟩ | ⟨e, _⟩
        · exact absurd e q0
        · rw [q2] at e
          exact absurd e (by decide)
        · exact e
        · rw [q2] at e
          exact absurd e (by decide)
      obtain ⟨t1, ⟨z, hz, t2⟩, t3⟩ := hs
      rw [if_neg q0, if_pos q2, if_pos q2]
      rcases sprop_e (k := k) (t1.trans t2) t2 hz b with ⟨p, hp, rfl, f1, f2⟩ | ⟨f1, f2⟩
      · have hnum := hasNumber_e (K := K) (s := 60 + 3 * k + 1) (by rw [show 60 + 3 * k + 1 = 61 + 3 * k by omega]; exact t1.trans t2) hz hp
        have ek : K (60 + 3 * k + 1 + 1) p = R 11 (24 * k + p) := by rw [show 60 + 3 * k + 1 + 1 = 62 + 3 * k by omega, t3 p (by omega)]
        have hix : (24 : Int32) * nI k + nI p = nI (24 * k + p) := by rw [show (24 : Int32) = nI 24 from rfl, pk_mul, jn_add]
        rw [f1, f2, bd_s, bd_s, if_neg n10, if_neg n10, hnum, ek, bd_s, inb_t (by omega) (by omega), gd_t, tn_nI (by omega), ek, hix, inb_t (by omega) (by omega), gd_t, tn_nI (by omega)]
        by_cases qv : R 11 (24 * k + p) = -1000000005
        · rw [if_pos qv, if_pos z00, if_pos qv]
          exact ⟨_, _, _, rfl, rfl, h⟩
        · rw [if_neg qv, if_neg n10, if_neg qv]
          exact ⟨_, _, _, rfl, rfl, h⟩
      · rw [f1, f2, bd_s, bd_s, if_pos z00, if_pos z00]
        exact ⟨_, _, _, rfl, rfl, h⟩
    · rw [if_neg q2]
      by_cases q0 : R 7 k = 0
      · rw [if_pos q0, if_neg q2]
        exact ⟨_, _, _, rfl, rfl, h⟩
      · rw [if_neg q0, if_neg q2]
        exact ⟨_, _, _, rfl, rfl, h⟩
  · rw [e1, e2, bd_s, bd_s, if_pos z00, if_pos z00]
    exact ⟨_, _, _, rfl, rfl, h⟩
