theorem th_try {K0 R0 K R : Mem} (h : Rel K0 R0) (hK : TK K0 K) (hR : TQ R0 R) (h1 : R 1 = R0 1) {m cell i place : Nat} {v : Int32} (hm : m ≤ 60) (hc : 36 ≤ cell) (hc2 : cell ≤ 37) (hp : place ≠ 1) (hp2 : place < 58) (step : ∀ (K' : Mem) (n : Nat), TS K' 35 R n → TS (up K' cell i v) 35 (up R 1 place v) n) : ∃ K1 K2 R2 t R3 R4, C_X6_become 35 21 K = some K1 ∧ C_X6_passNights 35 (nI m) (up K1 cell i v) = some K2 ∧ C_X9_goesOnMany (nI m) (up R 1 place v) = some R2 ∧ C_X6_held 35 K2 = some (nI t) ∧ C_X9_holds R2 = some (nI t, R3) ∧ C_X9_laysBack R3 = some R4 ∧ t ≤ 96 ∧ TK K0 K2 ∧ TQ R0 R4 ∧ R4 1 = R0 1 := by
  have hF := FU_big
  obtain ⟨K1, n, z1, z2, z3, z4, n2, ht2, -⟩ := th_become h hK h1
  have ts := step K1 n z3
  have fk : FK 35 K1 (up K1 cell i v) := FK.up (by omega) (by omega) (fun e => by omega)
  have fr : FR R (up R 1 place v) := FR.up hp hp2
  have xt := z4.fr (by omega) fk fr
  obtain ⟨K2, R2, n3, c2, r2, nm2⟩ := nm_nights (q := 35) (by omega) (m := m) (by omega) m 0 _ _ n (by omega) ts xt FU FU (by omega) (by omega)
  have n12 := nm2.1.2.n12
  obtain ⟨R3, r3, hr3⟩ := e_holds nm2.1.2
  have tq := (hR.fr fr).fr nm2.2.2.2.1
  obtain ⟨R4, b1, b2, b3⟩ := th_back (tq.hr hr3)
  have htl := tot_le (k := kf (R2 1)) (l := lf (R2 1)) n3
  exact ⟨K1, K2, R2, _, R3, R4, z1, c2, r2, e_held nm2.1, r3, b1, by omega, (z2.fk fk).fk nm2.2.2.1, b2, b3⟩
theorem thick_loop {K0 R0 : Mem} (h0 : Rel K0 R0) {i m w : Nat} (hi : i < 12) (hm : m ≤ 60) : ∀ (r j : Nat) (K R : Mem) (x y z : Int32), j + r = 10 → TK K0 K → TQ R0 R → R 1 = R0 1 → (z = -1 ∧ r ≠ 0 ∨ x = y ∧ ∃ t, t ≤ 96 ∧ z = nI t) → ∀ f1 f2, r < f1 → r < f2 → ∃ v K' R', L_X8_thick_31 f1 (nI i) (nI m) (nI w) x z (nI j) K = some (v, K') ∧ L_X9_bestOf_13 f2 (nI (11 + 4 * i)) (nI 9) (nI m) (nI w) y z (nI j) R = some (v, R') ∧ Rel K' R'
  | 0, j, K, R, x, y, z, hj, hK, hR, h1, hz, f1, f2, hf1, hf2 => by
    obtain ⟨g1, rfl⟩ : ∃ g, f1 = g + 1 := ⟨f1 - 1, by omega⟩
    obtain ⟨g2, rfl⟩ : ∃ g, f2 = g + 1 := ⟨f2 - 1, by omega⟩
    rcases hz with ⟨-, hz⟩ | ⟨rfl, -⟩
    · exact absurd rfl hz
    · have hlt : (9 : Int32) < nI j := jlt (a := 9) (by omega) (by omega)
      have hlt2 : nI 9 < nI j := hlt
      by_cases q : nI w = 0
      · exact ⟨x, K, R, (if_pos hlt).trans (if_pos q), (if_pos hlt2).trans (if_pos q), th_rel h0 hK hR h1⟩
      · exact ⟨z, K, R, (if_pos hlt).trans (if_neg q), (if_pos hlt2).trans (if_neg q), th_rel h0 hK hR h1⟩
  | r + 1, j, K, R, x, y, z, hj, hK, hR, h1, hz, f1, f2, hf1, hf2 => by
    obtain ⟨g1, rfl⟩ : ∃ g, f1 = g + 1 := ⟨f1 - 1, by omega⟩
    obtain ⟨g2, rfl⟩ : ∃ g, f2 = g + 1 := ⟨f2 - 1, by omega⟩
    obtain ⟨K1, K2, R2, t, R3, R4, c1, c2, r2, c3, r3, b1, ht, hK2, hR4, h41⟩ := th_try h0 hK hR h1 (m := m) (cell := 37) (i := i) (place := 11 + 4 * i) (v := nI j) hm (by omega) (by omega) (by omega) (by omega) (fun K' n hts => hts.s_ga (i := i) hi (nI j))
    have hlt : ¬ (9 : Int32) < nI j := jnlt (b := j) (a := 9) (by omega) (by omega)
    have hlt2 : ¬ nI 9 < nI j := hlt
    have cls : ∀ X, (if nI t ≤ z then L_X8_thick_31 g1 (nI i) (nI m) (nI w) x z (nI (j + 1)) K2 else L_X8_thick_31 g1 (nI i) (nI m) (nI w) (nI j) (nI t) (nI (j + 1)) K2) = X → L_X8_thick_31 (g1 + 1) (nI i) (nI m) (nI w) x z (nI j) K = X := by
      intro X hx
      refine (if_neg hlt).trans ?_
      rw [c1, bd_s, inb_t (by omega) (by omega), gd_t, tn_nI (by omega), nm_eq, c2, bd_s, c3, bd_s]
      simp only [nm_eq, show (1 : Int32) = nI 1 from rfl, jn_add]
      exact hx
    have ref : ∀ X, (if nI t ≤ z then L_X9_bestOf_13 g2 (nI (11 + 4 * i)) (nI 9) (nI m) (nI w) y z (nI (j + 1)) R4 else L_X9_bestOf_13 g2 (nI (11 + 4 * i)) (nI 9) (nI m) (nI w) (nI j) (nI t) (nI (j + 1)) R4) = X → L_X9_bestOf_13 (g2 + 1) (nI (11 + 4 * i)) (nI 9) (nI m) (nI w) y z (nI j) R = X := by
      intro X hx
      refine (if_neg hlt2).trans ?_
      rw [inb_t (by omega) (by omega), gd_t, tn_nI (by omega), nm_eq, r2, bd_s, r3, bd2_s, b1, bd_s]
      unfold F_X9_bestOf_57
      by_cases q : nI t ≤ z
      · rw [if_pos q] at hx
        rw [if_pos q, if_pos q, nm_eq, show (1 : Int32) = nI 1 from rfl, jn_add]
        exact hx
      · rw [if_neg q] at hx
        rw [if_neg q, if_neg q, nm_eq, show (1 : Int32) = nI 1 from rfl, jn_add]
        exact hx
    by_cases q : nI t ≤ z
    · have hz2 : x = y ∧ ∃ t, t ≤ 96 ∧ z = nI t := by
        rcases hz with ⟨e, -⟩ | e
        · rw [e] at q
          have : (0 : Int32) ≤ -1 := Int32.le_trans (jle (a := 0) (b := t) (Nat.zero_le _) (by omega)) q
          exact absurd this (by decide)
        · exact e
      obtain ⟨v, K', R', v1, v2, v3⟩ := thick_loop h0 hi hm r (j + 1) K2 R4 x y z (by omega) hK2 hR4 h41 (Or.inr hz2) g1 g2 (by omega) (by omega)
      exact ⟨v, K', R', cls _ (by rw [if_pos q]; exact v1), ref _ (by rw [if_pos q]; exact v2), v3⟩
    · obtain ⟨v, K', R', v1, v2, v3⟩ := thick_loop h0 hi hm r (j + 1) K2 R4 (nI j) (nI j) (nI t) (by omega) hK2 hR4 h41 (Or.inr ⟨rfl, t, ht, rfl⟩) g1 g2 (by omega) (by omega)
      exact ⟨v, K', R', cls _ (by rw [if_neg q]; exact v1), ref _ (by rw [if_neg q]; exact v2), v3⟩
theorem plan_e (a b : Int32) : (∃ m w, 1 ≤ m ∧ m ≤ 60 ∧ w ≤ 1 ∧ a = nI m ∧ b = nI w ∧ C_X8_isPlan a b = some (nI 1) ∧ C_X9_isAsked a b = some (nI 1)) ∨ (C_X8_isPlan a b = some (nI 0) ∧ C_X9_isAsked a b = some (nI 0)) := by
  unfold C_X8_isPlan F_X8_isPlan_0 C_X9_isAsked F_X9_isAsked_0
  rw [wide_lit 60 (by decide), wide_lit 0 (by decide), wide_lit 1 (by decide)]
  rcases btw_e a (lo := 1) (hi := 60) (by decide) (by decide) with ⟨m, h1, hm, rfl, d1, d2, d3, d4, d5, d6, e⟩ | ⟨hx, e⟩
  · rw [e, bd_s, if_neg n10, if_neg (show ¬ nI m < 1 from d1), if_neg (show ¬ (60 : Int32) < nI m from d2)]
    rcases btw_e b (lo := 0) (hi := 1) (by decide) (by decide) with ⟨w, _, hw, rfl, f1, f2, f3, f4, f5, f6, f⟩ | ⟨hy, f⟩
    · rw [f, bd_s, if_neg n10, if_neg (show ¬ nI w < 0 from f1), if_neg (show ¬ (1 : Int32) < nI w from f2)]
      exact Or.inl ⟨m, w, h1, hm, hw, rfl, rfl, rfl, rfl⟩
    · rw [f, bd_s, if_pos z00]
      rcases hy with hy | ⟨hy1, hy2, hy3⟩
      · rw [if_pos (show b < 0 from hy)]
        exact Or.inr ⟨rfl, rfl⟩
      · rw [if_neg (show ¬ b < 0 from hy1), if_pos (show (1 : Int32) < b from hy2)]
        exact Or.inr ⟨rfl, rfl⟩
  · rw [e, bd_s, if_pos z00]
    rcases hx with hx | ⟨hx1, hx2, hx3⟩
    · rw [if_pos (show a < 1 from hx)]
      exact Or.inr ⟨rfl, rfl⟩
    · rw [if_neg (show ¬ a < 1 from hx1), if_pos (show (60 : Int32) < a from hx2)]
      exact Or.inr ⟨rfl, rfl⟩
theorem s_thick : Sim3 Rel A8_thick A9_thick := by
  intro a b c K R h
  have hF := FU_big
  obtain ⟨n, ht⟩ := h.now
  have h12 := ht.2.n12
  unfold A8_thick A9_thick C_X8_thick F_X8_thick_0 C_X9_thick F_X9_thick_0 C_X9_bestOf F_X9_bestOf_0
  rcases course_e ht a with ⟨i, hi, rfl, e1, e2⟩ | ⟨e1, e2⟩
  · rw [e1, e2, bd_s, bd_s, if_neg n10, if_neg n10]
    rcases plan_e b c with ⟨m, w, m1, m60, w1, rfl, rfl, f1, f2⟩ | ⟨f1, f2⟩
    · obtain ⟨R1, y1, y2, y3⟩ := th_by (R := R)
      obtain ⟨v, K', R', v1, v2, v3⟩ := thick_loop h (i := i) (m := m) (w := w) (by omega) m60 9 1 K R1 1 0 (-1) (by omega) (fun _ _ => rfl) y2 y3 (Or.inl ⟨rfl, by omega⟩) FU FU (by omega) (by omega)
      have e11 : (10 : Int32) + 4 * nI i + 1 = nI (11 + 4 * i) := by
        rw [show (10 : Int32) = nI 10 from rfl, show (4 : Int32) = nI 4 from rfl, show (1 : Int32) = nI 1 from rfl, pk_mul, jn_add, jn_add, show 10 + 4 * i + 1 = 11 + 4 * i by omega]
      have v2' : L_X9_bestOf_13 FU (nI (11 + 4 * i)) 9 (nI m) (nI w) 0 (-1) 1 R1 = some (v, R') := v2
      have v1' : L_X8_thick_31 FU (nI i) (nI m) (nI w) 1 (-1) 1 K = some (v, K') := v1
      rw [f1, f2, bd_s, bd_s, if_neg n10, if_neg n10, e11, y1, bd_s, v2', bd2_s]
      exact ⟨v, K', R', v1', rfl, v3⟩
    · rw [f1, f2, bd_s, bd_s, if_pos z00, if_pos z00]
      exact ⟨_, _, _, rfl, rfl, h⟩
  · rw [e1, e2, bd_s, bd_s, if_pos z00, if_pos z00]
    exact ⟨_, _, _, rfl, rfl, h⟩
theorem becomes_loop {K0 R0 : Mem} (h0 : Rel K0 R0) {i m w : Nat} (hi : i < 12) (hm : m ≤ 60) : ∀ (r j : Nat) (K R : Mem) (x y z : Int32), j + r = 6 → TK K0 K → TQ R0 R → R 1 = R0 1 → (z = -1 ∧ r ≠ 0 ∨ x = y ∧ ∃ t, t ≤ 96 ∧ z = nI t) → ∀ f1 f2, r < f1 → r < f2 → ∃ v K' R', L_X8_becomes_31 f1 (nI i) (nI m) (nI w) x z (nI j) K = some (v, K') ∧ L_X9_bestOf_13 f2 (nI (10 + 4 * i)) (nI 5) (nI m) (nI w) y z (nI j) R = some (v, R') ∧ Rel K' R'
  | 0, j, K, R, x, y, z, hj, hK, hR, h1, hz, f1, f2, hf1, hf2 => by
    obtain ⟨g1, rfl⟩ : ∃ g, f1 = g + 1 := ⟨f1 - 1, by omega⟩
    obtain ⟨g2, rfl⟩ : ∃ g, f2 = g + 1 := ⟨f2 - 1, by omega⟩
    rcases hz with ⟨-, hz⟩ | ⟨rfl, -⟩
    · exact absurd rfl hz
    · have hlt : (6 : Int32) ≤ nI j := jle (a := 6) (by omega) (by omega)
      have hlt2 : nI 5 < nI j := jlt (by omega) (by omega)
      by_cases q : nI w = 0
      · exact ⟨x, K, R, (if_pos hlt).trans (if_pos q), (if_pos hlt2).trans (if_pos q), th_rel h0 hK hR h1⟩
      · exact ⟨z, K, R, (if_pos hlt).trans (if_neg q), (if_pos hlt2).trans (if_neg q), th_rel h0 hK hR h1⟩
  | r + 1, j, K, R, x, y, z, hj, hK, hR, h1, hz, f1, f2, hf1, hf2 => by
    obtain ⟨g1, rfl⟩ : ∃ g, f1 = g + 1 := ⟨f1 - 1, by omega⟩
    obtain ⟨g2, rfl⟩ : ∃ g, f2 = g + 1 := ⟨f2 - 1, by omega⟩
    obtain ⟨K1, K2, R2, t, R3, R4, c1, c2, r2, c3, r3, b1, ht, hK2, hR4, h41⟩ := th_try h0 hK hR h1 (m := m) (cell := 36) (i := i) (place := 10 + 4 * i) (v := nI j) hm (by omega) (by omega) (by omega) (by omega) (fun K' n hts => hts.s_kd (i := i) (k := j) hi (by omega))
    have hlt : ¬ (6 : Int32) ≤ nI j := jnle (b := j) (a := 6) (by omega) (by omega)
    have hlt2 : ¬ nI 5 < nI j := jnlt (by omega) (by omega)
    have cls : ∀ X, (if nI t ≤ z then L_X8_becomes_31 g1 (nI i) (nI m) (nI w) x z (nI (j + 1)) K2 else L_X8_becomes_31 g1 (nI i) (nI m) (nI w) (nI j) (nI t) (nI (j + 1)) K2) = X → L_X8_becomes_31 (g1 + 1) (nI i) (nI m) (nI w) x z (nI j) K = X := by
      intro X hx
      refine (if_neg hlt).trans ?_
      rw [c1, bd_s, inb_t (by omega) (by omega), gd_t, tn_nI (by omega), nm_eq, c2, bd_s, c3, bd_s]
      simp only [nm_eq, show (1 : Int32) = nI 1 from rfl, jn_add]
      exact hx
    have ref : ∀ X, (if nI t ≤ z then L_X9_bestOf_13 g2 (nI (10 + 4 * i)) (nI 5) (nI m) (nI w) y z (nI (j + 1)) R4 else L_X9_bestOf_13 g2 (nI (10 + 4 * i)) (nI 5) (nI m) (nI w) (nI j) (nI t) (nI (j + 1)) R4) = X → L_X9_bestOf_13 (g2 + 1) (nI (10 + 4 * i)) (nI 5) (nI m) (nI w) y z (nI j) R = X := by
      intro X hx
      refine (if_neg hlt2).trans ?_
      rw [inb_t (by omega) (by omega), gd_t, tn_nI (by omega), nm_eq, r2, bd_s, r3, bd2_s, b1, bd_s]
      unfold F_X9_bestOf_57
      by_cases q : nI t ≤ z
      · rw [if_pos q] at hx
        rw [if_pos q, if_pos q, nm_eq, show (1 : Int32) = nI 1 from rfl, jn_add]
        exact hx
      · rw [if_neg q] at hx
        rw [if_neg q, if_neg q, nm_eq, show (1 : Int32) = nI 1 from rfl, jn_add]
        exact hx
    by_cases q : nI t ≤ z
    · have hz2 : x = y ∧ ∃ t, t ≤ 96 ∧ z = nI t := by
        rcases hz with ⟨e, -⟩ | e
        · rw [e] at q
          have : (0 : Int32) ≤ -1 := Int32.le_trans (jle (a := 0) (b := t) (Nat.zero_le _) (by omega)) q
          exact absurd this (by decide)
        · exact e
      obtain ⟨v, K', R', v1, v2, v3⟩ := becomes_loop h0 hi hm r (j + 1) K2 R4 x y z (by omega) hK2 hR4 h41 (Or.inr hz2) g1 g2 (by omega) (by omega)
      exact ⟨v, K', R', cls _ (by rw [if_pos q]; exact v1), ref _ (by rw [if_pos q]; exact v2), v3⟩
    · obtain ⟨v, K', R', v1, v2, v3⟩ := becomes_loop h0 hi hm r (j + 1) K2 R4 (nI j) (nI j) (nI t) (by omega) hK2 hR4 h41 (Or.inr ⟨rfl, t, ht, rfl⟩) g1 g2 (by omega) (by omega)
      exact ⟨v, K', R', cls _ (by rw [if_neg q]; exact v1), ref _ (by rw [if_neg q]; exact v2), v3⟩
theorem s_becomes : Sim3 Rel A8_becomes A9_becomes := by
  intro a b c K R h
  have hF := FU_big
  obtain ⟨n, ht⟩ := h.now
  have h12 := ht.2.n12
  unfold A8_becomes A9_becomes C_X8_becomes F_X8_becomes_0 C_X9_becomes F_X9_becomes_0 C_X9_bestOf F_X9_bestOf_0
  rcases course_e ht a with ⟨i, hi, rfl, e1, e2⟩ | ⟨e1, e2⟩
  · rw [e1, e2, bd_s, bd_s, if_neg n10, if_neg n10]
    rcases plan_e b c with ⟨m, w, m1, m60, w1, rfl, rfl, f1, f2⟩ | ⟨f1, f2⟩
    · obtain ⟨R1, y1, y2, y3⟩ := th_by (R := R)
      obtain ⟨v, K', R', v1, v2, v3⟩ := becomes_loop h (i := i) (m := m) (w := w) (by omega) m60 6 0 K R1 0 0 (-1) (by omega) (fun _ _ => rfl) y2 y3 (Or.inl ⟨rfl, by omega⟩) FU FU (by omega) (by omega)
      have e11 : (10 : Int32) + 4 * nI i = nI (10 + 4 * i) := by
        rw [show (10 : Int32) = nI 10 from rfl, show (4 : Int32) = nI 4 from rfl, pk_mul, jn_add]
      have v2' : L_X9_bestOf_13 FU (nI (10 + 4 * i)) 5 (nI m) (nI w) 0 (-1) 0 R1 = some (v, R') := v2
      have v1' : L_X8_becomes_31 FU (nI i) (nI m) (nI w) 0 (-1) 0 K = some (v, K') := v1
      rw [f1, f2, bd_s, bd_s, if_neg n10, if_neg n10, e11, y1, bd_s, v2', bd2_s]
      exact ⟨v, K', R', v1', rfl, v3⟩
    · rw [f1, f2, bd_s, bd_s, if_pos z00, if_pos z00]
      exact ⟨_, _, _, rfl, rfl, h⟩
  · rw [e1, e2, bd_s, bd_s, if_pos z00, if_pos z00]
    exact ⟨_, _, _, rfl, rfl, h⟩
