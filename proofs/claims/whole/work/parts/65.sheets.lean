/-! sheets -/
/-- one sheet changed -/
theorem Rel.sh {K R K' R' : Mem} (h : Rel K R) {k : Nat} (hk : k < 4) (hK : ∀ a, a ≠ 51 + 2 * k → a ≠ 52 + 2 * k → K' a = K a) (hR : ∀ a, a ≠ 4 → a ≠ 5 → a ≠ 6 → a ≠ 18 → R' a = R a) (h4 : ∀ j, j ≠ k → R' 4 j = R 4 j) (h5 : ∀ j, j ≠ k → R' 5 j = R 5 j) (h6 : ∀ j p, j ≠ k → p < 24 → R' 6 (24 * j + p) = R 6 (24 * j + p)) (hs : SheetR K' R' k) : Rel K' R' := by
  refine h.other (fun a h1 h2 => hK a (by omega) (by omega)) (by rw [hK 0 (by omega) (by omega)]) (hR 1 (by decide) (by decide) (by decide) (by decide)) (hR 2 (by decide) (by decide) (by decide) (by decide)) (by rw [hR 0 (by decide) (by decide) (by decide) (by decide)]) (fun j hj => ?_) (fun j hj => (h.slots j hj).same (hK _ (by omega) (by omega)) (hK _ (by omega) (by omega)) (hK _ (by omega) (by omega)) (by rw [hR 7 (by decide) (by decide) (by decide) (by decide)]) (by rw [hR 8 (by decide) (by decide) (by decide) (by decide)]) (by rw [hR 9 (by decide) (by decide) (by decide) (by decide)]) (by rw [hR 10 (by decide) (by decide) (by decide) (by decide)]) (fun p hp => by rw [hR 11 (by decide) (by decide) (by decide) (by decide)])) (h.waiting.same (by rw [hK 0 (by omega) (by omega)]) (by rw [hR 0 (by decide) (by decide) (by decide) (by decide)]) (hK 75 (by omega) (by omega)) (hR 19 (by decide) (by decide) (by decide) (by decide))) (h.tape.same (hK 46 (by omega) (by omega)) (by rw [hR 0 (by decide) (by decide) (by decide) (by decide)]) (hK 47 (by omega) (by omega)) (hR 15 (by decide) (by decide) (by decide) (by decide)))
  by_cases e : j = k
  · subst e
    exact hs
  · exact (h.sheets j hj).same (hK _ (by omega) (by omega)) (hK _ (by omega) (by omega)) (h4 j e) (h5 j e) (fun p hp => h6 j p e hp)
theorem begin_loop {q : Nat} : ∀ (r i : Nat) (K : Mem), i + r = 24 → ∀ f, r < f → ∃ K', L_X2_begin_12 q f (nI i) K = some K' ∧ (∀ a, a ≠ q + 1 → K' a = K a) ∧ (∀ j, j < i → K' (q + 1) j = K (q + 1) j) ∧ ∀ j, i ≤ j → j < 24 → K' (q + 1) j = 0
  | 0, i, K, hi, f, hf => by
    obtain ⟨g, rfl⟩ : ∃ g, f = g + 1 := ⟨f - 1, by omega⟩
    exact ⟨K, if_pos (jle (a := 24) (by omega) (by omega)), fun _ _ => rfl, fun _ _ => rfl, fun j h1 h2 => by omega⟩
  | r + 1, i, K, hi, f, hf => by
    obtain ⟨g, rfl⟩ : ∃ g, f = g + 1 := ⟨f - 1, by omega⟩
    obtain ⟨K', e, h1, h2, h3⟩ := begin_loop (q := q) r (i + 1) (up K (q + 1) i 0) (by omega) g (by omega)
    refine ⟨K', ?_, fun a ha => by rw [h1 a ha, u_ne ha], fun j hj => by rw [h2 j (by omega), u_oth (by omega)], fun j hj1 hj2 => ?_⟩
    · refine (if_neg (jnle (a := 24) (by omega) (by omega))).trans ?_
      rw [inb_t (by omega) (by omega), gd_t, tn_nI (by omega), nm_eq, nm_eq, show (1 : Int32) = nI 1 from rfl, jn_add]
      exact e
    · by_cases e : j = i
      · subst e
        rw [h2 j (by omega), u_at]
      · exact h3 j (by omega) hj2
theorem sheet69_loop {k : Nat} (hk : k < 4) : ∀ (r i : Nat) (R : Mem), i + r = 24 → ∀ f, r < f → ∃ R', L_X9_sheet_69 f (nI k) (nI i) R = some (R' 5 k, R') ∧ (∀ a, a ≠ 6 → R' a = R a) ∧ (∀ j, j < 24 * k + i ∨ 24 * k + 24 ≤ j → R' 6 j = R 6 j) ∧ ∀ j, i ≤ j → j < 24 → R' 6 (24 * k + j) = 0
  | 0, i, R, hi, f, hf => by
    obtain ⟨g, rfl⟩ : ∃ g, f = g + 1 := ⟨f - 1, by omega⟩
    refine ⟨R, (if_pos (jle (a := 24) (by omega) (by omega))).trans ?_, fun _ _ => rfl, fun _ _ => rfl, fun j h1 h2 => by omega⟩
    rw [inb_t (by omega) (by omega), gd_t, tn_nI (by omega)]
  | r + 1, i, R, hi, f, hf => by
    obtain ⟨g, rfl⟩ : ∃ g, f = g + 1 := ⟨f - 1, by omega⟩
    obtain ⟨R', e, h1, h2, h3⟩ := sheet69_loop hk r (i + 1) (up R 6 (24 * k + i) 0) (by omega) g (by omega)
    refine ⟨R', ?_, fun a ha => by rw [h1 a ha, u_ne ha], fun j hj => by rw [h2 j (by omega), u_oth (by omega)], fun j hj1 hj2 => ?_⟩
    · refine (if_neg (jnle (a := 24) (by omega) (by omega))).trans ?_
      rw [show (24 : Int32) * nI k + nI i = nI (24 * k + i) from by rw [show (24 : Int32) = nI 24 from rfl, pk_mul, jn_add], inb_t (by omega) (by omega), gd_t, tn_nI (by omega), nm_eq, nm_eq, show (1 : Int32) = nI 1 from rfl, jn_add]
      exact e
    · by_cases e : j = i
      · subst e
        rw [h2 _ (by omega), u_at]
      · exact h3 j (by omega) hj2
/-- a sheet begun anew on both sides -/
theorem begin_e {K R : Mem} (h : Rel K R) {k z : Nat} {b : Int32} (hk : k < 4) (hz : z ≤ 24) (hb : b = -1 ∨ b = 0 ∨ b = 1) : ∃ K' R', C_X2_begin (51 + 2 * k) b (nI z) K = some K' ∧ L_X9_sheet_69 FU (nI k) (nI 0) (up (up R 4 k b) 5 k (nI z)) = some (nI z, R') ∧ Rel K' R' := by
  have hF := FU_big
  obtain ⟨K', c1, c2, c3, c4⟩ := begin_loop (q := 51 + 2 * k) 24 0 (up (up K (51 + 2 * k) 1 b) (51 + 2 * k) 2 (nI z)) (by omega) FU (by omega)
  obtain ⟨R', r1, r2, r3, r4⟩ := sheet69_loop hk 24 0 (up (up R 4 k b) 5 k (nI z)) (by omega) FU (by omega)
  have q52 : 51 + 2 * k + 1 = 52 + 2 * k := by omega
  rw [q52] at c2 c3 c4
  have e5 : R' 5 k = nI z := by rw [r2 5 (by decide), u_at]
  have e4 : R' 4 k = b := by rw [r2 4 (by decide), u_ne (by decide), u_at]
  rw [e5] at r1
  have k1 : K' (51 + 2 * k) 1 = b := by rw [c2 _ (by omega), u_oth (by decide), u_at]
  have k2 : K' (51 + 2 * k) 2 = nI z := by rw [c2 _ (by omega), u_at]
  have sh : SheetR K' R' k := by
    refine ⟨k1.trans e4.symm, k2.trans e5.symm, ?_, ⟨z, hz, e5⟩, fun p hp => ?_⟩
    · rw [e4]
      exact hb
    · rw [c4 p (by omega) hp, r4 p (by omega) hp]
      exact ⟨rfl, Or.inr (by decide)⟩
  have fK : ∀ a, a ≠ 51 + 2 * k → a ≠ 52 + 2 * k → K' a = K a := fun a h1 h2 => by rw [c2 a h2, u_ne h1, u_ne h1]
  have fR : ∀ a, a ≠ 4 → a ≠ 5 → a ≠ 6 → a ≠ 18 → R' a = R a := fun a h1 h2 h3 _ => by rw [r2 a h3, u_ne h2, u_ne h1]
  have f4 : ∀ j, j ≠ k → R' 4 j = R 4 j := fun j hj => by rw [r2 4 (by decide), u_ne (by decide), u_oth hj]
  have f5 : ∀ j, j ≠ k → R' 5 j = R 5 j := fun j hj => by rw [r2 5 (by decide), u_oth hj, u_ne (by decide)]
  have f6 : ∀ j p, j ≠ k → p < 24 → R' 6 (24 * j + p) = R 6 (24 * j + p) := fun j p hj hp => by rw [r3 _ (by omega), u_ne (by decide), u_ne (by decide)]
  have c1' : C_X2_begin (51 + 2 * k) b (nI z) K = some K' := by
    unfold C_X2_begin F_X2_begin_0
    rw [nm_eq, nm_eq, show (0 : Int32) = nI 0 from rfl]
    exact c1
  exact ⟨K', R', c1', r1, h.sh hk fK fR f4 f5 f6 sh⟩
theorem s_sheet : Sim3 Rel A8_sheet A9_sheet := by
  intro a b c K R h
  unfold A8_sheet A9_sheet C_X8_sheet F_X8_sheet_0 C_X9_sheet F_X9_sheet_0 F_X9_sheet_44
  rcases sheet_e K a with ⟨k, hk, rfl, e1, e2⟩ | ⟨e1, e2⟩
  · have e3 : C_X9_isIn (Int32.toInt64 b) (-1) 1 = some (if (-1 : Int32) ≤ b ∧ b ≤ 1 then 1 else 0) := by
      have := e_isIn (a := b) (b := -1) (c := 1)
      exact this
    rw [e1, e2, bd_s, bd_s, if_neg n10, if_neg n10, e3, bd_s]
    by_cases q1 : b < -1
    · have hc : ¬ ((-1 : Int32) ≤ b ∧ b ≤ 1) := fun e => absurd e.1 (Int32.not_le.mpr q1)
      rw [if_pos q1, if_neg hc, if_pos (show (0 : Int32) = 0 from rfl)]
      exact ⟨_, _, _, rfl, rfl, h⟩
    · rw [if_neg q1]
      by_cases q2 : b ≤ 1
      · have hc : (-1 : Int32) ≤ b ∧ b ≤ 1 := ⟨Int32.not_lt.mp q1, q2⟩
        have z1 : ¬ (1 : Int32) = 0 := n10
        rw [if_pos q2, if_pos hc, if_neg z1, inb_t (by omega) (by omega), tn_nI (by omega)]
        simp only [gd_t, nm_eq]
        rw [show (0 : Int32) = nI 0 from rfl]
        show ∃ r K' R', (if b = -1 then bd (C_X2_begin (51 + 2 * k) (-1) (nI 0) K) _ else if c ≤ 24 then if nI 0 ≤ c then bd (C_X2_begin (51 + 2 * k) b c K) _ else _ else _) = _ ∧ _
        by_cases qm : b = -1
        · subst qm
          obtain ⟨K', R', c1, r1, hr⟩ := begin_e h (b := -1) hk (z := 0) (by omega) (Or.inl rfl)
          have hneg : (-1 : Int32) < nI 0 := by decide
          have hnge : ¬ nI 0 ≤ (-1 : Int32) := by decide
          rw [if_pos rfl, c1, bd_s, if_pos hneg, if_pos hneg, if_neg hnge, r1]
          exact ⟨_, _, _, rfl, rfl, hr⟩
        · have hnn : ¬ b < nI 0 := by
            intro hb
            have h1 : b.toInt < 0 := Int32.lt_iff_toInt_lt.mp hb
            have h2 : (-1 : Int) ≤ b.toInt := Int32.le_iff_toInt_le.mp hc.1
            exact qm (Int32.toInt_inj.mp (by rw [show (-1 : Int32).toInt = -1 from rfl]; omega))
          have hge : nI 0 ≤ b := Int32.not_lt.mp hnn
          have hb01 : b = 0 ∨ b = 1 := by
            have h1 : (0 : Int) ≤ b.toInt := Int32.le_iff_toInt_le.mp hge
            have h2 : b.toInt ≤ 1 := Int32.le_iff_toInt_le.mp q2
            rcases (by omega : b.toInt = 0 ∨ b.toInt = 1) with e | e
            · exact Or.inl (Int32.toInt_inj.mp e)
            · exact Or.inr (Int32.toInt_inj.mp e)
          rw [if_neg qm, if_neg hnn]
          by_cases qc : c ≤ 24
          · rw [if_pos qc, if_pos qc, if_neg hnn]
            by_cases qz : nI 0 ≤ c
            · obtain ⟨z, hz, rfl⟩ : ∃ z, z ≤ 24 ∧ c = nI z := by
                rcases isIn_e c (lo := 0) (hi := 24) (by decide) (by decide) with ⟨j, _, h2, h3, _⟩ | ⟨hx, _⟩
                · exact ⟨j, h2, h3⟩
                · rcases hx with hx | hx
                  · exact absurd qz (Int32.not_le.mpr hx)
                  · exact absurd qc (Int32.not_le.mpr hx)
              obtain ⟨K', R', c1, r1, hr⟩ := begin_e h (b := b) hk hz (Or.inr hb01)
              rw [if_pos qz, if_pos qz, if_pos hge, c1, bd_s, r1]
              exact ⟨_, _, _, rfl, rfl, hr⟩
            · rw [if_neg qz, if_neg qz]
              exact ⟨_, _, _, rfl, rfl, h⟩
          · rw [if_neg qc, if_neg qc]
            exact ⟨_, _, _, rfl, rfl, h⟩
      · have hc : ¬ ((-1 : Int32) ≤ b ∧ b ≤ 1) := fun e => q2 e.2
        rw [if_neg q2, if_neg hc, if_pos (show (0 : Int32) = 0 from rfl)]
        exact ⟨_, _, _, rfl, rfl, h⟩
  · rw [e1, e2, bd_s, bd_s, if_pos z00, if_pos z00]
    exact ⟨_, _, _, rfl, rfl, h⟩
