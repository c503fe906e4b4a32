/-! numbers of a sheet -/
theorem place_e {K R : Mem} {k z : Nat} (hk : k < 4) (h2 : K (51 + 2 * k) 2 = nI z) (h5 : R 5 k = nI z) (hz : z ≤ 24) (b : Int32) : (∃ p, p < z ∧ b = nI p ∧ C_X2_hasPlace (51 + 2 * k) K b = some (nI 1) ∧ C_X9_isIn (Int32.toInt64 b) 0 (Int32.toInt64 (R 5 k - 1)) = some (nI 1)) ∨ (C_X2_hasPlace (51 + 2 * k) K b = some (nI 0) ∧ C_X9_isIn (Int32.toInt64 b) 0 (Int32.toInt64 (R 5 k - 1)) = some (nI 0)) := by
  unfold C_X2_hasPlace F_X2_hasPlace_0
  rw [h2, h5, wide_lit 0 (by decide), e_isIn]
  rcases ix_cases b (n := z) (by omega) with hx | ⟨i, hi, rfl⟩
  · refine Or.inr ⟨?_, ?_⟩
    · by_cases q : b < 0
      · rw [if_pos q]
        rfl
      · rw [if_neg q]
        rcases hx with hx | hx
        · exact absurd hx q
        · rw [if_pos hx]
          rfl
    · rw [if_neg]
      · rfl
      · rintro ⟨q1, q2⟩
        rcases hx with hx | hx
        · exact absurd q1 (Int32.not_le.mpr hx)
        · by_cases hn : z = 0
          · subst hn
            have : (0 : Int32) ≤ -1 := Int32.le_trans q1 (by exact q2)
            exact absurd this (by decide)
          · have : nI z ≤ nI z - 1 := Int32.le_trans hx q2
            rw [show (1 : Int32) = nI 1 from rfl, jn_sub (by omega), jn_le (by omega) (by omega)] at this
            omega
  · refine Or.inl ⟨i, hi, rfl, ?_, ?_⟩
    · rw [if_neg (show ¬ nI i < 0 from jnlt (b := 0) (by omega) (by omega)), if_neg (jnle (by omega) (by omega))]
      rfl
    · rw [if_pos]
      · rfl
      · refine ⟨jle (Nat.zero_le _) (by omega), ?_⟩
        rw [show (1 : Int32) = nI 1 from rfl, jn_sub (by omega)]
        exact jle (by omega) (by omega)
/-- one number of one sheet written on both sides -/
theorem Rel.put {K R : Mem} (h : Rel K R) {k p : Nat} {v : Int32} (hk : k < 4) (hp : p < 24) (hv : ShVal v) : Rel (up K (51 + 2 * k + 1) p v) (up R 6 (24 * k + p) v) := by
  have sh := h.sheets k hk
  have q52 : 51 + 2 * k + 1 = 52 + 2 * k := by omega
  rw [q52]
  obtain ⟨h1, h2, h3, h4, h5⟩ := sh
  have hs : SheetR (up K (52 + 2 * k) p v) (up R 6 (24 * k + p) v) k := by
    refine ⟨?_, ?_, ?_, ?_, fun j hj => ?_⟩
    · rw [u_ne (by omega), u_ne (by decide)]
      exact h1
    · rw [u_ne (by omega), u_ne (by decide)]
      exact h2
    · rw [u_ne (by decide)]
      exact h3
    · rw [u_ne (by decide)]
      exact h4
    · by_cases e : j = p
      · subst e
        rw [u_at, u_at]
        exact ⟨rfl, hv⟩
      · rw [u_oth e, u_oth (by omega)]
        exact h5 j hj
  exact h.sh hk (fun a q1 q2 => u_ne q2) (fun a q1 q2 q3 _ => u_ne q3) (fun j _ => by rw [u_ne (by decide)]) (fun j _ => by rw [u_ne (by decide)]) (fun j q hj hq => u_oth (by omega)) hs
theorem short_bv (x : BitVec 32) : (x.setWidth 16).signExtend 32 = (x <<< 16).sshiftRight 16 := by
  apply BitVec.eq_of_getLsbD_eq
  intro i hi
  rw [BitVec.getLsbD_signExtend, BitVec.getLsbD_sshiftRight]
  by_cases h : i < 16
  · have h1 : ¬ 32 ≤ i := by omega
    have h2 : 16 + i < 32 := by omega
    simp [h, h1, h2, hi]
  · have h1 : ¬ 32 ≤ i := by omega
    have h2 : ¬ 16 + i < 32 := by omega
    simp [h, h1, h2, hi, BitVec.msb_eq_getLsbD_last]
theorem short_e (c : Int32) : c.toInt16.toInt32 = jshr (jshl c 16) 16 := by
  apply Int32.toBitVec_inj.mp
  have e : c.toBitVec.signExtend 16 = c.toBitVec.setWidth 16 := BitVec.signExtend_eq_setWidth_of_le _ (by decide)
  have e2 : (c.toBitVec.signExtend 16).signExtend 32 = (c.toBitVec <<< 16).sshiftRight 16 := by
    rw [e]
    exact short_bv c.toBitVec
  exact e2
theorem short_val (c : Int32) : ShVal c.toInt16.toInt32 := by
  refine Or.inr ⟨?_, ?_⟩
  · rw [Int32.le_iff_toInt_le, Int16.toInt_toInt32]
    have := Int16.le_toInt c.toInt16
    show (-99999 : Int) ≤ _
    omega
  · rw [Int32.le_iff_toInt_le, Int16.toInt_toInt32]
    have := Int16.toInt_lt c.toInt16
    show _ ≤ (99999 : Int)
    omega
theorem s_mark : Sim3 Rel A8_mark A9_mark := by
  intro a b c K R h
  unfold A8_mark A9_mark C_X8_mark F_X8_mark_0 C_X9_mark F_X9_mark_0 F_X9_mark_63 F_X9_mark_96
  rcases sheet_e K a with ⟨k, hk, rfl, e1, e2⟩ | ⟨e1, e2⟩
  · obtain ⟨s1, s2, s3, ⟨z, hz24, hz⟩, s5⟩ := h.sheets k hk
    have hm : C_X2_isMissing (51 + 2 * k) K = some (if R 4 k = -1 then 1 else 0) := by
      unfold C_X2_isMissing F_X2_isMissing_0
      rw [s1]
      split <;> rfl
    have z1 : ¬ (1 : Int32) = 0 := n10
    have cNN : C_X9_isIn (Int32.toInt64 c) (-99999) 99999 = some (if (-99999 : Int32) ≤ c ∧ c ≤ 99999 then 1 else 0) := e_isIn (a := c) (b := -99999) (c := 99999)
    rw [e1, e2, bd_s, bd_s, if_neg n10, if_neg n10, inb_t (by omega) (by omega), tn_nI (by omega)]
    simp only [gd_t, nm_eq]
    show ∃ r K' R', bd (C_X2_isMissing (51 + 2 * k) K) _ = _ ∧ _
    rw [hm, bd_s]
    by_cases q : R 4 k = -1
    · have hn : ¬ (0 : Int32) ≤ R 4 k := by
        rw [q]
        decide
      rw [if_pos q, if_neg z1, if_neg hn]
      exact ⟨_, _, _, rfl, rfl, h⟩
    · have hge : (0 : Int32) ≤ R 4 k := by
        rcases s3 with e | e | e
        · exact absurd e q
        · rw [e]
          decide
        · rw [e]
          decide
      rw [if_neg q, if_pos (show (0 : Int32) = 0 from rfl), if_pos hge]
      rcases place_e hk (s2.trans hz) hz hz24 b with ⟨p, hp, rfl, f1, f2⟩ | ⟨f1, f2⟩
      · have hix : (24 : Int32) * nI k + nI p = nI (24 * k + p) := by rw [show (24 : Int32) = nI 24 from rfl, pk_mul, jn_add]
        show ∃ r K' R', bd (C_X2_hasPlace (51 + 2 * k) K (nI p)) _ = _ ∧ _
        rw [f1, f2, bd_s, bd_s, if_neg n10, if_neg n10, hix, inb_t (by omega) (by omega), inb_t (by omega) (by omega), tn_nI (by omega), tn_nI (by omega)]
        simp only [gd_t]
        show ∃ r K' R', (if K (51 + 2 * k) 1 = 0 then _ else _) = _ ∧ _
        rw [s1]
        by_cases q0 : R 4 k = 0
        · rw [if_pos q0, if_pos q0]
          by_cases qn : c = -1000000005
          · rw [if_pos qn, if_pos qn]
            exact ⟨_, _, _, rfl, rfl, h⟩
          · have hne1 : ¬ R 4 k = 1 := by
              rw [q0]
              decide
            rw [if_neg qn, if_neg qn, if_neg hne1, if_pos q0, ← short_e]
            exact ⟨_, _, _, rfl, rfl, h.put hk (by omega) (short_val c)⟩
        · have q1 : R 4 k = 1 := by
            rcases s3 with e | e | e
            · exact absurd e q
            · exact absurd e q0
            · exact e
          rw [if_neg q0, if_neg q0, if_pos q1]
          by_cases qn : c = -1000000005
          · rw [if_pos qn, if_pos qn, if_neg q0]
            exact ⟨_, _, _, rfl, rfl, h.put hk (by omega) (Or.inl qn)⟩
          · rw [if_neg qn, if_neg qn, cNN, bd_s]
            by_cases ql : c < -99999
            · have hc : ¬ ((-99999 : Int32) ≤ c ∧ c ≤ 99999) := fun e => absurd e.1 (Int32.not_le.mpr ql)
              rw [if_pos ql, if_neg hc, if_pos (show (0 : Int32) = 0 from rfl)]
              exact ⟨_, _, _, rfl, rfl, h⟩
            · by_cases qh : c ≤ 99999
              · have hc : (-99999 : Int32) ≤ c ∧ c ≤ 99999 := ⟨Int32.not_lt.mp ql, qh⟩
                rw [if_neg ql, if_pos qh, if_pos hc, if_neg z1, if_neg q0]
                exact ⟨_, _, _, rfl, rfl, h.put hk (by omega) (Or.inr hc)⟩
              · have hc : ¬ ((-99999 : Int32) ≤ c ∧ c ≤ 99999) := fun e => qh e.2
                rw [if_neg ql, if_neg qh, if_neg hc, if_pos (show (0 : Int32) = 0 from rfl)]
                exact ⟨_, _, _, rfl, rfl, h⟩
      · show ∃ r K' R', bd (C_X2_hasPlace (51 + 2 * k) K b) _ = _ ∧ _
        rw [f1, f2, bd_s, bd_s, if_pos z00, if_pos z00]
        exact ⟨_, _, _, rfl, rfl, h⟩
  · rw [e1, e2, bd_s, bd_s, if_pos z00, if_pos z00]
    exact ⟨_, _, _, rfl, rfl, h⟩
