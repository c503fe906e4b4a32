/-! sheets read into the town -/
theorem miss_e {K R : Mem} {k : Nat} (s1 : K (51 + 2 * k) 1 = R 4 k) : C_X2_isMissing (51 + 2 * k) K = some (if R 4 k = -1 then 1 else 0) := by
  unfold C_X2_isMissing F_X2_isMissing_0
  rw [s1]
  split <;> rfl
theorem sort_ge {x : Int32} (s3 : x = -1 ∨ x = 0 ∨ x = 1) (q : ¬ x = -1) : (0 : Int32) ≤ x := by
  rcases s3 with e | e | e
  · exact absurd e q
  · rw [e]
    decide
  · rw [e]
    decide
theorem reads_loop {K R : Mem} (h : Rel K R) {k z n : Nat} (ht : TS K 21 R n) (hk : k < 4) (hz : R 5 k = nI z) (hz24 : z ≤ 24) : ∀ (r p : Nat), p + r = z → ∀ f1 f2, r < f1 → r < f2 → ∃ v, L_X8_reads_30 K f1 (51 + 2 * k) (nI p) = some v ∧ L_X9_reads_25 R f2 (nI k) (nI p) = some v
  | 0, p, hp, f1, f2, hf1, hf2 => by
    obtain ⟨g1, rfl⟩ : ∃ g, f1 = g + 1 := ⟨f1 - 1, by omega⟩
    obtain ⟨g2, rfl⟩ : ∃ g, f2 = g + 1 := ⟨f2 - 1, by omega⟩
    obtain rfl : p = z := by omega
    have e2 : K (51 + 2 * k) 2 = nI p := (h.sheets k hk).2.1.trans hz
    have hle : nI p ≤ nI p := jle (Nat.le_refl _) (by omega)
    refine ⟨-1000000005, ?_, ?_⟩
    · show F_X8_reads_30 _ _ _ _ = _
      unfold F_X8_reads_30
      rw [e2, if_pos hle]
    · show F_X9_reads_25 _ _ _ _ = _
      unfold F_X9_reads_25
      rw [inb_t (by omega) (by omega), gd_t, tn_nI (by omega), hz, if_pos hle]
  | r + 1, p, hp, f1, f2, hf1, hf2 => by
    obtain ⟨g1, rfl⟩ : ∃ g, f1 = g + 1 := ⟨f1 - 1, by omega⟩
    obtain ⟨g2, rfl⟩ : ∃ g, f2 = g + 1 := ⟨f2 - 1, by omega⟩
    have h12 := ht.2.n12
    have e2 : K (51 + 2 * k) 2 = nI z := (h.sheets k hk).2.1.trans hz
    obtain ⟨v1, v2⟩ := (h.sheets k hk).2.2.2.2 p (by omega)
    have ek : K (51 + 2 * k + 1) p = R 6 (24 * k + p) := by rw [show 51 + 2 * k + 1 = 52 + 2 * k by omega, v1]
    have hlt : ¬ nI z ≤ nI p := jnle (by omega) (by omega)
    have hnum := hasNumber_e (K := K) e2 hz24 (p := p) (by omega)
    have hix : (24 : Int32) * nI k + nI p = nI (24 * k + p) := by rw [show (24 : Int32) = nI 24 from rfl, pk_mul, jn_add]
    obtain ⟨v, w1, w2⟩ := reads_loop h ht hk hz hz24 r (p + 1) (by omega) g1 g2 (by omega) (by omega)
    have cls : ∀ X, (if R 6 (24 * k + p) = -1000000005 then L_X8_reads_30 K g1 (51 + 2 * k) (nI (p + 1)) else if p < n then (if R 6 (24 * k + p) = R 1 (11 + 4 * p) then L_X8_reads_30 K g1 (51 + 2 * k) (nI (p + 1)) else some (nI p)) else some (nI p)) = X → L_X8_reads_30 K (g1 + 1) (51 + 2 * k) (nI p) = X := by
      intro X hx
      show F_X8_reads_30 _ _ _ _ = _
      unfold F_X8_reads_30
      rw [e2, if_neg hlt, hnum, ek, bd_s]
      by_cases q : R 6 (24 * k + p) = -1000000005
      · rw [if_pos q] at hx
        rw [if_pos q, if_pos z00, nm_eq, show (1 : Int32) = nI 1 from rfl, jn_add]
        exact hx
      · rw [if_neg q] at hx
        rw [if_neg q, if_neg n10, e_has ht (by omega), bd_s]
        by_cases qn : p < n
        · rw [if_pos qn] at hx
          rw [if_pos qn, if_neg n10, inb_t (by omega) (by omega), gd_t, inb_t (by omega) (by omega), gd_t, tn_nI (by omega), ek, show K 23 p = R 1 (11 + 4 * p) from ht.1.ga (by omega), nm_eq, show (1 : Int32) = nI 1 from rfl, jn_add]
          exact hx
        · rw [if_neg qn] at hx
          rw [if_neg qn, if_pos z00]
          exact hx
    have ref : ∀ X, (if R 6 (24 * k + p) = -1000000005 then L_X9_reads_25 R g2 (nI k) (nI (p + 1)) else if p < n then (if R 6 (24 * k + p) = R 1 (11 + 4 * p) then L_X9_reads_25 R g2 (nI k) (nI (p + 1)) else some (nI p)) else some (nI p)) = X → L_X9_reads_25 R (g2 + 1) (nI k) (nI p) = X := by
      intro X hx
      show F_X9_reads_25 _ _ _ _ = _
      unfold F_X9_reads_25
      rw [inb_t (by omega) (by omega), gd_t, tn_nI (by omega), hz, if_neg hlt, hix, inb_t (by omega) (by omega), gd_t, tn_nI (by omega), nm_eq]
      by_cases q : R 6 (24 * k + p) = -1000000005
      · rw [if_pos q] at hx
        rw [if_pos q, nm_eq, show (1 : Int32) = nI 1 from rfl, jn_add]
        exact hx
      · rw [if_neg q] at hx
        rw [if_neg q, show inb 0 3058 = true from by decide, gd_t, show Int32.toNatClampNeg 0 = 0 from by decide, ht.2.s0]
        by_cases qn : p < n
        · rw [if_pos qn] at hx
          rw [if_neg (jnle (by omega) (by omega)), show (1 : Int32) = nI 1 from rfl, e_of (by omega), show 10 + 4 * p + 1 = 11 + 4 * p by omega, bd_s, nm_eq, jn_add]
          exact hx
        · rw [if_neg qn] at hx
          rw [if_pos (jle (by omega) (by omega))]
          exact hx
    by_cases q : R 6 (24 * k + p) = -1000000005
    · exact ⟨v, cls _ (by rw [if_pos q]; exact w1), ref _ (by rw [if_pos q]; exact w2)⟩
    · by_cases qn : p < n
      · by_cases qe : R 6 (24 * k + p) = R 1 (11 + 4 * p)
        · exact ⟨v, cls _ (by rw [if_neg q, if_pos qn, if_pos qe]; exact w1), ref _ (by rw [if_neg q, if_pos qn, if_pos qe]; exact w2)⟩
        · exact ⟨nI p, cls _ (by rw [if_neg q, if_pos qn, if_neg qe]), ref _ (by rw [if_neg q, if_pos qn, if_neg qe])⟩
      · exact ⟨nI p, cls _ (by rw [if_neg q, if_neg qn]), ref _ (by rw [if_neg q, if_neg qn])⟩
theorem s_reads : Sim1 Rel A8_reads A9_reads := by
  intro a K R h
  have hF := FU_big
  obtain ⟨n, ht⟩ := h.now
  unfold A8_reads A9_reads C_X8_reads F_X8_reads_0 C_X9_reads F_X9_reads_0
  rcases sheet_e K a with ⟨k, hk, rfl, e1, e2⟩ | ⟨e1, e2⟩
  · obtain ⟨s1, s2, s3, ⟨z, hz24, hz⟩, s5⟩ := h.sheets k hk
    have z1 : ¬ (1 : Int32) = 0 := n10
    rw [e1, e2, bd_s, bd_s, if_neg n10, if_neg n10, inb_t (by omega) (by omega), gd_t, gd_t, tn_nI (by omega), nm_eq]
    show ∃ r K' R', Option.map _ (bd (C_X2_isMissing (51 + 2 * k) K) _) = _ ∧ _
    rw [miss_e s1, bd_s]
    by_cases q : R 4 k = -1
    · have hn : ¬ (0 : Int32) ≤ R 4 k := by
        rw [q]
        decide
      rw [if_pos q, if_neg z1, if_neg hn]
      exact ⟨_, _, _, rfl, rfl, h⟩
    · obtain ⟨v, w1, w2⟩ := reads_loop h ht hk hz hz24 z 0 (by omega) FU FU (by omega) (by omega)
      have w1' : L_X8_reads_30 K FU (51 + 2 * k) 0 = some v := w1
      have w2' : L_X9_reads_25 R FU (nI k) 0 = some v := w2
      rw [if_neg q, if_pos (show (0 : Int32) = 0 from rfl), if_pos (sort_ge s3 q)]
      show ∃ r K' R', Option.map _ (L_X8_reads_30 K FU (51 + 2 * k) 0) = _ ∧ _
      rw [w1', w2']
      exact ⟨_, _, _, rfl, rfl, h⟩
  · rw [e1, e2, bd_s, bd_s, if_pos z00, if_pos z00]
    exact ⟨_, _, _, rfl, rfl, h⟩
theorem up_same {K : Mem} {c i : Nat} : up K c i (K c i) = K := by
  funext a j
  rw [u_if]
  split
  · rename_i e
    rw [e.1, e.2]
  · rfl
theorem pour_skip {K : Mem} {s z n a : Nat} (e7 : K 21 7 = nI n) (e2 : K s 2 = nI z) (hz : z ≤ 24) (hn : n ≤ 12) : ∀ (r p : Nat), p + r = n → z ≤ p → ∀ f, r < f → L_X8_pour_33 f s (nI a) (nI p) K = some (nI a, K)
  | 0, p, hp, hzp, f, hf => by
    obtain ⟨g, rfl⟩ : ∃ g, f = g + 1 := ⟨f - 1, by omega⟩
    show F_X8_pour_33 _ _ _ _ _ = _
    unfold F_X8_pour_33
    rw [e7, if_pos (jle (by omega) (by omega))]
  | r + 1, p, hp, hzp, f, hf => by
    obtain ⟨g, rfl⟩ : ∃ g, f = g + 1 := ⟨f - 1, by omega⟩
    have hnum : C_X2_hasNumber s K (nI p) = some (nI 0) := by
      unfold C_X2_hasNumber F_X2_hasNumber_0 C_X2_hasPlace F_X2_hasPlace_0
      rw [e2, if_neg (show ¬ nI p < 0 from jnlt (b := 0) (by omega) (by omega)), if_pos (jle (by omega) (by omega)), bd_s, if_pos (show (0 : Int32) = 0 from rfl)]
      rfl
    show F_X8_pour_33 _ _ _ _ _ = _
    unfold F_X8_pour_33
    rw [e7, if_neg (jnle (by omega) (by omega)), hnum, bd_s, if_pos z00, nm_eq, show (1 : Int32) = nI 1 from rfl, jn_add]
    exact pour_skip e7 e2 hz hn r (p + 1) (by omega) (by omega) g (by omega)
theorem pour_loop {k z n : Nat} (hk : k < 4) (hz24 : z ≤ 24) : ∀ (r p : Nat) (K R : Mem) (a : Nat), p + r = n → Rel K R → TS K 21 R n → R 5 k = nI z → ∀ f1 f2, r < f1 → r < f2 → ∃ v K' R', L_X8_pour_33 f1 (51 + 2 * k) (nI a) (nI p) K = some (v, K') ∧ L_X9_pour_27 f2 (nI k) (nI a) (nI p) R = some (v, R') ∧ Rel K' R'
  | 0, p, K, R, a, hp, h, ht, hz, f1, f2, hf1, hf2 => by
    obtain ⟨g1, rfl⟩ : ∃ g, f1 = g + 1 := ⟨f1 - 1, by omega⟩
    obtain ⟨g2, rfl⟩ : ∃ g, f2 = g + 1 := ⟨f2 - 1, by omega⟩
    have h12 := ht.2.n12
    have e7 : K 21 7 = nI n := ht.1.nn.trans ht.2.s0
    have e2 : K (51 + 2 * k) 2 = nI z := (h.sheets k hk).2.1.trans hz
    obtain rfl : p = n := by omega
    have hle : nI p ≤ nI p := jle (Nat.le_refl _) (by omega)
    refine ⟨nI a, K, R, ?_, ?_, h⟩
    · show F_X8_pour_33 _ _ _ _ _ = _
      unfold F_X8_pour_33
      rw [e7, if_pos hle]
    · show F_X9_pour_27 _ _ _ _ _ = _
      unfold F_X9_pour_27
      rw [inb_t (by omega) (by omega), gd_t, tn_nI (by omega), hz, show inb 0 3058 = true from by decide, gd_t, show Int32.toNatClampNeg 0 = 0 from by decide, ht.2.s0, if_pos hle]
      split <;> rfl
  | r + 1, p, K, R, a, hp, h, ht, hz, f1, f2, hf1, hf2 => by
    obtain ⟨g1, rfl⟩ : ∃ g, f1 = g + 1 := ⟨f1 - 1, by omega⟩
    obtain ⟨g2, rfl⟩ : ∃ g, f2 = g + 1 := ⟨f2 - 1, by omega⟩
    have h12 := ht.2.n12
    have e7 : K 21 7 = nI n := ht.1.nn.trans ht.2.s0
    have e2 : K (51 + 2 * k) 2 = nI z := (h.sheets k hk).2.1.trans hz
    have hlt : ¬ nI n ≤ nI p := jnle (by omega) (by omega)
    by_cases qz : z ≤ p
    · refine ⟨nI a, K, R, pour_skip e7 e2 hz24 h12 (r + 1) p hp qz (g1 + 1) (by omega), ?_, h⟩
      show F_X9_pour_27 _ _ _ _ _ = _
      unfold F_X9_pour_27
      rw [inb_t (by omega) (by omega), gd_t, tn_nI (by omega), hz, if_pos (jle (by omega) (by omega))]
    · obtain ⟨v1, v2⟩ := (h.sheets k hk).2.2.2.2 p (by omega)
      have ek : K (51 + 2 * k + 1) p = R 6 (24 * k + p) := by rw [show 51 + 2 * k + 1 = 52 + 2 * k by omega, v1]
      have hnum := hasNumber_e (K := K) e2 hz24 (p := p) (by omega)
      have hix : (24 : Int32) * nI k + nI p = nI (24 * k + p) := by rw [show (24 : Int32) = nI 24 from rfl, pk_mul, jn_add]
      have hpl : (10 : Int32) + 4 * nI p + 2 = nI (12 + 4 * p) := by rw [show (10 : Int32) = nI 10 from rfl, show (4 : Int32) = nI 4 from rfl, show (2 : Int32) = nI 2 from rfl, pk_mul, jn_add, jn_add, show 10 + 4 * p + 2 = 12 + 4 * p by omega]
      have ew : K 24 p = R 1 (12 + 4 * p) := ht.1.we (by omega)
      have hchg : ∀ v, C_X9_changes (nI (12 + 4 * p)) v R = some (R 1 (12 + 4 * p), up R 1 (12 + 4 * p) v) := by
        intro v
        unfold C_X9_changes F_X9_changes_0
        rw [inb_t (by omega) (by omega), gd_t, tn_nI (by omega), nm_eq, gd_t, nm_eq]
      have href : ∀ X, (if R 6 (24 * k + p) = -1000000005 then F_X9_pour_90 (fun a1 a2 a3 K => L_X9_pour_27 g2 a1 a2 a3 K) (nI k) (nI a) (nI p) (R 1 (12 + 4 * p)) R else bd (C_X9_within (R 6 (24 * k + p)) (nI 99)) fun r14 => F_X9_pour_90 (fun a1 a2 a3 K => L_X9_pour_27 g2 a1 a2 a3 K) (nI k) (nI a) (nI p) r14 R) = X → L_X9_pour_27 (g2 + 1) (nI k) (nI a) (nI p) R = X := by
        intro X hx
        show F_X9_pour_27 _ _ _ _ _ = _
        unfold F_X9_pour_27
        rw [inb_t (by omega) (by omega), gd_t, tn_nI (by omega), hz, if_neg (jnle (by omega) (by omega)), show inb 0 3058 = true from by decide, gd_t, show Int32.toNatClampNeg 0 = 0 from by decide, ht.2.s0, if_neg hlt, hix, inb_t (by omega) (by omega), gd_t, tn_nI (by omega), nm_eq, hpl, inb_t (by omega) (by omega), gd_t, tn_nI (by omega)]
        exact hx
      have same : ∀ t0, t0 = R 1 (12 + 4 * p) → F_X9_pour_90 (fun a1 a2 a3 K => L_X9_pour_27 g2 a1 a2 a3 K) (nI k) (nI a) (nI p) t0 R = L_X9_pour_27 g2 (nI k) (nI a) (nI (p + 1)) R := by
        rintro t0 rfl
        unfold F_X9_pour_90
        rw [hpl, hchg, bd2_s, if_pos rfl, nm_eq, nm_eq, Int32.add_zero, show (1 : Int32) = nI 1 from rfl, jn_add, up_same]
      obtain ⟨v, K', R', w1, w2, w3⟩ := pour_loop hk hz24 r (p + 1) K R a (by omega) h ht hz g1 g2 (by omega) (by omega)
      by_cases q : R 6 (24 * k + p) = -1000000005
      · refine ⟨v, K', R', ?_, href _ ?_, w3⟩
        · show F_X8_pour_33 _ _ _ _ _ = _
          unfold F_X8_pour_33
          rw [e7, if_neg hlt, hnum, ek, if_pos q, bd_s, if_pos z00, nm_eq, show (1 : Int32) = nI 1 from rfl, jn_add]
          exact w1
        · rw [if_pos q, same _ rfl]
          exact w2
      · obtain ⟨w, hw, hw1, hw2⟩ := e_within (R 6 (24 * k + p))
        by_cases qw : nI w = R 1 (12 + 4 * p)
        · refine ⟨v, K', R', ?_, href _ ?_, w3⟩
          · show F_X8_pour_33 _ _ _ _ _ = _
            unfold F_X8_pour_33
            rw [e7, if_neg hlt, hnum, ek, if_neg q, bd_s, if_neg n10, inb_t (by omega) (by omega), gd_t, tn_nI (by omega), ek, show (99 : Int32) = nI 99 from rfl, hw1, bd_s, inb_t (by omega) (by omega), gd_t, ew, if_pos qw, nm_eq, show (1 : Int32) = nI 1 from rfl, jn_add]
            exact w1
          · rw [if_neg q, hw2, bd_s, same _ qw]
            exact w2
        · have t2 := ht.s_we (i := p) (by omega) hw
          have h2 : Rel (up K 24 p (nI w)) (up R 1 (12 + 4 * p) (nI w)) := h.same (n := n) t2 (FK.up (q := 21) (by omega) (by omega) (fun e => by omega)) (FR.up (by omega) (by omega)) (u_oth (by omega))
          obtain ⟨v, K', R', w1, w2, w3⟩ := pour_loop hk hz24 r (p + 1) _ _ (a + 1) (by omega) h2 t2 (by rw [u_ne (by decide)]; exact hz) g1 g2 (by omega) (by omega)
          refine ⟨v, K', R', ?_, href _ ?_, w3⟩
          · show F_X8_pour_33 _ _ _ _ _ = _
            unfold F_X8_pour_33
            rw [e7, if_neg hlt, hnum, ek, if_neg q, bd_s, if_neg n10, inb_t (by omega) (by omega), gd_t, tn_nI (by omega), ek, show (99 : Int32) = nI 99 from rfl, hw1, bd_s, inb_t (by omega) (by omega), gd_t, ew, if_neg qw, gd_t, nm_eq, nm_eq, nm_eq, show (1 : Int32) = nI 1 from rfl, jn_add, jn_add]
            exact w1
          · rw [if_neg q, hw2, bd_s]
            unfold F_X9_pour_90
            rw [hpl, hchg, bd2_s, if_neg qw, nm_eq, nm_eq, show (1 : Int32) = nI 1 from rfl, jn_add, jn_add]
            exact w2
theorem s_pour : Sim1 Rel A8_pour A9_pour := by
  intro a K R h
  have hF := FU_big
  obtain ⟨n, ht⟩ := h.now
  have h12 := ht.2.n12
  unfold A8_pour A9_pour C_X8_pour F_X8_pour_0 C_X9_pour F_X9_pour_0
  rcases sheet_e K a with ⟨k, hk, rfl, e1, e2⟩ | ⟨e1, e2⟩
  · obtain ⟨s1, s2, s3, ⟨z, hz24, hz⟩, s5⟩ := h.sheets k hk
    have z1 : ¬ (1 : Int32) = 0 := n10
    rw [e1, e2, bd_s, bd_s, if_neg n10, if_neg n10, inb_t (by omega) (by omega), gd_t, gd_t, tn_nI (by omega), nm_eq]
    show ∃ r K' R', bd (C_X2_isMissing (51 + 2 * k) K) _ = _ ∧ _
    rw [miss_e s1, bd_s]
    by_cases q : R 4 k = -1
    · have hn : ¬ (0 : Int32) ≤ R 4 k := by
        rw [q]
        decide
      rw [if_pos q, if_neg z1, if_neg hn]
      exact ⟨_, _, _, rfl, rfl, h⟩
    · rw [if_neg q, if_pos (show (0 : Int32) = 0 from rfl), if_pos (sort_ge s3 q)]
      exact pour_loop hk hz24 n 0 K R 0 (by omega) h ht hz FU FU (by omega) (by omega)
  · rw [e1, e2, bd_s, bd_s, if_pos z00, if_pos z00]
    exact ⟨_, _, _, rfl, rfl, h⟩
