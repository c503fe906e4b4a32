/-! a whole night; many nights -/
def Nx (q : Nat) (K R : Mem) (n : Nat) (K' R' : Mem) (n' : Nat) : Prop := TS K' q R' n' ∧ n ≤ n' ∧ FK q K K' ∧ FR R R' ∧ R' 1 2 = R 1 2 + nI 1
theorem Nx.st {q : Nat} {K R K1 R1 K2 R2 : Mem} {n n1 n2 : Nat} (h : St q K R n K1 R1 n1) (h2 : Nx q K1 R1 n1 K2 R2 n2) : Nx q K R n K2 R2 n2 := ⟨h2.1, Nat.le_trans h.2.1 h2.2.1, h.2.2.1.tr h2.2.2.1, h.2.2.2.1.tr h2.2.2.2.1, by rw [h2.2.2.2.2, h.2.2.2.2]⟩
theorem nz_nI {n : Nat} (hn : 0 < n) (h : n < 2147483648) : nz (nI n) = true := by
  show (!decide (nI n = nI 0)) = true
  rw [decide_eq_false (jne (by omega) (by omega) (by omega))]
  rfl
section NIGHTS
variable {K R : Mem} {q n : Nat}
theorem nx_ni (h : TS K q R n) : Nx q K R n (up K q 11 (R 1 2 + nI 1)) (up R 1 2 (R 1 2 + nI 1)) n := ⟨h.s_ni _, Nat.le_refl _, FK.up (by omega) (by omega) (fun _ => by decide), FR.up (by decide) (by decide), u_at⟩
theorem nx_112 (h : TS K q R n) : ∃ K' R', F_X6_passNight_112 q K = some K' ∧ F_X9_goesOn_127 R = some R' ∧ Nx q K R n K' R' n := by
  obtain ⟨d, K1, R1, hd, c1, r1, s1⟩ := st_draw h
  have eru : K1 (q + 5) 2 = R1 1 5 := s1.1.1.ru (by omega)
  have eni : K1 q 11 = R1 1 2 := s1.1.1.ni
  unfold F_X6_passNight_112 F_X9_goesOn_127
  rw [c1, r1, bd2_s, bd2_s, show inb 2 3 = true from by decide, gd_t, show Int32.toNatClampNeg 2 = 2 from by decide, show inb 5 3058 = true from by decide, gd_t, show Int32.toNatClampNeg 5 = 5 from by decide, eru, show inb 2 3058 = true from by decide, gd_t, gd_t, show (1 : Int32) = nI 1 from rfl, eni, nm_eq, nm_eq]
  by_cases hz : R1 1 5 ≤ jrem (nI d) 100
  · rw [if_pos hz, if_pos hz]
    exact ⟨_, _, rfl, rfl, Nx.st s1 (nx_ni s1.1)⟩
  · obtain ⟨K2, R2, c2, r2, s2⟩ := st_mend s1.1
    have eni2 : K2 q 11 = R2 1 2 := s2.1.1.ni
    rw [if_neg hz, if_neg hz, c2, r2, bd_s, bd_s, gd_t, gd_t, eni2, nm_eq, nm_eq]
    exact ⟨_, _, rfl, rfl, Nx.st (s1.tr s2) (nx_ni s2.1)⟩
theorem nx_65 (h : TS K q R n) : ∃ K' R', F_X6_passNight_65 q K = some K' ∧ F_X9_goesOn_78 R = some R' ∧ Nx q K R n K' R' n := by
  obtain ⟨d, K1, R1, hd, c1, r1, s1⟩ := st_draw h
  have h12 := h.2.n12
  have eru : K1 (q + 5) 1 = R1 1 4 := s1.1.1.ru (by omega)
  have e7 : K1 q 7 = nI n := s1.1.1.nn.trans s1.1.2.s0
  have e0 : R1 1 0 = nI n := s1.1.2.s0
  unfold F_X6_passNight_65 F_X9_goesOn_78
  rw [c1, r1, bd2_s, bd2_s, show inb 1 3 = true from by decide, gd_t, show Int32.toNatClampNeg 1 = 1 from by decide, show inb 4 3058 = true from by decide, gd_t, show Int32.toNatClampNeg 4 = 4 from by decide, eru, show inb 0 3058 = true from by decide, gd_t, show Int32.toNatClampNeg 0 = 0 from by decide, e7, e0]
  obtain ⟨Ka, Ra, ca, ra, na⟩ := nx_112 s1.1
  by_cases hz : R1 1 4 ≤ jrem (nI d) 100
  · rw [if_pos hz, if_pos hz]
    exact ⟨_, _, ca, ra, Nx.st s1 na⟩
  · rw [if_neg hz, if_neg hz]
    by_cases hn : n = 0
    · subst hn
      rw [if_pos (show nI 0 ≤ (0 : Int32) from by decide), if_pos (show nI 0 ≤ (0 : Int32) from by decide)]
      exact ⟨_, _, ca, ra, Nx.st s1 na⟩
    · have hng : ¬ nI n ≤ (0 : Int32) := jnle (b := 0) (a := n) (by omega) (by omega)
      obtain ⟨d2, K2, R2, hd2, c2, r2, s2⟩ := st_draw s1.1
      obtain ⟨d3, K3, R3, hd3, c3, r3, s3⟩ := st_draw s2.1
      have e72 : K2 q 7 = nI n := s2.1.1.nn.trans s2.1.2.s0
      have e02 : R2 1 0 = nI n := s2.1.2.s0
      have hi : d2 % n < n := Nat.mod_lt _ (by omega)
      have hc : d3 % 8 < 8 := Nat.mod_lt _ (by omega)
      obtain ⟨K4, R4, c4, r4, s4⟩ := st_lose s3.1 hi hc
      obtain ⟨K5, R5, c5, r5, n5⟩ := nx_112 s4.1
      rw [if_neg hng, if_neg hng, c2, r2, bd2_s, bd2_s, gd_t, e72, e02, nz_nI (by omega) (by omega), gd_t, gd_t, jrem_nat (by omega) (by omega) (by omega), nm_eq, nm_eq, c3, r3, bd2_s, bd2_s, show (8 : Int32) = nI 8 from rfl, jrem_nat (by omega) (by omega) (by omega), nm_eq, c4, r4, bd_s, bd_s]
      exact ⟨_, _, c5, r5, Nx.st (((s1.tr s2).tr s3).tr s4) n5⟩
theorem nx_43 (hq : 21 ≤ q) : ∀ (r i : Nat) (K R : Mem), i + r = 3 → TS K q R n → XT K q (R 1) → ∀ f1 f2, r < f1 → r < f2 → ∃ K' R', L_X6_passNight_43 q f1 (nI i) K = some K' ∧ L_X9_goesOn_54 f2 (nI i) R = some R' ∧ Nx q K R n K' R' n
  | 0, i, K, R, hi, h, hX, f1, f2, hf1, hf2 => by
    obtain ⟨g1, rfl⟩ : ∃ g, f1 = g + 1 := ⟨f1 - 1, by omega⟩
    obtain ⟨g2, rfl⟩ : ∃ g, f2 = g + 1 := ⟨f2 - 1, by omega⟩
    obtain rfl : i = 3 := by omega
    obtain ⟨K', R', c, r, nx⟩ := nx_65 h
    refine ⟨K', R', ?_, ?_, nx⟩
    · show F_X6_passNight_43 _ q _ _ = _
      unfold F_X6_passNight_43
      rw [if_pos (show (3 : Int32) ≤ nI 3 from by decide)]
      exact c
    · show F_X9_goesOn_54 _ _ _ = _
      unfold F_X9_goesOn_54
      rw [if_pos (show (3 : Int32) ≤ nI 3 from by decide)]
      exact r
  | r + 1, i, K, R, hi, h, hX, f1, f2, hf1, hf2 => by
    obtain ⟨g1, rfl⟩ : ∃ g, f1 = g + 1 := ⟨f1 - 1, by omega⟩
    obtain ⟨g2, rfl⟩ : ∃ g, f2 = g + 1 := ⟨f2 - 1, by omega⟩
    have h12 := h.2.n12
    have e3 : ¬ (3 : Int32) ≤ nI i := jnle (b := i) (a := 3) (by omega) (by omega)
    have e7 : K q 7 = nI n := h.1.nn.trans h.2.s0
    have e0 : R 1 0 = nI n := h.2.s0
    by_cases hn : n = 0
    · obtain ⟨K', R', c, r, nx⟩ := nx_65 h
      have hz : nI n ≤ (0 : Int32) := by
        rw [hn]
        decide
      refine ⟨K', R', ?_, ?_, nx⟩
      · show F_X6_passNight_43 _ q _ _ = _
        unfold F_X6_passNight_43
        rw [if_neg e3, e7, if_pos hz]
        exact c
      · show F_X9_goesOn_54 _ _ _ = _
        unfold F_X9_goesOn_54
        rw [if_neg e3, show inb 0 3058 = true from by decide, gd_t, show Int32.toNatClampNeg 0 = 0 from by decide, e0, if_pos hz]
        exact r
    · have hng : ¬ nI n ≤ (0 : Int32) := jnle (b := 0) (a := n) (by omega) (by omega)
      obtain ⟨K1, R1, c1, r1, s1⟩ := st_walk hq h hX (by omega)
      obtain ⟨K', R', c, r', nx⟩ := nx_43 hq r (i + 1) K1 R1 (by omega) s1.1 (s1.xt hq hX) g1 g2 (by omega) (by omega)
      refine ⟨K', R', ?_, ?_, Nx.st s1 nx⟩
      · show F_X6_passNight_43 _ q _ _ = _
        unfold F_X6_passNight_43
        rw [if_neg e3, e7, if_neg hng, c1, bd_s, nm_eq, show (1 : Int32) = nI 1 from rfl, jn_add]
        exact c
      · show F_X9_goesOn_54 _ _ _ = _
        unfold F_X9_goesOn_54
        rw [if_neg e3, show inb 0 3058 = true from by decide, gd_t, show Int32.toNatClampNeg 0 = 0 from by decide, e0, if_neg hng, r1, bd_s, nm_eq, show (1 : Int32) = nI 1 from rfl, jn_add]
        exact r'
theorem nx_night (hq : 21 ≤ q) (h : TS K q R n) (hX : XT K q (R 1)) : ∃ K' R' n', C_X6_passNight q K = some K' ∧ C_X9_goesOn R = some R' ∧ Nx q K R n K' R' n' := by
  have hF := FU_big
  obtain ⟨d, K1, R1, hd, c1, r1, s1⟩ := st_draw h
  have h12 := h.2.n12
  have eru : K1 (q + 5) 0 = R1 1 3 := s1.1.1.ru (by omega)
  unfold C_X6_passNight F_X6_passNight_0 C_X9_goesOn F_X9_goesOn_0
  rw [c1, r1, bd2_s, bd2_s, show inb 0 3 = true from by decide, gd_t, show Int32.toNatClampNeg 0 = 0 from by decide, show inb 3 3058 = true from by decide, gd_t, show Int32.toNatClampNeg 3 = 3 from by decide, eru]
  by_cases hz : R1 1 3 ≤ jrem (nI d) 100
  · obtain ⟨K', R', c, r, nx⟩ := nx_43 hq 3 0 K1 R1 (by omega) s1.1 (s1.xt hq hX) FU FU (by omega) (by omega)
    rw [if_pos hz, if_pos hz]
    exact ⟨K', R', n, c, r, Nx.st s1 nx⟩
  · obtain ⟨d2, K2, R2, hd2, c2, r2, s2⟩ := st_draw s1.1
    obtain ⟨d3, K3, R3, hd3, c3, r3, s3⟩ := st_draw s2.1
    have s03 := (s1.tr s2).tr s3
    rw [if_neg hz, if_neg hz, c2, r2, bd2_s, bd2_s, show (6 : Int32) = nI 6 from rfl, jrem_nat (by omega) (by omega) (by omega), nm_eq, nm_eq, c3, r3, bd2_s, bd2_s, show (9 : Int32) = nI 9 from rfl, jrem_nat (by omega) (by omega) (by omega), nm_eq, nm_eq, show inb 0 3058 = true from by decide, gd_t, s03.1.2.s0]
    by_cases hn : n < 12
    · obtain ⟨K4, R4, c4, r4, s4⟩ := st_add s03.1 hn (k := d2 % 6) (l := 0) (Nat.mod_lt _ (by omega)) (by omega) (1 + nI (d3 % 9))
      obtain ⟨K', R', c, r, nx⟩ := nx_43 hq 3 0 K4 R4 (by omega) s4.1 ((s03.tr s4).xt hq hX) FU FU (by omega) (by omega)
      rw [if_neg (show ¬ (12 : Int32) ≤ nI n from jnle (a := 12) (by omega) (by omega)), show (0 : Int32) = nI 0 from rfl, c4, r4, bd_s, bd_s]
      exact ⟨K', R', n + 1, c, r, Nx.st (s03.tr s4) nx⟩
    · obtain rfl : n = 12 := by omega
      have hfull : ∀ a b c, C_X6_add q a b c K3 = some K3 := fun a b c => b_full s03.1 a b c
      obtain ⟨K', R', c, r, nx⟩ := nx_43 hq 3 0 K3 R3 (by omega) s03.1 (s03.xt hq hX) FU FU (by omega) (by omega)
      rw [if_pos (show (12 : Int32) ≤ nI 12 from by decide), hfull, bd_s]
      exact ⟨K', R', 12, c, r, Nx.st s03 nx⟩
/-- m nights -/
def Nm (q m : Nat) (K R : Mem) (n : Nat) (K' R' : Mem) (n' : Nat) : Prop := TS K' q R' n' ∧ n ≤ n' ∧ FK q K K' ∧ FR R R' ∧ R' 1 2 = R 1 2 + nI m
theorem nm_nights (hq : 21 ≤ q) {m : Nat} (hm : m ≤ 9999) : ∀ (r i : Nat) (K R : Mem) (n : Nat), i + r = m → TS K q R n → XT K q (R 1) → ∀ f1 f2, r < f1 → r < f2 → ∃ K' R' n', L_X6_passNights_2 q f1 (nI m) (nI i) K = some K' ∧ L_X9_goesOnMany_2 f2 (nI m) (nI i) R = some R' ∧ Nm q r K R n K' R' n'
  | 0, i, K, R, n, hi, h, hX, f1, f2, hf1, hf2 => by
    obtain ⟨g1, rfl⟩ : ∃ g, f1 = g + 1 := ⟨f1 - 1, by omega⟩
    obtain ⟨g2, rfl⟩ : ∃ g, f2 = g + 1 := ⟨f2 - 1, by omega⟩
    refine ⟨K, R, n, if_pos (jle (by omega) (by omega)), if_pos (jle (by omega) (by omega)), h, Nat.le_refl _, FK.rf, FR.rf, ?_⟩
    rw [show nI 0 = 0 from rfl, Int32.add_zero]
  | r + 1, i, K, R, n, hi, h, hX, f1, f2, hf1, hf2 => by
    obtain ⟨g1, rfl⟩ : ∃ g, f1 = g + 1 := ⟨f1 - 1, by omega⟩
    obtain ⟨g2, rfl⟩ : ∃ g, f2 = g + 1 := ⟨f2 - 1, by omega⟩
    obtain ⟨K1, R1, n1, c1, r1, x1⟩ := nx_night hq h hX
    obtain ⟨K', R', n', c, r', x2⟩ := nm_nights hq hm r (i + 1) K1 R1 n1 (by omega) x1.1 (hX.fr hq x1.2.2.1 x1.2.2.2.1) g1 g2 (by omega) (by omega)
    have hlt : ¬ nI m ≤ nI i := jnle (by omega) (by omega)
    refine ⟨K', R', n', ?_, ?_, x2.1, Nat.le_trans x1.2.1 x2.2.1, x1.2.2.1.tr x2.2.2.1, x1.2.2.2.1.tr x2.2.2.2.1, ?_⟩
    · refine (if_neg hlt).trans ?_
      rw [c1, bd_s, nm_eq, show (1 : Int32) = nI 1 from rfl, jn_add]
      exact c
    · refine (if_neg hlt).trans ?_
      rw [r1, bd_s, nm_eq, show (1 : Int32) = nI 1 from rfl, jn_add]
      exact r'
    · rw [x2.2.2.2.2, x1.2.2.2.2, Int32.add_assoc, jn_add, Nat.add_comm 1 r]
end NIGHTS
