/-! ways: both searches alike -/
section WAYS
variable {n i0 c0 D : Nat} {k H : Nat → Nat} {fr un : Nat → Nat → Nat} {R0 R : Mem}
theorem flag_of {F : Nat → Nat} {t : Int32} {A : Nat → Nat → Prop} (hF : ∀ i, i < n → F i < 256) (h : Fl n t (fun _ _ => False) A) (e : ∀ i c, i < n → c < 8 → (A i c ↔ (F i).testBit c = true)) : t = nI (if sm F n = 0 then 0 else 1) := by
  rcases h with ⟨e1, i, c, hi, hc, a⟩ | ⟨e1, a⟩
  · rw [if_neg, e1]
    intro z
    have := (sm_zero hF).mp z i c hi hc
    rw [(e i c hi hc).mp a] at this
    cases this
  · rw [if_pos, e1]
    refine (sm_zero hF).mpr (fun i c hi hc => ?_)
    cases hb : (F i).testBit c
    · rfl
    · exact (a i c hi hc ((e i c hi hc).mpr hb)).elim
theorem fr0_bit (S : Srch k H n i0 c0 fr un) {x y : Nat} : (fr 0 x).testBit y = true ↔ x = i0 ∧ y = c0 ∧ (H x).testBit y = true := by
  obtain ⟨hn, hi0, hc0, hk, hH, f0, u0, fs, us⟩ := S
  rw [f0]
  by_cases e : x = i0
  · rw [if_pos e, Nat.testBit_and, Nat.testBit_two_pow, Bool.and_eq_true, decide_eq_true_eq]
    constructor
    · rintro ⟨h1, h2⟩
      exact ⟨e, h2.symm, by rw [e]; exact h1⟩
    · rintro ⟨h1, h2, h3⟩
      rw [e] at h3
      exact ⟨h3, h2.symm⟩
  · rw [if_neg e, Nat.zero_testBit]
    exact ⟨fun h => absurd h Bool.false_ne_true, fun h => absurd h.1 e⟩
/-- what the reference's search needs of the memory -/
def Mw (n : Nat) (k H : Nat → Nat) (R0 R : Mem) : Prop := (∀ a, a ≠ 13 → R a = R0 a) ∧ (∀ i, i < n → R0 12 i = nI (H i)) ∧ (∀ i, i < n → R0 1 (10 + 4 * i) = nI (k i)) ∧ R0 1 0 = nI n
theorem Mw.cw (S : Srch k H n i0 c0 fr un) (h : Mw n k H R0 R) {v : Nat} (hv : v < 1000) {δ : Nat → Nat → Int32} (dom : ∀ i c, i < n → c < 8 → δ i c = -1 ∨ ∃ e, e < v ∧ δ i c = nI e) : Cw n v k H δ R := by
  obtain ⟨hn, hi0, hc0, hk, hH, f0, u0, fs, us⟩ := S
  obtain ⟨a1, a2, a3, a4⟩ := h
  refine ⟨hn, hv, fun i hi => ⟨hH i hi, ?_⟩, fun i hi => ⟨hk i hi, ?_⟩, ?_, dom⟩
  · rw [a1 12 (by decide)]
    exact a2 i hi
  · rw [a1 1 (by decide)]
    exact a3 i hi
  · rw [a1 1 (by decide)]
    exact a4
theorem ref_loop (S : Srch k H n i0 c0 fr un) (hD : D ≤ 96) (hz : sm (fr D) n = 0) (hp : ∀ e, e < D → 0 < sm (fr e) n) : ∀ (r d : Nat), d + r = D → ∀ f, r < f → ∀ R : Mem, Mw n k H R0 R → (∀ j, 8 * n ≤ j → j < 96 → R 13 j = -1) → (∀ i c, i < n → c < 8 → R 13 (8 * i + c) = dst fr d i c) → ∃ R', L_X9_findsWays_53 f (nI (if sm (fr d) n = 0 then 0 else 1)) (nI d) R = some (nI (tots fr n D), R') ∧ Mw n k H R0 R' ∧ ∀ i c, i < n → c < 8 → R' 13 (8 * i + c) = dst fr D i c
  | 0, d, hd, f, hf, R, hM, hhi, hlo => by
    obtain ⟨g, rfl⟩ : ∃ g, f = g + 1 := ⟨f - 1, by omega⟩
    have hFU := FU_big
    have hn : n ≤ 12 := S.1
    obtain rfl : d = D := by omega
    refine ⟨R, ?_, hM, hlo⟩
    have cnt : fa_cnt (fun j => decide (0 ≤ R 13 j)) 96 = tots fr n d := by
      rw [← S.cnt d (by omega), show 96 = 8 * n + (96 - 8 * n) by omega, cnt_tail (96 - 8 * n) (fun j h1 h2 => by
        show decide (0 ≤ R 13 j) = false
        rw [hhi j h1 (by omega)]
        exact neg_dec)]
      refine fa_cnt_cong (fun j hj => ?_)
      show decide (0 ≤ R 13 j) = decide (0 ≤ dst fr d (j / 8) (j % 8))
      rw [← hlo (j / 8) (j % 8) (by omega) (by omega), show 8 * (j / 8) + j % 8 = j by omega]
    have c := count_130 (R := R) 96 0 (by omega) FU (by omega)
    rw [cnt] at c
    show F_X9_findsWays_53 _ _ _ _ = _
    unfold F_X9_findsWays_53
    rw [if_pos hz, if_pos z00]
    exact c
  | r + 1, d, hd, f, hf, R, hM, hhi, hlo => by
    obtain ⟨g, rfl⟩ : ∃ g, f = g + 1 := ⟨f - 1, by omega⟩
    have hFU := FU_big
    have hn : n ≤ 12 := S.1
    have hpos := hp d (by omega)
    have C : Cw n (d + 1) k H (dst fr d) R := hM.cw S (by omega) (fun i c hi hc => by
      rcases (S.lv d (by omega) i c hi hc).2.2 with q | ⟨e, he, q⟩
      · exact Or.inl q
      · exact Or.inr ⟨e, by omega, q⟩)
    have no : ∀ x y, ¬ AL n d k H (dst fr d) 0 x y := by
      rintro x y ⟨-, a, b, -, -, h, -⟩
      omega
    obtain ⟨t', R1, e1, e2, e3⟩ := lv_level C (k53 := fun a4 a5 K => L_X9_findsWays_53 g a4 a5 K) (8 * n) 0 (by omega) FU (by omega) R (nI 0) ⟨fun _ _ => rfl, fun _ _ => rfl, fun i c hi hc => ⟨fun q => absurd q (no i c), fun _ => hlo i c hi hc⟩⟩ (Or.inr ⟨rfl, fun i c _ _ q => no i c q⟩)
    have eA : ∀ i c, i < n → c < 8 → (AL n d k H (dst fr d) (8 * n) i c ↔ (fr (d + 1) i).testBit c = true) := by
      intro i c hi hc
      rw [S.new (by omega) hi hc]
      constructor
      · rintro ⟨w, a, b, h1, h2, h3, h4, h5⟩
        exact ⟨w, a, b, h1, h2, h4, h5⟩
      · rintro ⟨w, a, b, h1, h2, h4, h5⟩
        exact ⟨w, a, b, h1, h2, by omega, h4, h5⟩
    have et := flag_of (fun i hi => (S.lt (d + 1) i hi).1) e3 eA
    have hM1 : Mw n k H R0 R1 := ⟨fun a ha => (e2.1 a ha).trans (hM.1 a ha), hM.2⟩
    obtain ⟨R', d1, d2, d3⟩ := ref_loop S hD hz hp r (d + 1) (by omega) g (by omega) R1 hM1 (fun j h1 h2 => by rw [e2.2.1 j h1]; exact hhi j h1 h2) (fun i c hi hc => by
      have q := e2.2.2 i c hi hc
      rw [dst_s]
      by_cases hb : (fr (d + 1) i).testBit c = true
      · rw [if_pos hb]
        exact (q.1 ((eA i c hi hc).mpr hb)).1
      · rw [if_neg hb]
        exact q.2 (fun a => hb ((eA i c hi hc).mp a)))
    refine ⟨R', ?_, d2, d3⟩
    show F_X9_findsWays_53 _ _ _ _ = _
    unfold F_X9_findsWays_53
    rw [if_neg (show ¬ sm (fr d) n = 0 by omega), if_neg n10]
    refine e1.trans ?_
    rw [et]
    exact d1
theorem init_8 {a1 a2 a3 : Int32} : ∀ (r j : Nat), j + r = 96 → ∀ f, r < f → ∀ R : Mem, (∀ i, i < j → R 13 i = -1) → ∃ R1, L_X9_findsWays_8 f a1 a2 a3 (nI j) R = (if a3 ≤ 0 then L_X9_findsWays_53 FU 0 0 R1 else bd2 (C_X9_comesTo a1 a2 0 R1) fun r8 K7 => if r8 = 0 then L_X9_findsWays_53 FU 0 0 K7 else L_X9_findsWays_53 FU 1 0 K7) ∧ (∀ a, a ≠ 13 → R1 a = R a) ∧ ∀ i, i < 96 → R1 13 i = -1
  | 0, j, hj, f, hf, R, h => by
    obtain ⟨g, rfl⟩ : ∃ g, f = g + 1 := ⟨f - 1, by omega⟩
    obtain rfl : j = 96 := by omega
    refine ⟨R, ?_, fun _ _ => rfl, h⟩
    show F_X9_findsWays_8 _ _ _ _ _ _ = _
    unfold F_X9_findsWays_8
    rw [if_pos (show (96 : Int32) ≤ nI 96 by decide)]
  | r + 1, j, hj, f, hf, R, h => by
    obtain ⟨g, rfl⟩ : ∃ g, f = g + 1 := ⟨f - 1, by omega⟩
    obtain ⟨R1, e1, e2, e3⟩ := init_8 (a1 := a1) (a2 := a2) (a3 := a3) r (j + 1) (by omega) g (by omega) (up R 13 j (-1)) (fun i hi => by
      by_cases e : i = j
      · rw [e, u_at]
      · rw [u_oth e]
        exact h i (by omega))
    refine ⟨R1, ?_, fun a ha => (e2 a ha).trans (u_ne ha), e3⟩
    show F_X9_findsWays_8 _ _ _ _ _ _ = _
    unfold F_X9_findsWays_8
    rw [if_neg (show ¬ (96 : Int32) ≤ nI j from jnle (a := 96) (by omega) (by omega)), inb_t (by omega) (by omega), gd_t, tn_nI (by omega), nm_eq, nm_eq, show nI j + 1 = nI (j + 1) from jn_add j 1]
    exact e1
theorem tot_sm {k l : Nat → Nat} : ∀ n, tot k l n = sm (fun i => hs k l (i + 1)) n
  | 0 => rfl
  | n + 1 => by
    show tot k l n + pc (hs k l (n + 1)) = _
    rw [tot_sm n]
    rfl
theorem e_finds (hI : Inv (R 1) n) (S : Srch (kf (R 1)) (fun i => hs (kf (R 1)) (lf (R 1)) (i + 1)) n i0 c0 fr un) (hD : D ≤ 96) (hz : sm (fr D) n = 0) (hp : ∀ e, e < D → 0 < sm (fr e) n) : ∃ R', C_X9_findsWays (nI i0) (nI c0) R = some (nI (tots fr n D), R') ∧ (∀ a, a ≠ 12 → a ≠ 13 → R' a = R a) ∧ ∀ i c, i < n → c < 8 → R' 13 (8 * i + c) = dst fr D i c := by
  have hFU := FU_big
  have hn : n ≤ 12 := S.1
  have hi0 : i0 < n := S.2.1
  have hc0 : c0 < 8 := S.2.2.1
  have hH := S.2.2.2.2.1
  obtain ⟨R2, h1, h2⟩ := e_holds hI
  obtain ⟨R1, g1, g2, g3⟩ := init_8 (a1 := nI i0) (a2 := nI c0) (a3 := nI (tot (kf (R 1)) (lf (R 1)) n)) 96 0 (by omega) FU (by omega) R2 (fun i hi => absurd hi (Nat.not_lt_zero _))
  have hM : Mw n (kf (R 1)) (fun i => hs (kf (R 1)) (lf (R 1)) (i + 1)) R2 R1 := ⟨g2, h2.2, fun i hi => by rw [h2.1 1 (by decide)]; exact (hI.kf hi).2, by rw [h2.1 1 (by decide)]; exact hI.s0⟩
  have hfind : C_X9_findsWays (nI i0) (nI c0) R = (if nI (tot (kf (R 1)) (lf (R 1)) n) ≤ 0 then L_X9_findsWays_53 FU 0 0 R1 else bd2 (C_X9_comesTo (nI i0) (nI c0) 0 R1) fun r8 K7 => if r8 = 0 then L_X9_findsWays_53 FU 0 0 K7 else L_X9_findsWays_53 FU 1 0 K7) := by
    unfold C_X9_findsWays F_X9_findsWays_0
    rw [h1, bd2_s]
    exact g1
  have fin : ∀ R3 : Mem, Mw n (kf (R 1)) (fun i => hs (kf (R 1)) (lf (R 1)) (i + 1)) R2 R3 → (∀ j, 8 * n ≤ j → j < 96 → R3 13 j = -1) → (∀ i c, i < n → c < 8 → R3 13 (8 * i + c) = dst fr 0 i c) → ∃ R', L_X9_findsWays_53 FU (nI (if sm (fr 0) n = 0 then 0 else 1)) (nI 0) R3 = some (nI (tots fr n D), R') ∧ (∀ a, a ≠ 12 → a ≠ 13 → R' a = R a) ∧ ∀ i c, i < n → c < 8 → R' 13 (8 * i + c) = dst fr D i c := by
    intro R3 q1 q2 q3
    obtain ⟨R', d1, d2, d3⟩ := ref_loop S hD hz hp D 0 (by omega) FU (by omega) R3 q1 q2 q3
    exact ⟨R', d1, fun a a12 a13 => (d2.1 a a13).trans (h2.1 a a12), d3⟩
  rw [hfind]
  have htot := tot_le (k := kf (R 1)) (l := lf (R 1)) n
  by_cases t0 : tot (kf (R 1)) (lf (R 1)) n = 0
  · rw [if_pos (by rw [t0]; decide)]
    rw [tot_sm] at t0
    have hbits := (sm_zero hH).mp t0
    have nobit : ∀ x y, x < n → y < 8 → (fr 0 x).testBit y = false := by
      intro x y hx hy
      cases hb : (fr 0 x).testBit y
      · rfl
      · have q := ((fr0_bit S).mp hb).2.2
        rw [hbits x y hx hy] at q
        cases q
    obtain ⟨R', d1, d2, d3⟩ := fin R1 hM (fun j _ h => g3 j h) (fun i c hi hc => by
      rw [g3 _ (by omega), dst_0, nobit i c hi hc, if_neg Bool.false_ne_true])
    rw [if_pos ((sm_zero (fun i hi => (S.lt 0 i hi).1)).mpr nobit)] at d1
    exact ⟨R', d1, d2, d3⟩
  · rw [if_neg (show ¬ nI (tot (kf (R 1)) (lf (R 1)) n) ≤ (0 : Int32) from jnle (b := 0) (by omega) (by omega))]
    have C : Cw n 0 (kf (R 1)) (fun i => hs (kf (R 1)) (lf (R 1)) (i + 1)) (fun _ _ => -1) R1 := hM.cw S (by omega) (fun _ _ _ _ => Or.inl rfl)
    obtain ⟨r, R3, c1, c2, c3⟩ := lv_come C (R := R1) (A := fun _ _ => False) ⟨fun _ _ => rfl, fun _ _ => rfl, fun i c hi hc => ⟨fun q => q.elim, fun _ => g3 _ (by omega)⟩⟩ hi0 hc0
    have eA : ∀ x y, x < n → y < 8 → ((False ∨ (x = i0 ∧ y = c0 ∧ Nw (fun i => hs (kf (R 1)) (lf (R 1)) (i + 1)) (fun _ _ => -1) x y)) ↔ (fr 0 x).testBit y = true) := by
      intro x y hx hy
      rw [fr0_bit S]
      exact ⟨fun q => q.elim False.elim (fun q => ⟨q.1, q.2.1, q.2.2.1⟩), fun q => Or.inr ⟨q.1, q.2.1, q.2.2, rfl⟩⟩
    have er := flag_of (fun i hi => (S.lt 0 i hi).1) c3 eA
    obtain ⟨R', d1, d2, d3⟩ := fin R3 ⟨fun a ha => (c2.1 a ha).trans (g2 a ha), hM.2⟩ (fun j h1 h2 => by rw [c2.2.1 j h1]; exact g3 j h2) (fun i c hi hc => by
      have q := c2.2.2 i c hi hc
      rw [dst_0]
      by_cases hb : (fr 0 i).testBit c = true
      · rw [if_pos hb]
        exact (q.1 ((eA i c hi hc).mpr hb)).1
      · rw [if_neg hb]
        exact q.2 (fun a => hb ((eA i c hi hc).mp a)))
    refine ⟨R', ?_, d2, d3⟩
    rw [show C_X9_comesTo (nI i0) (nI c0) 0 R1 = some (r, R3) from c1, bd2_s, er]
    by_cases z : sm (fr 0) n = 0
    · rw [if_pos z] at d1 ⊢
      rw [if_pos z00]
      exact d1
    · rw [if_neg z] at d1 ⊢
      rw [if_neg n10]
      exact d1
theorem Rel.ways {K K' R' : Mem} (h : Rel K R) (hK : WK K K') (hR : ∀ a, a ≠ 12 → a ≠ 13 → R' a = R a) : Rel K' R' :=
  h.quiet ⟨fun a ha => hK a (by omega) (by omega) (by omega), by rw [hK 21 (by decide) (by decide) (by decide)]⟩ (fun a h1 h2 => hK a (by omega) (by omega) (by omega)) ⟨fun a ha => hR a (by omega) (by omega), fun i _ => by rw [hR 1 (by decide) (by decide)]⟩ (hR 1 (by decide) (by decide))
theorem srch_of {K : Mem} (ht : TS K 21 R n) (hi : i0 < n) (hc : c0 < 8) : ∃ fr un, Srch (kf (R 1)) (fun i => hs (kf (R 1)) (lf (R 1)) (i + 1)) n i0 c0 fr un :=
  srch_ex ht.2.n12 hi hc (fun _ hi => (ht.2.kf hi).1) (fun i hi => hs_lt (n := n) (fun _ hi => (ht.2.kf hi).1) (i + 1) (by omega))
end WAYS
theorem s_reach : Sim2 Rel A8_reach A9_reach := by
  intro a b K R h
  have hFU := FU_big
  obtain ⟨n, ht⟩ := h.now
  unfold A8_reach A9_reach C_X8_reach F_X8_reach_0 C_X9_reach F_X9_reach_0
  rcases loop_e ht a b with ⟨i, c, hi, hc, rfl, rfl, e1, e2, e3⟩ | ⟨e1, x, e2, e3⟩
  · obtain ⟨fr, un, S⟩ := srch_of ht hi hc
    obtain ⟨D, hD, hz, hp⟩ := S.last
    obtain ⟨K1, b1, b2, b3⟩ := e_begin ht S
    obtain ⟨K2, d1, d2⟩ := reached_16 S hD hz hp D 0 K1 (by omega) b3 FU (by omega)
    obtain ⟨R', f1, f2, f3⟩ := e_finds ht.2 S hD hz hp
    have ek : C_X7_reached 21 (nI i) (nI c) K = some (nI (tots fr n D), K2) := by
      unfold C_X7_reached F_X7_reached_0
      rw [b1, bd2_s]
      exact d1
    refine ⟨nI (tots fr n D), K2, R', ?_, ?_, h.ways (b2.tr d2) f2⟩
    · rw [e1, bd_s, if_neg n10, ek, bd2_s]
    · rw [e2, bd_s, e3, bd_s, if_neg n10, f1, bd2_s]
  · rw [e1, e2, bd_s, bd_s, e3, bd_s, if_pos z00, if_pos z00]
    exact ⟨_, _, _, rfl, rfl, h⟩
theorem s_way : Sim4 Rel A8_way A9_way := by
  intro a b c d K R h
  have hFU := FU_big
  obtain ⟨n, ht⟩ := h.now
  have hn := ht.2.n12
  unfold A8_way A9_way C_X8_way F_X8_way_0 C_X9_way F_X9_way_0
  rcases loop_e ht a b with ⟨i, l, hi, hl, rfl, rfl, e1, e2, e3⟩ | ⟨e1, x, e2, e3⟩
  · rcases loop_e ht c d with ⟨i2, l2, hi2, hl2, rfl, rfl, g1, g2, g3⟩ | ⟨g1, x, g2, g3⟩
    · obtain ⟨fr, un, S⟩ := srch_of ht hi hl
      obtain ⟨D, hD, hz, hp⟩ := S.last
      obtain ⟨K1, b1, b2, b3⟩ := e_begin ht S
      obtain ⟨v, K2, d1, d2, d3⟩ := steps_12 S hD hz hp hi2 hl2 D 0 K1 (by omega) b3 (fun e he => absurd he (Nat.not_lt_zero _)) FU (by omega)
      obtain ⟨R', f1, f2, f3⟩ := e_finds ht.2 S hD hz hp
      have ek : C_X7_steps 21 (nI i) (nI l) (nI i2) (nI l2) K = some (v, K2) := by
        unfold C_X7_steps F_X7_steps_0
        rw [b1, bd2_s]
        exact d1
      refine ⟨v, K2, R', ?_, ?_, h.ways (b2.tr d3) f2⟩
      · rw [e1, bd_s, if_neg n10, g1, bd_s, if_neg n10, ek, bd2_s]
      · rw [e2, bd_s, e3, bd_s, if_neg n10, g2, bd_s, g3, bd_s, if_neg n10, f1, bd2_s]
        by_cases z : tots fr n D = 0
        · rw [z, if_pos z00]
          have neg : ¬ 0 ≤ dst fr D i2 l2 := by
            intro q
            have q2 := cnt_pos (p := fun j => decide (0 ≤ dst fr D (j / 8) (j % 8))) (j := 8 * i2 + l2) (by
              show decide (0 ≤ dst fr D ((8 * i2 + l2) / 8) ((8 * i2 + l2) % 8)) = true
              rw [show (8 * i2 + l2) / 8 = i2 by omega, show (8 * i2 + l2) % 8 = l2 by omega]
              exact decide_eq_true q) (8 * n) (by omega)
            rw [S.cnt D (by omega)] at q2
            omega
          unfold C_X9_orNone F_X9_orNone_0 at d2
          rw [if_neg neg] at d2
          rw [← Option.some.inj d2]
        · have hle := S.cnt_le (d := D) (by omega)
          rw [if_neg (show ¬ nI (tots fr n D) = (0 : Int32) from jne (b := 0) z (by omega) (by omega)), show (8 : Int32) * nI i2 + nI l2 = nI (8 * i2 + l2) by rw [show (8 : Int32) = nI 8 from rfl, pk_mul, jn_add], inb_t (by omega) (by omega), gd_t, tn_nI (by omega), f3 i2 l2 hi2 hl2, d2, bd_s]
    · rw [e1, e2, bd_s, bd_s, e3, bd_s, if_neg n10, if_neg n10, g1, g2, bd_s, bd_s, g3, bd_s, if_pos z00, if_pos z00]
      exact ⟨_, _, _, rfl, rfl, h⟩
  · rw [e1, e2, bd_s, bd_s, e3, bd_s, if_pos z00, if_pos z00]
    exact ⟨_, _, _, rfl, rfl, h⟩
