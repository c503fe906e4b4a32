/-! the tape read on both sides: levels, keys -/
theorem lvo_is_ : ∀ b : Fin 256, (lvo b = 0 ↔ b.val = 124) ∧ (lvo b = 1 ↔ b.val = 38) ∧ (lvo b = 2 ↔ (b.val = 60 ∨ b.val = 61 ∨ b.val = 62)) ∧ (lvo b = 3 ↔ (b.val = 43 ∨ b.val = 45)) ∧ (lvo b = 4 ↔ (b.val = 42 ∨ b.val = 47)) := by decide +kernel
section LEV
variable {K R : Mem} {l A key m op no s e so : Nat} {B : Nat → Nat} {p : Nat → Nat × Nat}
theorem Stt.b3 (h : Stt l B A key op no K R p m s e so) (q : so = 3) : B s < 256 := by
  obtain ⟨q1, -, -⟩ := h.2.1.s3 q
  have := h.2.1.2.1
  exact (h.1.2.2.2 s (by omega)).1
theorem level_out (hk : key < 3) (hA : A + 192 ≤ 3058) {lev : Nat} (hlev : lev < 5) (hl2 : lev ≠ 2) {recl : Int32 → Int32 → Int32 → Mem → Option (Int32 × Mem)} {recp : Int32 → Int32 → Mem → Option (Int32 × Mem)} {recr : Mem → Option (Int32 × Mem)} (H : ∀ (K R : Mem) (p : Nat → Nat × Nat) (m s e so : Nat), Stt l B A key op no K R p m s e so → Out l B A key op no (dep p m) m s K R (recl (nI (lev + 1)) (nI op) (nI no) K) (recr R)) {LR : Nat → Mem → Option (Int32 × Mem)}
    (hyes : ∀ (g : Nat) (K R : Mem) (p : Nat → Nat × Nat) (m s e so : Nat), Stt l B A key op no K R p m s e so → so = 3 → lvo (B s) = lev → LR (g + 1) R = bd (C_X9_nextToken R) fun R1 => bd2 (recr R1) fun r R2 => if r = 0 then some (0, R2) else bd (C_X9_step 2 (nI (B s)) R2) fun R3 => LR g R3)
    (hno : ∀ (g : Nat) (K R : Mem) (p : Nat → Nat × Nat) (m s e so : Nat), Stt l B A key op no K R p m s e so → ¬ (so = 3 ∧ lvo (B s) = lev) → LR (g + 1) R = some (1, R)) (h : Stt l B A key op no K R p m s e so) : Out l B A key op no (dep p m) m s K R (F_X1_level_0 recl recp (nI lev) (nI op) (nI no) K) (bd2 (recr R) fun r3 K2 => if r3 = 0 then some (0, K2) else LR FU K2) := by
  have hFU := FU_big
  obtain ⟨K1, R1, a1, a2, a3⟩ := H K R p m s e so h
  unfold F_X1_level_0
  rw [if_pos (show nI lev < (5 : Int32) from jlt (b := 5) hlev (by omega)), show nI lev + 1 = nI (lev + 1) from jn_add lev 1]
  rcases a3 with ⟨b1, b2, b3⟩ | ⟨b1, b2, p1, m1, s1, e1, so1, b3, b4, b5, b6⟩
  · refine ⟨K1, R1, a1, a2, Or.inl ⟨?_, ?_, b3⟩⟩
    · rw [b1, bd2_s, if_pos z00]
      rfl
    · rw [b2, bd2_s, if_pos z00]
      rfl
  · have hsl := b3.sl
    obtain ⟨K2, R2, c1, c2, c3⟩ := chain hk hA hlev (recp := recp) H hyes hno (d := dep p m) 97 K1 R1 p1 m1 s1 e1 so1 0 (by omega) (by omega) b3 b4 FU FU (by omega) (by omega)
    refine ⟨K2, R2, a1.tr c1, a2.tr c2, ?_⟩
    rcases c3 with ⟨d1, d2, d3⟩ | ⟨d1, d2, p2, m2, s2, e2, so2, d3, d4, d5, d6⟩
    · refine Or.inl ⟨?_, ?_, d3⟩
      · rw [b1, bd2_s, if_neg n10, if_neg (show ¬ nI lev = (2 : Int32) from jne (b := 2) hl2 (by omega) (by omega))]
        exact d1
      · rw [b2, bd2_s, if_neg n10]
        exact d2
    · refine Or.inr ⟨?_, ?_, p2, m2, s2, e2, so2, d3, d4, by omega, by omega⟩
      · rw [b1, bd2_s, if_neg n10, if_neg (show ¬ nI lev = (2 : Int32) from jne (b := 2) hl2 (by omega) (by omega))]
        exact d1
      · rw [b2, bd2_s, if_neg n10]
        exact d2
theorem test_out (hk : key < 3) (hA : A + 192 ≤ 3058) {recl : Int32 → Int32 → Int32 → Mem → Option (Int32 × Mem)} {recp : Int32 → Int32 → Mem → Option (Int32 × Mem)} {recs : Int32 → Mem → Option (Int32 × Mem)} (H : ∀ (K R : Mem) (p : Nat → Nat × Nat) (m s e so : Nat), Stt l B A key op no K R p m s e so → Out l B A key op no (dep p m) m s K R (recl (nI 3) (nI op) (nI no) K) (recs (nI key) R)) (h : Stt l B A key op no K R p m s e so) : Out l B A key op no (dep p m) m s K R (F_X1_level_0 recl recp (nI 2) (nI op) (nI no) K) (F_X9_test_0 recs (nI key) R) := by
  have hFU := FU_big
  obtain ⟨K1, R1, a1, a2, a3⟩ := H K R p m s e so h
  unfold F_X1_level_0 F_X9_test_0
  rw [if_pos (show nI 2 < (5 : Int32) by decide), show nI 2 + 1 = nI 3 from jn_add 2 1]
  rcases a3 with ⟨b1, b2, b3⟩ | ⟨b1, b2, p1, m1, s1, e1, so1, b3, b4, b5, b6⟩
  · refine ⟨K1, R1, a1, a2, Or.inl ⟨?_, ?_, b3⟩⟩
    · rw [b1, bd2_s, if_pos z00]
      rfl
    · rw [b2, bd2_s, if_pos z00]
      rfl
  · rw [b1, bd2_s, if_neg n10, b2, bd2_s, if_neg n10, if_pos (show nI 2 = (2 : Int32) from rfl)]
    obtain ⟨-, k60⟩ := sg b3.1 b3.2.1 (c := 60) (by omega)
    obtain ⟨-, k61⟩ := sg b3.1 b3.2.1 (c := 61) (by omega)
    obtain ⟨-, k62⟩ := sg b3.1 b3.2.1 (c := 62) (by omega)
    have eR : (bd (C_X9_isSign R1 60) fun r6 => if r6 = 0 then (bd (C_X9_isSign R1 61) fun r9 => if r9 = 0 then (bd (C_X9_isSign R1 62) fun r12 => if r12 = 0 then some ((1 : Int32), R1) else F_X9_test_37 recs (nI key) R1) else F_X9_test_37 recs (nI key) R1) else F_X9_test_37 recs (nI key) R1) = if so1 = 3 ∧ lvo (B s1) = 2 then F_X9_test_37 recs (nI key) R1 else some (1, R1) := by
      rw [show (60 : Int32) = nI 60 from rfl, show (61 : Int32) = nI 61 from rfl, show (62 : Int32) = nI 62 from rfl, k60, bd_s, k61, bd_s, k62, bd_s]
      by_cases q3 : so1 = 3
      · have lv := (lvo_is_ ⟨B s1, b3.b3 q3⟩).2.2.1
        have lv' : lvo (B s1) = 2 ↔ (B s1 = 60 ∨ B s1 = 61 ∨ B s1 = 62) := lv
        by_cases x0 : B s1 = 60
        · rw [if_pos (show so1 = 3 ∧ B s1 = 60 from ⟨q3, x0⟩), if_neg n10, if_pos ⟨q3, lv'.mpr (Or.inl x0)⟩]
        · rw [if_neg (show ¬ (so1 = 3 ∧ B s1 = 60) from fun x => x0 x.2), if_pos z00]
          by_cases x1 : B s1 = 61
          · rw [if_pos (show so1 = 3 ∧ B s1 = 61 from ⟨q3, x1⟩), if_neg n10, if_pos ⟨q3, lv'.mpr (Or.inr (Or.inl x1))⟩]
          · rw [if_neg (show ¬ (so1 = 3 ∧ B s1 = 61) from fun x => x1 x.2), if_pos z00]
            by_cases x2 : B s1 = 62
            · rw [if_pos (show so1 = 3 ∧ B s1 = 62 from ⟨q3, x2⟩), if_neg n10, if_pos ⟨q3, lv'.mpr (Or.inr (Or.inr x2))⟩]
            · rw [if_neg (show ¬ (so1 = 3 ∧ B s1 = 62) from fun x => x2 x.2), if_pos z00, if_neg (fun x => by rcases lv'.mp x.2 with y | y | y <;> contradiction)]
      · rw [if_neg (show ¬ (so1 = 3 ∧ B s1 = 60) from fun x => q3 x.1), if_pos z00, if_neg (show ¬ (so1 = 3 ∧ B s1 = 61) from fun x => q3 x.1), if_pos z00, if_neg (show ¬ (so1 = 3 ∧ B s1 = 62) from fun x => q3 x.1), if_pos z00, if_neg (fun x => q3 x.1)]
    rw [eR]
    have hT := b3.1
    have hTok := b3.2.1
    have h5 := hTok.2.2.2.2.1
    have h6 := hTok.2.2.1
    have hel := hTok.2.1
    have h96 := hT.1
    have hso4 := hTok.so4
    obtain ⟨g, hg⟩ : ∃ g, FU = (g + 1) + 1 := ⟨FU - 2, by omega⟩
    by_cases q : so1 = 3 ∧ lvo (B s1) = 2
    · obtain ⟨q1, q2, q3⟩ := hTok.s3 q.1
      have hb := b3.b3 q.1
      have hbs : bsign (B s1) := lvo_sign_ ⟨B s1, hb⟩ (show lvo (B s1) < 5 by omega)
      obtain ⟨r16, l1, l2⟩ := e_level_is (lev := 2) hb (by omega)
      have eK : L_X1_level_42 recl recp FU (nI 2) (nI op) (nI no) 1 0 K1 = bd (C_X1_moveOn K1) fun K21 => bd2 (recl (nI 3) (nI op) (nI no) K21) fun r24 K23 => if r24 = 0 then some (0, K23) else bd (C_X1_write (-nI (B s1)) K23) fun K27 => L_X1_level_42 recl recp (g + 1) (nI 2) (nI op) (nI no) 1 1 K27 := by
        rw [hg]
        show F_X1_level_42 _ _ _ _ _ _ _ _ _ = _
        unfold F_X1_level_42
        rw [if_neg (show ¬ (1 : Int32) ≤ 0 by decide), h5, q.1, if_pos (show nI 3 = (3 : Int32) from rfl), h6, hT.byte (by omega), bd_s, l1, bd_s, if_pos (l2.mpr q.2), bd_s, show nI 2 + 1 = nI 3 from jn_add 2 1, show (0 : Int32) + 1 = 1 by decide]
        simp only [nm_eq]
      have eK2 : ∀ K27 : Mem, L_X1_level_42 recl recp (g + 1) (nI 2) (nI op) (nI no) 1 1 K27 = some (1, K27) := by
        intro K27
        show F_X1_level_42 _ _ _ _ _ _ _ _ _ = _
        unfold F_X1_level_42
        rw [if_pos (show (1 : Int32) ≤ 1 by decide)]
      have eR2 : F_X9_test_37 recs (nI key) R1 = bd (C_X9_nextToken R1) fun K16 => bd2 (recs (nI key) K16) fun r19 K18 => if r19 = 0 then some (0, K18) else bd (C_X9_step 2 (nI (B s1)) K18) fun K22 => some (1, K22) := by
        unfold F_X9_test_37
        rw [nm_eq, q3]
      obtain ⟨K3, R3, c1, c2, c3⟩ := join_step hk hA H b3 q.1 hbs b4 (fun K27 => L_X1_level_42 recl recp (g + 1) (nI 2) (nI op) (nI no) 1 1 K27) (fun K22 => some (1, K22))
      rw [eK, if_pos q, eR2]
      refine ⟨K3, R3, a1.tr c1, a2.tr c2, ?_⟩
      rcases c3 with ⟨d1, d2, d3⟩ | ⟨p', m', s', e', so', d1, d2, d3, d4, d5, d6⟩
      · exact Or.inl ⟨d1, d2, d3⟩
      · refine Or.inr ⟨?_, ?_, p', m', s', e', so', d3, d4, by omega, by omega⟩
        · rw [d1, eK2]
          rfl
        · rw [d2]
          rfl
    · rw [if_neg q]
      refine ⟨K1, R1, a1, a2, Or.inr ⟨?_, rfl, p1, m1, s1, e1, so1, b3, b4, b5, b6⟩⟩
      rw [hg]
      show F_X1_level_42 _ _ _ _ _ _ _ _ _ = _
      unfold F_X1_level_42
      rw [if_neg (show ¬ (1 : Int32) ≤ 0 by decide), h5]
      by_cases q3 : so1 = 3
      · obtain ⟨q1, -, -⟩ := hTok.s3 q3
        have hb := b3.b3 q3
        obtain ⟨r16, l1, l2⟩ := e_level_is (lev := 2) hb (by omega)
        rw [q3, if_pos (show nI 3 = (3 : Int32) from rfl), h6, hT.byte (by omega), bd_s, l1, bd_s, if_neg (fun x => q ⟨q3, l2.mp x⟩)]
        rfl
      · rw [if_neg (show ¬ nI so1 = (3 : Int32) from jne (b := 3) q3 (by omega) (by omega))]
        rfl
theorem either_yes {rec : Int32 → Mem → Option (Int32 × Mem)} (g : Nat) (K R : Mem) (p : Nat → Nat × Nat) (m s e so : Nat) (h : Stt l B A key op no K R p m s e so) (q : so = 3) (q2 : lvo (B s) = 0) : L_X9_either_10 rec (g + 1) (nI key) R = bd (C_X9_nextToken R) fun R1 => bd2 (rec (nI key) R1) fun r R2 => if r = 0 then some (0, R2) else bd (C_X9_step 2 (nI (B s)) R2) fun R3 => L_X9_either_10 rec g (nI key) R3 := by
  have hb : B s = 124 := (lvo_is_ ⟨B s, h.b3 q⟩).1.mp q2
  obtain ⟨-, k1⟩ := sg h.1 h.2.1 (c := 124) (by omega)
  show F_X9_either_10 _ _ _ _ = _
  unfold F_X9_either_10
  rw [show (124 : Int32) = nI 124 from rfl, k1, if_pos ⟨q, hb⟩, bd_s, if_neg n10, hb]
theorem either_no {rec : Int32 → Mem → Option (Int32 × Mem)} (g : Nat) (K R : Mem) (p : Nat → Nat × Nat) (m s e so : Nat) (h : Stt l B A key op no K R p m s e so) (q : ¬ (so = 3 ∧ lvo (B s) = 0)) : L_X9_either_10 rec (g + 1) (nI key) R = some (1, R) := by
  have hb : ¬ (so = 3 ∧ B s = 124) := fun x => q ⟨x.1, (lvo_is_ ⟨B s, h.b3 x.1⟩).1.mpr x.2⟩
  obtain ⟨-, k1⟩ := sg h.1 h.2.1 (c := 124) (by omega)
  show F_X9_either_10 _ _ _ _ = _
  unfold F_X9_either_10
  rw [show (124 : Int32) = nI 124 from rfl, k1, if_neg hb, bd_s, if_pos z00]
theorem both_yes {rec : Int32 → Mem → Option (Int32 × Mem)} (g : Nat) (K R : Mem) (p : Nat → Nat × Nat) (m s e so : Nat) (h : Stt l B A key op no K R p m s e so) (q : so = 3) (q2 : lvo (B s) = 1) : L_X9_both_10 rec (g + 1) (nI key) R = bd (C_X9_nextToken R) fun R1 => bd2 (rec (nI key) R1) fun r R2 => if r = 0 then some (0, R2) else bd (C_X9_step 2 (nI (B s)) R2) fun R3 => L_X9_both_10 rec g (nI key) R3 := by
  have hb : B s = 38 := (lvo_is_ ⟨B s, h.b3 q⟩).2.1.mp q2
  obtain ⟨-, k1⟩ := sg h.1 h.2.1 (c := 38) (by omega)
  show F_X9_both_10 _ _ _ _ = _
  unfold F_X9_both_10
  rw [show (38 : Int32) = nI 38 from rfl, k1, if_pos ⟨q, hb⟩, bd_s, if_neg n10, hb]
theorem both_no {rec : Int32 → Mem → Option (Int32 × Mem)} (g : Nat) (K R : Mem) (p : Nat → Nat × Nat) (m s e so : Nat) (h : Stt l B A key op no K R p m s e so) (q : ¬ (so = 3 ∧ lvo (B s) = 1)) : L_X9_both_10 rec (g + 1) (nI key) R = some (1, R) := by
  have hb : ¬ (so = 3 ∧ B s = 38) := fun x => q ⟨x.1, (lvo_is_ ⟨B s, h.b3 x.1⟩).2.1.mpr x.2⟩
  obtain ⟨-, k1⟩ := sg h.1 h.2.1 (c := 38) (by omega)
  show F_X9_both_10 _ _ _ _ = _
  unfold F_X9_both_10
  rw [show (38 : Int32) = nI 38 from rfl, k1, if_neg hb, bd_s, if_pos z00]
theorem sum_yes {rec : Int32 → Mem → Option (Int32 × Mem)} (g : Nat) (K R : Mem) (p : Nat → Nat × Nat) (m s e so : Nat) (h : Stt l B A key op no K R p m s e so) (q : so = 3) (q2 : lvo (B s) = 3) : L_X9_sum_10 rec (g + 1) (nI key) R = bd (C_X9_nextToken R) fun R1 => bd2 (rec (nI key) R1) fun r R2 => if r = 0 then some (0, R2) else bd (C_X9_step 2 (nI (B s)) R2) fun R3 => L_X9_sum_10 rec g (nI key) R3 := by
  have hb : B s = 43 ∨ B s = 45 := (lvo_is_ ⟨B s, h.b3 q⟩).2.2.2.1.mp q2
  obtain ⟨-, k1⟩ := sg h.1 h.2.1 (c := 43) (by omega)
  obtain ⟨-, k2⟩ := sg h.1 h.2.1 (c := 45) (by omega)
  obtain ⟨-, -, h21⟩ := h.2.1.s3 q
  have tail : F_X9_sum_28 rec (fun a1 K => L_X9_sum_10 rec g a1 K) (nI key) R = bd (C_X9_nextToken R) fun R1 => bd2 (rec (nI key) R1) fun r R2 => if r = 0 then some (0, R2) else bd (C_X9_step 2 (nI (B s)) R2) fun R3 => L_X9_sum_10 rec g (nI key) R3 := by
    unfold F_X9_sum_28
    rw [nm_eq, h21]
  rw [← tail]
  show F_X9_sum_10 _ _ _ _ = _
  unfold F_X9_sum_10
  rw [show (43 : Int32) = nI 43 from rfl, show (45 : Int32) = nI 45 from rfl, k1, bd_s]
  rcases hb with hb | hb
  · rw [if_pos (show so = 3 ∧ B s = 43 from ⟨q, hb⟩), if_neg n10]
  · rw [if_neg (show ¬ (so = 3 ∧ B s = 43) from fun x => by have := x.2; omega), if_pos z00, k2, if_pos (show so = 3 ∧ B s = 45 from ⟨q, hb⟩), bd_s, if_neg n10]
theorem sum_no {rec : Int32 → Mem → Option (Int32 × Mem)} (g : Nat) (K R : Mem) (p : Nat → Nat × Nat) (m s e so : Nat) (h : Stt l B A key op no K R p m s e so) (q : ¬ (so = 3 ∧ lvo (B s) = 3)) : L_X9_sum_10 rec (g + 1) (nI key) R = some (1, R) := by
  have hb1 : ¬ (so = 3 ∧ B s = 43) := fun x => q ⟨x.1, (lvo_is_ ⟨B s, h.b3 x.1⟩).2.2.2.1.mpr (Or.inl x.2)⟩
  have hb2 : ¬ (so = 3 ∧ B s = 45) := fun x => q ⟨x.1, (lvo_is_ ⟨B s, h.b3 x.1⟩).2.2.2.1.mpr (Or.inr x.2)⟩
  obtain ⟨-, k1⟩ := sg h.1 h.2.1 (c := 43) (by omega)
  obtain ⟨-, k2⟩ := sg h.1 h.2.1 (c := 45) (by omega)
  show F_X9_sum_10 _ _ _ _ = _
  unfold F_X9_sum_10
  rw [show (43 : Int32) = nI 43 from rfl, show (45 : Int32) = nI 45 from rfl, k1, if_neg hb1, bd_s, if_pos z00, k2, if_neg hb2, bd_s, if_pos z00]
theorem term_yes {rec : Int32 → Mem → Option (Int32 × Mem)} (g : Nat) (K R : Mem) (p : Nat → Nat × Nat) (m s e so : Nat) (h : Stt l B A key op no K R p m s e so) (q : so = 3) (q2 : lvo (B s) = 4) : L_X9_term_10 rec (g + 1) (nI key) R = bd (C_X9_nextToken R) fun R1 => bd2 (rec (nI key) R1) fun r R2 => if r = 0 then some (0, R2) else bd (C_X9_step 2 (nI (B s)) R2) fun R3 => L_X9_term_10 rec g (nI key) R3 := by
  have hb : B s = 42 ∨ B s = 47 := (lvo_is_ ⟨B s, h.b3 q⟩).2.2.2.2.mp q2
  obtain ⟨-, k1⟩ := sg h.1 h.2.1 (c := 42) (by omega)
  obtain ⟨-, k2⟩ := sg h.1 h.2.1 (c := 47) (by omega)
  obtain ⟨-, -, h21⟩ := h.2.1.s3 q
  have tail : F_X9_term_28 rec (fun a1 K => L_X9_term_10 rec g a1 K) (nI key) R = bd (C_X9_nextToken R) fun R1 => bd2 (rec (nI key) R1) fun r R2 => if r = 0 then some (0, R2) else bd (C_X9_step 2 (nI (B s)) R2) fun R3 => L_X9_term_10 rec g (nI key) R3 := by
    unfold F_X9_term_28
    rw [nm_eq, h21]
  rw [← tail]
  show F_X9_term_10 _ _ _ _ = _
  unfold F_X9_term_10
  rw [show (42 : Int32) = nI 42 from rfl, show (47 : Int32) = nI 47 from rfl, k1, bd_s]
  rcases hb with hb | hb
  · rw [if_pos (show so = 3 ∧ B s = 42 from ⟨q, hb⟩), if_neg n10]
  · rw [if_neg (show ¬ (so = 3 ∧ B s = 42) from fun x => by have := x.2; omega), if_pos z00, k2, if_pos (show so = 3 ∧ B s = 47 from ⟨q, hb⟩), bd_s, if_neg n10]
theorem term_no {rec : Int32 → Mem → Option (Int32 × Mem)} (g : Nat) (K R : Mem) (p : Nat → Nat × Nat) (m s e so : Nat) (h : Stt l B A key op no K R p m s e so) (q : ¬ (so = 3 ∧ lvo (B s) = 4)) : L_X9_term_10 rec (g + 1) (nI key) R = some (1, R) := by
  have hb1 : ¬ (so = 3 ∧ B s = 42) := fun x => q ⟨x.1, (lvo_is_ ⟨B s, h.b3 x.1⟩).2.2.2.2.mpr (Or.inl x.2)⟩
  have hb2 : ¬ (so = 3 ∧ B s = 47) := fun x => q ⟨x.1, (lvo_is_ ⟨B s, h.b3 x.1⟩).2.2.2.2.mpr (Or.inr x.2)⟩
  obtain ⟨-, k1⟩ := sg h.1 h.2.1 (c := 42) (by omega)
  obtain ⟨-, k2⟩ := sg h.1 h.2.1 (c := 47) (by omega)
  show F_X9_term_10 _ _ _ _ = _
  unfold F_X9_term_10
  rw [show (42 : Int32) = nI 42 from rfl, show (47 : Int32) = nI 47 from rfl, k1, if_neg hb1, bd_s, if_pos z00, k2, if_neg hb2, bd_s, if_pos z00]
/-- a piece reads alike, with so much fuel -/
def PG (l : Nat) (B : Nat → Nat) (A key op no : Nat) : Prop := ∀ nK nR, 7 * (8 - op) + (8 - no) + 1 ≤ nK → 6 * (8 - op) + (8 - no) + 1 ≤ nR → ∀ (K R : Mem) (p : Nat → Nat × Nat) (m s e so : Nat), Stt l B A key op no K R p m s e so → Out l B A key op no (dep p m) m s K R (recK nK 1 (nI op) (nI no) 0 K) (recR nR 5 (nI key) R)
def LG (l : Nat) (B : Nat → Nat) (A key op no lev : Nat) : Prop := ∀ nK nR, (6 - lev) + (7 * (8 - op) + (8 - no) + 1) ≤ nK → (5 - lev) + (6 * (8 - op) + (8 - no) + 1) ≤ nR → ∀ (K R : Mem) (p : Nat → Nat × Nat) (m s e so : Nat), Stt l B A key op no K R p m s e so → Out l B A key op no (dep p m) m s K R (recK nK 0 (nI lev) (nI op) (nI no) K) (recR nR lev (nI key) R)
theorem lg5 (h : PG l B A key op no) : LG l B A key op no 5 := by
  intro nK nR hK hR K R p m s e so hS
  obtain ⟨g, rfl⟩ : ∃ g, nK = g + 1 := ⟨nK - 1, by omega⟩
  obtain ⟨K', R', a1, a2, a3⟩ := h g nR (by omega) (by omega) K R p m s e so hS
  have e1 : recK (g + 1) 0 (nI 5) (nI op) (nI no) K = bd2 (recK g 1 (nI op) (nI no) 0 K) fun r9 K8 => gd (z01 r9) (some (r9, K8)) := by
    show F_X1_level_0 (fun a b c K => recK g 0 a b c K) (fun a b K => recK g 1 a b 0 K) (nI 5) (nI op) (nI no) K = _
    unfold F_X1_level_0
    rw [if_neg (show ¬ nI 5 < (5 : Int32) by decide)]
  rw [e1]
  refine ⟨K', R', a1, a2, ?_⟩
  rcases a3 with ⟨b1, b2, b3⟩ | ⟨b1, b2, b3⟩
  · refine Or.inl ⟨?_, b2, b3⟩
    rw [b1, bd2_s]
    rfl
  · refine Or.inr ⟨?_, b2, b3⟩
    rw [b1, bd2_s]
    rfl
theorem lg4 (hk : key < 3) (hA : A + 192 ≤ 3058) (h : LG l B A key op no 5) : LG l B A key op no 4 := by
  intro nK nR hK hR K R p m s e so hS
  obtain ⟨gK, rfl⟩ : ∃ g, nK = g + 1 := ⟨nK - 1, by omega⟩
  obtain ⟨gR, rfl⟩ : ∃ g, nR = g + 1 := ⟨nR - 1, by omega⟩
  exact level_out hk hA (lev := 4) (by omega) (by omega) (recl := fun a b c K => recK gK 0 a b c K) (recp := fun a b K => recK gK 1 a b 0 K) (recr := fun R => recR gR 5 (nI key) R) (fun K R p m s e so h2 => h gK gR (by omega) (by omega) K R p m s e so h2) (LR := fun g R => L_X9_term_10 (fun a K => recR gR 5 a K) g (nI key) R) (fun g K R p m s e so h2 q q2 => term_yes (rec := fun a K => recR gR 5 a K) g K R p m s e so h2 q q2) (fun g K R p m s e so h2 q => term_no (rec := fun a K => recR gR 5 a K) g K R p m s e so h2 q) hS
theorem lg3 (hk : key < 3) (hA : A + 192 ≤ 3058) (h : LG l B A key op no 4) : LG l B A key op no 3 := by
  intro nK nR hK hR K R p m s e so hS
  obtain ⟨gK, rfl⟩ : ∃ g, nK = g + 1 := ⟨nK - 1, by omega⟩
  obtain ⟨gR, rfl⟩ : ∃ g, nR = g + 1 := ⟨nR - 1, by omega⟩
  exact level_out hk hA (lev := 3) (by omega) (by omega) (recl := fun a b c K => recK gK 0 a b c K) (recp := fun a b K => recK gK 1 a b 0 K) (recr := fun R => recR gR 4 (nI key) R) (fun K R p m s e so h2 => h gK gR (by omega) (by omega) K R p m s e so h2) (LR := fun g R => L_X9_sum_10 (fun a K => recR gR 4 a K) g (nI key) R) (fun g K R p m s e so h2 q q2 => sum_yes (rec := fun a K => recR gR 4 a K) g K R p m s e so h2 q q2) (fun g K R p m s e so h2 q => sum_no (rec := fun a K => recR gR 4 a K) g K R p m s e so h2 q) hS
theorem lg2 (hk : key < 3) (hA : A + 192 ≤ 3058) (h : LG l B A key op no 3) : LG l B A key op no 2 := by
  intro nK nR hK hR K R p m s e so hS
  obtain ⟨gK, rfl⟩ : ∃ g, nK = g + 1 := ⟨nK - 1, by omega⟩
  obtain ⟨gR, rfl⟩ : ∃ g, nR = g + 1 := ⟨nR - 1, by omega⟩
  exact test_out hk hA (recl := fun a b c K => recK gK 0 a b c K) (recp := fun a b K => recK gK 1 a b 0 K) (recs := fun a R => recR gR 3 a R) (fun K R p m s e so h2 => h gK gR (by omega) (by omega) K R p m s e so h2) hS
theorem lg1 (hk : key < 3) (hA : A + 192 ≤ 3058) (h : LG l B A key op no 2) : LG l B A key op no 1 := by
  intro nK nR hK hR K R p m s e so hS
  obtain ⟨gK, rfl⟩ : ∃ g, nK = g + 1 := ⟨nK - 1, by omega⟩
  obtain ⟨gR, rfl⟩ : ∃ g, nR = g + 1 := ⟨nR - 1, by omega⟩
  exact level_out hk hA (lev := 1) (by omega) (by omega) (recl := fun a b c K => recK gK 0 a b c K) (recp := fun a b K => recK gK 1 a b 0 K) (recr := fun R => recR gR 2 (nI key) R) (fun K R p m s e so h2 => h gK gR (by omega) (by omega) K R p m s e so h2) (LR := fun g R => L_X9_both_10 (fun a K => recR gR 2 a K) g (nI key) R) (fun g K R p m s e so h2 q q2 => both_yes (rec := fun a K => recR gR 2 a K) g K R p m s e so h2 q q2) (fun g K R p m s e so h2 q => both_no (rec := fun a K => recR gR 2 a K) g K R p m s e so h2 q) hS
theorem lg0 (hk : key < 3) (hA : A + 192 ≤ 3058) (h : LG l B A key op no 1) : LG l B A key op no 0 := by
  intro nK nR hK hR K R p m s e so hS
  obtain ⟨gK, rfl⟩ : ∃ g, nK = g + 1 := ⟨nK - 1, by omega⟩
  obtain ⟨gR, rfl⟩ : ∃ g, nR = g + 1 := ⟨nR - 1, by omega⟩
  exact level_out hk hA (lev := 0) (by omega) (by omega) (recl := fun a b c K => recK gK 0 a b c K) (recp := fun a b K => recK gK 1 a b 0 K) (recr := fun R => recR gR 1 (nI key) R) (fun K R p m s e so h2 => h gK gR (by omega) (by omega) K R p m s e so h2) (LR := fun g R => L_X9_either_10 (fun a K => recR gR 1 a K) g (nI key) R) (fun g K R p m s e so h2 q q2 => either_yes (rec := fun a K => recR gR 1 a K) g K R p m s e so h2 q q2) (fun g K R p m s e so h2 q => either_no (rec := fun a K => recR gR 1 a K) g K R p m s e so h2 q) hS
theorem lg_all (hk : key < 3) (hA : A + 192 ≤ 3058) (h : PG l B A key op no) : LG l B A key op no 0 := lg0 hk hA (lg1 hk hA (lg2 hk hA (lg3 hk hA (lg4 hk hA (lg5 h)))))
theorem pg_all (hk : key < 3) (hA : A + 192 ≤ 3058) : ∀ (u op no : Nat), op ≤ 8 → no ≤ 8 → 7 * (8 - op) + (8 - no) ≤ u → PG l B A key op no
  | 0, op, no, hop, hno, hu => by
    intro nK nR hK hR K R p m s e so hS
    obtain ⟨gK, rfl⟩ : ∃ g, nK = g + 1 := ⟨nK - 1, by omega⟩
    obtain ⟨gR, rfl⟩ : ∃ g, nR = g + 1 := ⟨nR - 1, by omega⟩
    exact piece_out hk hA hop hno (recl := fun a b c K => recK gK 0 a b c K) (recp := fun a b K => recK gK 1 a b 0 K) (rece := fun a R => recR gR 0 a R) (recq := fun a R => recR gR 5 a R) (fun q => by omega) (fun q => by omega) hS
  | u + 1, op, no, hop, hno, hu => by
    intro nK nR hK hR K R p m s e so hS
    obtain ⟨gK, rfl⟩ : ∃ g, nK = g + 1 := ⟨nK - 1, by omega⟩
    obtain ⟨gR, rfl⟩ : ∃ g, nR = g + 1 := ⟨nR - 1, by omega⟩
    exact piece_out hk hA hop hno (recl := fun a b c K => recK gK 0 a b c K) (recp := fun a b K => recK gK 1 a b 0 K) (rece := fun a R => recR gR 0 a R) (recq := fun a R => recR gR 5 a R) (fun q K R p m s e so h2 => pg_all hk hA u op (no + 1) hop (by omega) (by omega) gK gR (by omega) (by omega) K R p m s e so h2) (fun q K R p m s e so h2 => lg_all hk hA (pg_all hk hA u (op + 1) no (by omega) hno (by omega)) gK gR (by omega) (by omega) K R p m s e so h2) hS
theorem lg_top (hk : key < 3) (hA : A + 192 ≤ 3058) : LG l B A key 0 0 0 := lg_all hk hA (pg_all hk hA 64 0 0 (by omega) (by omega) (by omega))
end LEV
