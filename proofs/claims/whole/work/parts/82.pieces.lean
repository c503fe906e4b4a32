/-! the tape read on both sides: pieces and levels -/
def nmb (key b : Nat) : Bool := (b == 103 && (key == 0 || key == 2)) || (b == 119 && (key == 0 || key == 2)) || (b == 110 && key == 0) || (b == 114 && key == 1) || (b == 109 && key == 1)
theorem nmb_names {key b : Nat} (h : nmb key b = true) : names key b := by
  unfold nmb at h
  simp only [Bool.or_eq_true, Bool.and_eq_true, beq_iff_eq] at h
  unfold names
  omega
theorem e_isName_ : ∀ key : Fin 3, ∀ b : Fin 256, C_X5_isName (nI key) (nI b) = some (if nmb key b = true then 1 else 0) ∧ C_X9_isName (nI key) (nI b) = some (if nmb key b = true then 1 else 0) := by decide +kernel
section PC
variable {K R : Mem} {l A key m op no s e so : Nat} {B : Nat → Nat} {p : Nat → Nat × Nat}
theorem stp_keeps {x y : Int32} {R' : Mem} (h : C_X9_step x y R = some R') (h24 : R 0 24 = nI m) (h25 : R 0 25 = nI A) (hA : A + 192 ≤ 3058) (hm : m < 96) : R' 0 22 = R 0 22 ∧ R' 0 23 = R 0 23 := by
  rw [e_stp h24 h25 hA hm] at h
  rw [← Option.some.inj h]
  refine ⟨?_, ?_⟩
  · rw [u_oth (by decide), u_ne (by decide), u_ne (by decide)]
  · rw [u_oth (by decide), u_ne (by decide), u_ne (by decide)]
theorem Em.up0 (h : Em A key m p K R) {j : Nat} {v : Int32} (hj : j = 22 ∨ j = 23) : Em A key m p K (up R 0 j v) := by
  obtain ⟨h1, h2, h3, h4, h5, h6⟩ := h
  refine ⟨h1, ?_, ?_, ?_, h5, fun i hi => ?_⟩
  · rw [u_oth (by omega)]
    exact h2
  · rw [u_oth (by omega)]
    exact h3
  · rw [u_oth (by omega)]
    exact h4
  · rw [u_ne (by decide)]
    exact h6 i hi
theorem pr_up0 {j : Nat} {v : Int32} (hj : j = 22 ∨ j = 23) : PR A R (up R 0 j v) := fun a i x1 x2 => by
  rw [u_if, if_neg (fun q => x2 (by omega))]
theorem pk_rf : PK K K := fun _ _ _ _ => rfl
/-- a NUMBER or a NAME taken -/
theorem st_leaf (hA : A + 192 ≤ 3058) (h : Stt l B A key op no K R p m s e so) (ok : so = 1 ∨ so = 3 ∨ (so = 2 ∧ e - s ≤ 4)) (hse : s < e) (x : Nat × Nat) (hx : x.1 ≠ 2) (hok : stepOk key (ext p m x) m) : ∃ K' R', GFK K K' ∧ GFR A R R' ∧ C_X1_leaf (if x.1 = 0 then nI x.2 else -nI x.2) K = some (nI 1, K') ∧ (bd (C_X9_step (nI x.1) (nI x.2) R) fun K13 => nm (up K13 0 26 ((K13 0 26) + 1)) fun K14 => bd (C_X9_nextToken K14) fun K16 => some ((1 : Int32), K16)) = some (nI 1, R') ∧ ∃ p' m' s' e' so', Stt l B A key op no K' R' p' m' s' e' so' ∧ dep p' m' = dep p m + 1 ∧ m' + s ≤ m + s' ∧ s < s' := by
  obtain ⟨h1, h2, h3, h4, h5, h6, h7⟩ := h
  have hl := h1.1
  have hel := h2.2.1
  obtain ⟨tg, hp⟩ := h2.pre ok
  obtain ⟨K2, R2, g1, g2, g3, g4, g5⟩ := em_put h3 hA (by omega) x hok
  obtain ⟨k22, k23⟩ := stp_keeps g2 h3.2.1 h3.2.2.1 hA (by omega)
  have pk : PK K (up K2 48 3 (K2 48 3 + 1)) := fun a j x1 x2 => by
    rw [u_if, if_neg (fun q => x2 (by omega))]
    exact g4 a j x1 x2
  have pr : PR A R (up R2 0 26 (R2 0 26 + 1)) := fun a j x1 x2 => by
    rw [u_if, if_neg (fun q => x2 (by omega))]
    exact g5 a j x1 x2
  have em : Em A key (m + 1) (ext p m x) (up K2 48 3 (K2 48 3 + 1)) (up R2 0 26 (R2 0 26 + 1)) := by
    obtain ⟨b1, b2, b3, b4, b5, b6⟩ := g3
    refine ⟨?_, ?_, ?_, ?_, b5, fun i hi => ?_⟩
    · rw [u_oth (by decide)]
      exact b1
    · rw [u_oth (by decide)]
      exact b2
    · rw [u_oth (by decide)]
      exact b3
    · rw [u_at, u_at, b4]
    · rw [u_ne (by decide), u_ne (by decide)]
      exact b6 i hi
  have mid : Mid l B A key op no (up K2 48 3 (K2 48 3 + 1)) (up R2 0 26 (R2 0 26 + 1)) (ext p m x) (m + 1) e := by
    refine ⟨h1.pw pk pr, ⟨tg, hp.pw pk pr⟩, em, by omega, ?_, ?_, ?_⟩
    · rw [pk 48 4 (by decide) (by omega)]
      exact h5
    · rw [u_oth (by decide), k22]
      exact h6
    · rw [u_oth (by decide), k23]
      exact h7
  obtain ⟨K', R', s', e', so', c1, c2, c3, c4, c5, c6⟩ := mid_move mid
  refine ⟨K', R', pk.gf.tr c5, pr.gf.tr c6, ?_, ?_, ext p m x, m + 1, s', e', so', c3, ?_, by omega, by omega⟩
  · unfold C_X1_leaf F_X1_leaf_0
    rw [g1, bd_s, nm_eq, c1, bd_s]
    rfl
  · rw [g2, bd_s, nm_eq, c2, bd_s]
    rfl
  · rw [dep_s, ext_at, if_neg hx, ext_dep (Nat.le_refl _)]
theorem num_22 (hT : Tp l B K R) (h7 : K 48 7 = nI e) (hel : e ≤ l) (hall : ∀ i, s ≤ i → i < e → srt (B i) = 2) (h4 : e - s ≤ 4) : ∀ (r j : Nat), j + r = e → s ≤ j → ∀ f, r < f → L_X1_number_22 f (nI (dv B s (j - s))) (nI j) K = bd2 (C_X1_leaf (nI (dv B s (e - s))) K) fun r6 K5 => gd (z01 r6) (some (r6, K5))
  | 0, j, hj, hs, f, hf => by
    obtain ⟨g, rfl⟩ : ∃ g, f = g + 1 := ⟨f - 1, by omega⟩
    have h96 := hT.1
    obtain rfl : j = e := by omega
    show F_X1_number_22 _ _ _ _ = _
    unfold F_X1_number_22
    rw [h7, if_pos (jle (by omega) (by omega))]
  | r + 1, j, hj, hs, f, hf => by
    obtain ⟨g, rfl⟩ : ∃ g, f = g + 1 := ⟨f - 1, by omega⟩
    have h96 := hT.1
    have hd := srt_D (hall j hs (by omega))
    have ih := num_22 hT h7 hel hall h4 r (j + 1) (by omega) (by omega) g (by omega)
    have ed : dv B s (j + 1 - s) = 10 * dv B s (j - s) + B j - 48 := by
      rw [show j + 1 - s = (j - s) + 1 by omega]
      show 10 * dv B s (j - s) + B (s + (j - s)) - 48 = _
      rw [show s + (j - s) = j by omega]
    show F_X1_number_22 _ _ _ _ = _
    unfold F_X1_number_22
    rw [h7, if_neg (jnle (by omega) (by omega)), hT.byte (by omega), bd_s, show (10 : Int32) = nI 10 from rfl, show (48 : Int32) = nI 48 from rfl, pk_mul, jn_add, jn_sub (by omega), nm_eq, nm_eq, ← ed, show nI j + 1 = nI (j + 1) from jn_add j 1]
    exact ih
theorem piece_out (hk : key < 3) (hA : A + 192 ≤ 3058) (hop : op ≤ 8) (hno : no ≤ 8) {recl : Int32 → Int32 → Int32 → Mem → Option (Int32 × Mem)} {recp : Int32 → Int32 → Mem → Option (Int32 × Mem)} {rece recq : Int32 → Mem → Option (Int32 × Mem)} (H1 : no < 8 → ∀ (K R : Mem) (p : Nat → Nat × Nat) (m s e so : Nat), Stt l B A key op (no + 1) K R p m s e so → Out l B A key op (no + 1) (dep p m) m s K R (recp (nI op) (nI (no + 1)) K) (recq (nI key) R)) (H2 : op < 8 → ∀ (K R : Mem) (p : Nat → Nat × Nat) (m s e so : Nat), Stt l B A key (op + 1) no K R p m s e so → Out l B A key (op + 1) no (dep p m) m s K R (recl (nI 0) (nI (op + 1)) (nI no) K) (rece (nI key) R)) (h : Stt l B A key op no K R p m s e so) : Out l B A key op no (dep p m) m s K R (F_X1_piece_0 recl recp (nI op) (nI no) K) (F_X9_part0_0 rece recq (nI key) R) := by
  have hFU := FU_big
  have hsl := h.sl
  have hT := h.1
  have hTok := h.2.1
  have h5 := hTok.2.2.2.2.1
  have h6 := hTok.2.2.1
  have hel := hTok.2.1
  have h96 := hT.1
  have hms := h.2.2.2.1
  have h4k := h.2.2.2.2.1
  have h22 := h.2.2.2.2.2.1
  have h23 := h.2.2.2.2.2.2
  obtain ⟨s33k, s33r⟩ := sg hT hTok (c := 33) (by omega)
  obtain ⟨s40k, s40r⟩ := sg hT hTok (c := 40) (by omega)
  have f66 : ¬ (so = 3 ∧ B s = 40) → F_X1_piece_66 recl recp (nI op) (nI no) K = some (nI 0, K) := by
    intro q
    unfold F_X1_piece_66
    rw [show (40 : Int32) = nI 40 from rfl, s40k, if_neg q, bd_s, if_pos z00]
    rfl
  have f145 : ¬ (so = 3 ∧ B s = 40) → F_X9_part0_145 rece recq (nI key) R = some (nI 0, R) := by
    intro q
    unfold F_X9_part0_145
    rw [show (40 : Int32) = nI 40 from rfl, s40r, if_neg q, bd_s, if_pos z00]
    rfl
  have f84 : ¬ (so = 3 ∧ B s = 33) → F_X9_part0_84 rece recq (nI key) R = F_X9_part0_145 rece recq (nI key) R := by
    intro q
    unfold F_X9_part0_84
    rw [show (33 : Int32) = nI 33 from rfl, s33r, if_neg q, bd_s, if_pos z00]
  -- neither word nor number
  have other : ¬ so = 1 → ¬ so = 2 → ¬ R 0 19 = 2 → ¬ R 0 19 = 1 → (F_X1_piece_0 recl recp (nI op) (nI no) K = (bd (C_X1_isSign K 33) fun r4 => if r4 = 0 then F_X1_piece_66 recl recp (nI op) (nI no) K else if 8 ≤ nI no then F_X1_piece_66 recl recp (nI op) (nI no) K else bd (C_X1_moveOn K) fun K8 => bd2 (recp (nI op) (nI no + 1) K8) fun r11 K10 => if r11 = 0 then some (0, K10) else bd (C_X1_write (-33) K10) fun K14 => some (1, K14))) ∧ F_X9_part0_0 rece recq (nI key) R = F_X9_part0_84 rece recq (nI key) R := by
    intro q1 q2 q3 q4
    have := hTok.so4
    unfold F_X1_piece_0 F_X9_part0_0
    rw [h5, if_neg (show ¬ nI so = (2 : Int32) from jne (b := 2) q2 (by omega) (by omega)), if_neg (show ¬ nI so = (1 : Int32) from jne (b := 1) q1 (by omega) (by omega)), if_neg q3, if_neg q4]
    exact ⟨rfl, rfl⟩
  obtain ⟨-, -, -, -, -, -, -, h8⟩ := hTok
  have hTok := h.2.1
  rcases h8 with ⟨rfl, q⟩ | ⟨rfl, q1, q2, q3, q4⟩ | ⟨rfl, q1, q2, q3⟩ | ⟨rfl, q1, q2, q3, q4⟩ | ⟨rfl, q1, q2⟩
  · obtain ⟨eK, eR⟩ := other (by decide) (by decide) (by rw [q]; decide) (by rw [q]; decide)
    rw [eK, eR]
    refine fail_out h ?_ ?_
    · rw [show (33 : Int32) = nI 33 from rfl, s33k, if_neg (fun x => absurd x.1 (by decide)), bd_s, if_pos z00]
      exact f66 (fun x => absurd x.1 (by decide))
    · rw [f84 (fun x => absurd x.1 (by decide))]
      exact f145 (fun x => absurd x.1 (by decide))
  · have hB := srt_L (q3 s (Nat.le_refl _) q1)
    unfold F_X1_piece_0 F_X9_part0_0
    rw [h5, if_neg (show ¬ nI 1 = (2 : Int32) by decide), if_pos (show nI 1 = (1 : Int32) from rfl), q2, if_neg (show ¬ nI 1 = (2 : Int32) by decide), if_pos (show nI 1 = (1 : Int32) from rfl), q4]
    have bad : F_X9_part0_84 rece recq (nI key) R = some (nI 0, R) := by
      rw [f84 (fun x => absurd x.1 (by decide))]
      exact f145 (fun x => absurd x.1 (by decide))
    unfold C_X1_name F_X1_name_0
    rw [h6, hT.byte (by omega), bd_s, hTok.2.2.2.1, jn_sub (by omega)]
    by_cases q5 : e - s = 1
    · obtain ⟨n1, n2⟩ := e_isName_ ⟨key, hk⟩ ⟨B s, (hT.2.2.2 s (by omega)).1⟩
      have n1' : C_X5_isName (nI key) (nI (B s)) = some (if nmb key (B s) = true then 1 else 0) := n1
      have n2' : C_X9_isName (nI key) (nI (B s)) = some (if nmb key (B s) = true then 1 else 0) := n2
      rw [if_pos (show nI (e - s) = (1 : Int32) by rw [q5]; rfl), h4k, n1', bd_s, if_pos q5, if_neg (show ¬ nI (B s) = (0 : Int32) from jne (b := 0) (by omega) (by omega) (by omega)), n2', bd_s]
      by_cases q6 : nmb key (B s) = true
      · rw [if_pos q6, if_neg (show ¬ (1 : Int32) = 0 from n10), if_neg (show ¬ (1 : Int32) = 0 from n10)]
        have ok : stepOk key (ext p m (1, B s)) m := by
          unfold stepOk
          rw [ext_at]
          exact Or.inr (Or.inl ⟨rfl, nmb_names q6⟩)
        obtain ⟨K', R', b1, b2, b3, b4, b5⟩ := st_leaf hA h (Or.inl rfl) q1 (1, B s) (show (1 : Nat) ≠ 2 by decide) ok
        have b3' : C_X1_leaf (-nI (B s)) K = some (nI 1, K') := b3
        refine ⟨K', R', b1, b2, Or.inr ⟨?_, b4, b5⟩⟩
        rw [b3', bd2_s, if_neg n10, bd2_s]
        rfl
      · rw [if_neg q6, if_pos (show (0 : Int32) = 0 from rfl), if_pos (show (0 : Int32) = 0 from rfl)]
        exact fail_out h rfl bad
    · rw [if_neg (show ¬ nI (e - s) = (1 : Int32) from jne (b := 1) q5 (by omega) (by omega)), if_neg q5, if_pos z00]
      exact fail_out h rfl bad
  · unfold F_X1_piece_0 C_X1_number F_X1_number_0
    rw [h5, if_pos (show nI 2 = (2 : Int32) from rfl), h6, hTok.2.2.2.1, jn_sub (by omega)]
    rcases q3 with ⟨q4, q5, q6⟩ | ⟨q4, q5⟩
    · have hnum := num_22 hT hTok.2.2.2.1 hel q2 q4 (e - s) s (by omega) (Nat.le_refl _) FU (by omega)
      have hlt := dv_lt (B := B) (s := s) (e - s) (fun i hi => q2 (s + i) (by omega) (by omega))
      have h104 : 10 ^ (e - s) ≤ 10 ^ 4 := Nat.pow_le_pow_right (by decide) q4
      have ok : stepOk key (ext p m (0, dv B s (e - s))) m := by
        unfold stepOk
        rw [ext_at]
        exact Or.inl ⟨rfl, by show dv B s (e - s) ≤ 9999; omega⟩
      obtain ⟨K', R', b1, b2, b3, b4, b5⟩ := st_leaf hA h (Or.inr (Or.inr ⟨rfl, q4⟩)) q1 (0, dv B s (e - s)) (show (0 : Nat) ≠ 2 by decide) ok
      have b3' : C_X1_leaf (nI (dv B s (e - s))) K = some (nI 1, K') := b3
      refine ⟨K', R', b1, b2, Or.inr ⟨?_, ?_, b5⟩⟩
      · rw [if_pos (show nI (e - s) ≤ (4 : Int32) from jle (b := 4) q4 (by omega)), nm_eq]
        rw [Nat.sub_self] at hnum
        have hnum' : L_X1_number_22 FU 0 (nI s) K = bd2 (C_X1_leaf (nI (dv B s (e - s))) K) fun r6 K5 => gd (z01 r6) (some (r6, K5)) := hnum
        rw [hnum', b3', bd2_s]
        rfl
      · unfold F_X9_part0_0
        rw [q5, if_pos (show nI 2 = (2 : Int32) from rfl), q6]
        exact b4
    · have bad : F_X9_part0_0 rece recq (nI key) R = some (nI 0, R) := by
        unfold F_X9_part0_0
        rw [q5, if_neg (show ¬ nI 4 = (2 : Int32) by decide), if_neg (show ¬ nI 4 = (1 : Int32) by decide), f84 (fun x => absurd x.1 (by decide))]
        exact f145 (fun x => absurd x.1 (by decide))
      refine fail_out h ?_ bad
      rw [if_neg (show ¬ nI (e - s) ≤ (4 : Int32) from jnle (b := 4) (by omega) (by omega)), bd2_s]
      rfl
  · obtain ⟨eK, eR⟩ := other (by decide) (by decide) (by rw [q2]; decide) (by rw [q2]; decide)
    rw [eK, eR]
    by_cases b33 : B s = 33
    · have n40 : ¬ (3 = 3 ∧ B s = 40) := fun x => by omega
      rw [show (33 : Int32) = nI 33 from rfl, s33k, if_pos (show 3 = 3 ∧ B s = 33 from ⟨rfl, b33⟩), bd_s, if_neg n10]
      unfold F_X9_part0_84
      rw [show (33 : Int32) = nI 33 from rfl, s33r, if_pos (show 3 = 3 ∧ B s = 33 from ⟨rfl, b33⟩), bd_s, if_neg n10, h23]
      by_cases n8 : no < 8
      · rw [if_neg (show ¬ (8 : Int32) ≤ nI no from jnle (a := 8) (by omega) (by omega)), if_neg (show ¬ (8 : Int32) ≤ nI no from jnle (a := 8) (by omega) (by omega)), show nI no + 1 = nI (no + 1) from jn_add no 1, nm_eq]
        have mid0 := h.mid (Or.inr (Or.inl rfl))
        have mid : Mid l B A key op (no + 1) K (up R 0 23 (nI (no + 1))) p m e := by
          obtain ⟨m1, ⟨tg, m2⟩, m3, m4, m5, m6, m7⟩ := mid0
          refine ⟨m1.pw (A := A) pk_rf (pr_up0 (Or.inr rfl)), ⟨tg, m2.pw (A := A) pk_rf (pr_up0 (Or.inr rfl))⟩, m3.up0 (Or.inr rfl), m4, m5, ?_, u_at⟩
          rw [u_oth (by decide)]
          exact m6
        obtain ⟨K1, R1, s1, f1, so1, a1, a2, a3, a4, a5, a6⟩ := mid_move mid
        have gr0 : GFR A R (up R 0 23 (nI (no + 1))) := (pr_up0 (Or.inr rfl)).gf
        obtain ⟨K2, R2, b1, b2, b3⟩ := H1 n8 K1 R1 p m s1 f1 so1 a3
        rw [a1, bd_s, a2, bd_s]
        rcases b3 with ⟨c1, c2, c3⟩ | ⟨c1, c2, p2, m2, s2, f2, so2, c3, c4, c5, c6⟩
        · refine ⟨K2, R2, a5.tr b1, (gr0.tr a6).tr b2, Or.inl ⟨?_, ?_, c3⟩⟩
          · rw [c1, bd2_s, if_pos z00]
            rfl
          · rw [c2, bd2_s, if_pos z00]
            rfl
        · have hs2 := c3.sl
          have ok : stepOk key (ext p2 m2 (2, 33)) m2 := by
            unfold stepOk
            rw [ext_at, ext_dep (Nat.le_refl _)]
            exact Or.inr (Or.inr (Or.inl ⟨rfl, rfl, by omega⟩))
          obtain ⟨t1, t2, t3, t4, t5, t6, t7⟩ := c3
          have t3' : Em A key m2 p2 K2 (up R2 0 23 (nI no)) := t3.up0 (Or.inr rfl)
          obtain ⟨K3, R3, g1, g2, g3, g4, g5⟩ := em_put t3' hA (by omega) (2, 33) ok
          have g1' : C_X1_write (-33) K2 = some K3 := g1
          have g2' : C_X9_step 2 33 (up R2 0 23 (nI no)) = some R3 := g2
          obtain ⟨k22, k23⟩ := stp_keeps g2 t3'.2.1 t3'.2.2.1 hA (by omega)
          have gr1 : PR A R2 (up R2 0 23 (nI no)) := pr_up0 (Or.inr rfl)
          refine ⟨K3, R3, (a5.tr b1).tr g4.gf, (((gr0.tr a6).tr b2).tr gr1.gf).tr g5.gf, Or.inr ⟨?_, ?_, ext p2 m2 (2, 33), m2 + 1, s2, f2, so2, ⟨(t1.pw (A := A) pk_rf gr1).pw g4 g5, (t2.pw (A := A) pk_rf gr1).pw g4 g5, g3, by omega, ?_, ?_, ?_⟩, ?_, by omega, by omega⟩⟩
          · rw [c1, bd2_s, if_neg n10]
            show bd (C_X1_write (-33) K2) _ = _
            rw [g1', bd_s]
            rfl
          · rw [c2, bd2_s, if_neg n10, t7, show nI (no + 1) - 1 = nI no from jn_sub (a := no + 1) (b := 1) (by omega), nm_eq]
            show bd (C_X9_step 2 33 (up R2 0 23 (nI no))) _ = _
            rw [g2', bd_s]
            rfl
          · rw [g4 48 4 (by decide) (by omega)]
            exact t5
          · rw [k22, u_oth (by decide)]
            exact t6
          · rw [k23, u_at]
          · rw [dep_s, ext_at, if_pos rfl, if_pos rfl, ext_dep (Nat.le_refl _)]
            exact c4
      · rw [if_pos (show (8 : Int32) ≤ nI no from jle (a := 8) (by omega) (by omega)), if_pos (show (8 : Int32) ≤ nI no from jle (a := 8) (by omega) (by omega))]
        exact fail_out h (f66 n40) (f145 n40)
    · rw [show (33 : Int32) = nI 33 from rfl, s33k, if_neg (fun x => b33 x.2), bd_s, if_pos z00, f84 (fun x => b33 x.2)]
      by_cases b40 : B s = 40
      · unfold F_X1_piece_66 F_X9_part0_145
        rw [show (40 : Int32) = nI 40 from rfl, s40k, s40r, if_pos (show 3 = 3 ∧ B s = 40 from ⟨rfl, b40⟩), bd_s, bd_s, if_neg n10, if_neg n10, h22]
        by_cases n8 : op < 8
        · rw [if_neg (show ¬ (8 : Int32) ≤ nI op from jnle (a := 8) (by omega) (by omega)), if_neg (show ¬ nI op = (8 : Int32) from jne (b := 8) (by omega) (by omega) (by omega)), show nI op + 1 = nI (op + 1) from jn_add op 1, nm_eq]
          have mid0 := h.mid (Or.inr (Or.inl rfl))
          have mid : Mid l B A key (op + 1) no K (up R 0 22 (nI (op + 1))) p m e := by
            obtain ⟨m1, ⟨tg, m2⟩, m3, m4, m5, m6, m7⟩ := mid0
            refine ⟨m1.pw (A := A) pk_rf (pr_up0 (Or.inl rfl)), ⟨tg, m2.pw (A := A) pk_rf (pr_up0 (Or.inl rfl))⟩, m3.up0 (Or.inl rfl), m4, m5, u_at, ?_⟩
            rw [u_oth (by decide)]
            exact m7
          obtain ⟨K1, R1, s1, f1, so1, a1, a2, a3, a4, a5, a6⟩ := mid_move mid
          have gr0 : GFR A R (up R 0 22 (nI (op + 1))) := (pr_up0 (Or.inl rfl)).gf
          obtain ⟨K2, R2, b1, b2, b3⟩ := H2 n8 K1 R1 p m s1 f1 so1 a3
          rw [a1, bd_s, a2, bd_s, show (0 : Int32) = nI 0 from rfl]
          rcases b3 with ⟨c1, c2, c3⟩ | ⟨c1, c2, p2, m2, s2, f2, so2, c3, c4, c5, c6⟩
          · refine ⟨K2, R2, a5.tr b1, (gr0.tr a6).tr b2, Or.inl ⟨?_, ?_, c3⟩⟩
            · rw [c1, bd2_s, if_pos rfl]
            · rw [c2, bd2_s, if_pos rfl]
          · obtain ⟨s41k, s41r⟩ := sg c3.1 c3.2.1 (c := 41) (by omega)
            rw [c1, bd2_s, if_neg (show ¬ nI 1 = nI 0 from n10), c2, bd2_s, if_neg (show ¬ nI 1 = nI 0 from n10), show (41 : Int32) = nI 41 from rfl, s41k, bd_s, s41r, bd_s]
            by_cases b41 : so2 = 3 ∧ B s2 = 41
            · rw [if_pos b41, if_neg (show ¬ nI 1 = nI 0 from n10), if_neg (show ¬ nI 1 = nI 0 from n10), c3.2.2.2.2.2.1, show nI (op + 1) - 1 = nI op from jn_sub (a := op + 1) (b := 1) (by omega), nm_eq]
              have mid2 : Mid l B A key op no K2 (up R2 0 22 (nI op)) p2 m2 f2 := by
                obtain ⟨m1, ⟨tg, m2⟩, m3, m4, m5, m6, m7⟩ := c3.mid (Or.inr (Or.inl b41.1))
                refine ⟨m1.pw (A := A) pk_rf (pr_up0 (Or.inl rfl)), ⟨tg, m2.pw (A := A) pk_rf (pr_up0 (Or.inl rfl))⟩, m3.up0 (Or.inl rfl), m4, m5, u_at, ?_⟩
                rw [u_oth (by decide)]
                exact m7
              have gr1 : GFR A R2 (up R2 0 22 (nI op)) := (pr_up0 (Or.inl rfl)).gf
              obtain ⟨K3, R3, s3, f3, so3, d1, d2, d3, d4, d5, d6⟩ := mid_move mid2
              have hle := c3.2.1.1
              refine ⟨K3, R3, (a5.tr b1).tr d5, (((gr0.tr a6).tr b2).tr gr1).tr d6, Or.inr ⟨?_, ?_, p2, m2, s3, f3, so3, d3, c4, by omega, by omega⟩⟩
              · rw [d1, bd_s]
                rfl
              · rw [d2, bd_s]
                rfl
            · rw [if_neg b41, if_pos rfl, if_pos rfl]
              exact ⟨K2, R2, a5.tr b1, (gr0.tr a6).tr b2, Or.inl ⟨rfl, rfl, s2, c3.sl, c3.2.1.2.2.1, c3.2.1.2.2.2.2.2.1⟩⟩
        · rw [if_pos (show (8 : Int32) ≤ nI op from jle (a := 8) (by omega) (by omega)), if_pos (show nI op = (8 : Int32) by rw [show op = 8 by omega]; rfl)]
          exact fail_out h rfl rfl
      · exact fail_out h (f66 (fun x => b40 x.2)) (f145 (fun x => b40 x.2))
  · obtain ⟨eK, eR⟩ := other (by decide) (by decide) (by rw [q2]; decide) (by rw [q2]; decide)
    rw [eK, eR]
    refine fail_out h ?_ ?_
    · rw [show (33 : Int32) = nI 33 from rfl, s33k, if_neg (fun x => absurd x.1 (by decide)), bd_s, if_pos z00]
      exact f66 (fun x => absurd x.1 (by decide))
    · rw [f84 (fun x => absurd x.1 (by decide))]
      exact f145 (fun x => absurd x.1 (by decide))
end PC
