/-! a thing laid into a slot -/
theorem Rel.sl {K R K' R' : Mem} (h : Rel K R) {k : Nat} (hk : k < 5) (hK : ∀ a, a ≠ 60 + 3 * k → a ≠ 61 + 3 * k → a ≠ 62 + 3 * k → K' a = K a) (hR : ∀ a, (a < 7 ∨ 11 < a) → R' a = R a) (h7 : ∀ j, j ≠ k → R' 7 j = R 7 j) (h8 : ∀ j, j ≠ k → R' 8 j = R 8 j) (h9 : ∀ j, j ≠ k → R' 9 j = R 9 j) (h10 : ∀ j, j ≠ k → R' 10 j = R 10 j) (h11 : ∀ j p, j ≠ k → p < 24 → R' 11 (24 * j + p) = R 11 (24 * j + p)) (hs : SlotR K' R' k) : Rel K' R' := by
  refine h.other (fun a h1 h2 => hK a (by omega) (by omega) (by omega)) (by rw [hK 0 (by omega) (by omega) (by omega)]) (hR 1 (by decide)) (hR 2 (by decide)) (by rw [hR 0 (by decide)]) (fun j hj => (h.sheets j hj).same (hK _ (by omega) (by omega) (by omega)) (hK _ (by omega) (by omega) (by omega)) (by rw [hR 4 (by decide)]) (by rw [hR 5 (by decide)]) (fun p hp => by rw [hR 6 (by decide)])) (fun j hj => ?_) (h.waiting.same (by rw [hK 0 (by omega) (by omega) (by omega)]) (by rw [hR 0 (by decide)]) (hK 75 (by omega) (by omega) (by omega)) (hR 19 (by decide))) (h.tape.same (hK 46 (by omega) (by omega) (by omega)) (by rw [hR 0 (by decide)]) (hK 47 (by omega) (by omega) (by omega)) (hR 15 (by decide)))
  by_cases e : j = k
  · subst e
    exact hs
  · exact (h.slots j hj).same (hK _ (by omega) (by omega) (by omega)) (hK _ (by omega) (by omega) (by omega)) (hK _ (by omega) (by omega) (by omega)) (h7 j e) (h8 j e) (h9 j e) (h10 j e) (fun p hp => h11 j p e hp)
theorem lay150_loop {k s : Nat} {v : Int32} (hk : k < 5) (hs : s < 4) : ∀ (r i : Nat) (R : Mem), i + r = 24 → ∀ f, r < f → ∃ R', L_X9_lay_150 f (nI k) (nI s) v (nI i) R = some (v, R') ∧ (∀ a, a ≠ 11 → R' a = R a) ∧ (∀ j, j < 24 * k + i ∨ 24 * k + 24 ≤ j → R' 11 j = R 11 j) ∧ ∀ j, i ≤ j → j < 24 → R' 11 (24 * k + j) = R 6 (24 * s + j)
  | 0, i, R, hi, f, hf => by
    obtain ⟨g, rfl⟩ : ∃ g, f = g + 1 := ⟨f - 1, by omega⟩
    exact ⟨R, if_pos (jle (a := 24) (by omega) (by omega)), fun _ _ => rfl, fun _ _ => rfl, fun j h1 h2 => by omega⟩
  | r + 1, i, R, hi, f, hf => by
    obtain ⟨g, rfl⟩ : ∃ g, f = g + 1 := ⟨f - 1, by omega⟩
    obtain ⟨R', e, h1, h2, h3⟩ := lay150_loop (v := v) hk hs r (i + 1) (up R 11 (24 * k + i) (R 6 (24 * s + i))) (by omega) g (by omega)
    refine ⟨R', ?_, fun a ha => by rw [h1 a ha, u_ne ha], fun j hj => by rw [h2 j (by omega), u_oth (by omega)], fun j hj1 hj2 => ?_⟩
    · refine (if_neg (jnle (a := 24) (by omega) (by omega))).trans ?_
      rw [show (24 : Int32) * nI s + nI i = nI (24 * s + i) from by rw [show (24 : Int32) = nI 24 from rfl, pk_mul, jn_add], show (24 : Int32) * nI k + nI i = nI (24 * k + i) from by rw [show (24 : Int32) = nI 24 from rfl, pk_mul, jn_add], inb_t (by omega) (by omega), gd_t, inb_t (by omega) (by omega), gd_t, tn_nI (by omega), tn_nI (by omega), nm_eq, nm_eq, show (1 : Int32) = nI 1 from rfl, jn_add]
      exact e
    · by_cases e : j = i
      · subst e
        rw [h2 _ (by omega), u_at]
      · rw [h3 j (by omega) hj2, u_ne (by decide)]
/-- the reference's slot k after its writes -/
theorem lay_r {R : Mem} {k : Nat} {x y z : Int32} : (∀ a, (a < 7 ∨ 11 < a) → up (up (up R 7 k x) 8 k y) 9 k z a = R a) ∧ up (up (up R 7 k x) 8 k y) 9 k z 7 = up R 7 k x 7 ∧ up (up (up R 7 k x) 8 k y) 9 k z 8 = up R 8 k y 8 ∧ up (up (up R 7 k x) 8 k y) 9 k z 9 = up R 9 k z 9 ∧ up (up (up R 7 k x) 8 k y) 9 k z 10 = R 10 ∧ up (up (up R 7 k x) 8 k y) 9 k z 11 = R 11 := by
  refine ⟨fun a ha => by rw [u_ne (by omega), u_ne (by omega), u_ne (by omega)], ?_, ?_, ?_, ?_, ?_⟩
  · rw [u_ne (by decide), u_ne (by decide)]
  · rw [u_ne (by decide)]
    funext j
    by_cases e : j = k
    · subst e
      rw [u_at, u_at]
    · rw [u_oth e, u_oth e, u_ne (by decide)]
  · funext j
    by_cases e : j = k
    · subst e
      rw [u_at, u_at]
    · rw [u_oth e, u_oth e, u_ne (by decide), u_ne (by decide)]
  · rw [u_ne (by decide), u_ne (by decide), u_ne (by decide)]
  · rw [u_ne (by decide), u_ne (by decide), u_ne (by decide)]
theorem lay74 {R : Mem} {k : Nat} {b c : Int32} (hk : k < 5) (h1 : ¬ b = 1) (h2 : ¬ b = 2) : F_X9_lay_74 (nI k) b c R = some (R 7 k, up (up (up R 7 k b) 8 k c) 9 k 0) := by
  unfold F_X9_lay_74 F_X9_lay_109 F_X9_lay_129
  rw [inb_t (by omega) (by omega), tn_nI (by omega)]
  simp only [gd_t, nm_eq]
  rw [if_neg h1, if_neg h1, if_neg h2]
theorem s_lay : Sim3 Rel A8_lay A9_lay := by
  intro a b c K R h
  have hF := FU_big
  obtain ⟨n, ht⟩ := h.now
  have h12 := ht.2.n12
  unfold A8_lay A9_lay C_X8_lay F_X8_lay_0 C_X9_lay F_X9_lay_0 F_X9_lay_22 F_X9_lay_39
  rcases slot_e K a with ⟨k, hk, rfl, e1, e2⟩ | ⟨e1, e2⟩
  · obtain ⟨s1, s2⟩ := h.slots k hk
    have z1 : ¬ (1 : Int32) = 0 := n10
    have ee : nI 1 = (1 : Int32) := rfl
    rw [e1, e2, bd_s, if_neg n10, inb_t (by omega) (by omega), gd_t, tn_nI (by omega), nm_eq]
    show ∃ r K' R', nm (K (60 + 3 * k) 1) (fun v6 => if b = 0 then nm (up K (60 + 3 * k) 1 0) (fun K8 => some (v6, K8)) else if b = 1 then bd (C_X6_has 21 K c) (fun r11 => if r11 = 0 then some (-1000000001, K) else gd (inb c 12) (gd (inb c 12) (bd (C_X3_takeCourse (60 + 3 * k) (K 22 (Int32.toNatClampNeg c)) (K 23 (Int32.toNatClampNeg c)) K) fun K16 => some (v6, K16)))) else if b = 2 then bd (C_X8_isSheet K c) (fun r19 => if r19 = 0 then some (-1000000001, K) else gd (inb c 4) (nm (shG (Int32.toNatClampNeg c)) fun s22 => bd (C_X2_isMissing s22 K) fun r24 => if r24 = 0 then gd (inb c 4) (nm (shG (Int32.toNatClampNeg c)) fun s27 => bd (C_X3_takeSheet (60 + 3 * k) s27 K) fun K29 => some (v6, K29)) else some (-1000000011, K))) else if b = 3 then bd (C_X3_takeNumber (60 + 3 * k) c K) (fun K32 => some (v6, K32)) else some (-1000000001, K)) = _ ∧ _
    rw [nm_eq, s1]
    have plain : ∀ (K' : Mem), (¬ b = 1) → (¬ b = 2) → (∀ a, a ≠ 60 + 3 * k → K' a = K a) → SlotR K' (up (up (up R 7 k b) 8 k c) 9 k 0) k → Rel K' (up (up (up R 7 k b) 8 k c) 9 k 0) := by
      intro K' _ _ hK hs
      obtain ⟨q1, q7, q8, q9, q10, q11⟩ := lay_r (R := R) (k := k) (x := b) (y := c) (z := 0)
      exact h.sl hk (fun a h1 _ _ => hK a h1) q1 (fun j hj => by rw [q7, u_oth hj]) (fun j hj => by rw [q8, u_oth hj]) (fun j hj => by rw [q9, u_oth hj]) (fun j hj => by rw [q10]) (fun j p hj hp => by rw [q11]) hs
    by_cases b0 : b = 0
    · have b1 : ¬ b = 1 := by
        rw [b0]
        decide
      have b2 : ¬ b = 2 := by
        rw [b0]
        decide
      rw [if_pos b0, if_pos b0, nm_eq, bd_s, if_neg n10, if_neg z1, if_neg b2, lay74 hk b1 b2]
      obtain ⟨q1, q7, q8, q9, q10, q11⟩ := lay_r (R := R) (k := k) (x := b) (y := c) (z := 0)
      refine ⟨_, _, _, rfl, rfl, plain _ b1 b2 (fun a ha => u_ne ha) ⟨?_, Or.inl ?_⟩⟩
      · rw [u_at, q7, u_at, b0]
      · rw [q7, u_at, b0]
    · rw [if_neg b0, if_neg b0]
      by_cases b3 : b = 3
      · have b1 : ¬ b = 1 := by
          rw [b3]
          decide
        have b2 : ¬ b = 2 := by
          rw [b3]
          decide
        unfold C_X3_takeNumber F_X3_takeNumber_0
        rw [if_neg b1, if_neg b2, if_pos b3, if_pos b3, nm_eq, nm_eq, bd_s, bd_s, if_neg n10, if_neg z1, if_neg b2, lay74 hk b1 b2]
        obtain ⟨q1, q7, q8, q9, q10, q11⟩ := lay_r (R := R) (k := k) (x := b) (y := c) (z := 0)
        refine ⟨_, _, _, rfl, rfl, plain _ b1 b2 (fun a ha => by rw [u_ne ha, u_ne ha]) ⟨?_, Or.inr (Or.inr (Or.inr ⟨?_, ?_⟩))⟩⟩
        · rw [u_oth (by decide), u_at, q7, u_at, b3]
        · rw [q7, u_at, b3]
        · rw [u_at, q8, u_at]
      · rw [if_neg b3, if_neg b3]
        by_cases b1 : b = 1
        · have b2 : ¬ b = 2 := by
            rw [b1]
            decide
          rw [if_pos b1, if_pos b1]
          rcases course_e ht c with ⟨i, hi, rfl, f1, f2⟩ | ⟨f1, f2⟩
          · obtain ⟨k1, k2⟩ := ht.2.kf hi
            have ek : K 22 i = nI (kf (R 1) i) := (ht.1.kd (by omega)).trans k2
            have eg : K 23 i = R 1 (11 + 4 * i) := ht.1.ga (by omega)
            obtain ⟨v, v1, v2⟩ := b_worth (R := up (up R 7 k b) 8 k (nI (kf (R 1) i))) (g := R 1 (11 + 4 * i)) (i := i) (by omega) k1 (by rw [u_ne (by decide), u_ne (by decide)]; exact k2) (by rw [u_ne (by decide), u_ne (by decide)])
            unfold C_X3_takeCourse F_X3_takeCourse_0 F_X9_lay_74 F_X9_lay_109 F_X9_lay_129
            rw [f1, f2, bd_s, bd_s, if_neg n10, if_neg n10, inb_t (by omega) (by omega), gd_t, gd_t, tn_nI (by omega), ek, eg, nm_eq, nm_eq, nm_eq, bd_s, bd_s, if_neg n10, if_neg z1, if_neg b2, inb_t (by omega) (by omega), tn_nI (by omega)]
            have o : C_X9_of (up R 7 k b) (nI i) 0 = some (nI (kf (R 1) i)) := by
              rw [show (0 : Int32) = nI 0 from rfl, e_of (by omega), Nat.add_zero, u_ne (by decide), k2]
            simp only [gd_t, nm_eq]
            rw [if_pos b1, o, bd_s, if_pos b1, v2, bd_s, if_neg b2]
            obtain ⟨q1, q7, q8, q9, q10, q11⟩ := lay_r (R := R) (k := k) (x := b) (y := nI (kf (R 1) i)) (z := v)
            refine ⟨_, _, _, rfl, rfl, h.sl hk (fun a h1 _ _ => by rw [u_ne h1, u_ne h1, u_ne h1]) q1 (fun j hj => by rw [q7, u_oth hj]) (fun j hj => by rw [q8, u_oth hj]) (fun j hj => by rw [q9, u_oth hj]) (fun j hj => by rw [q10]) (fun j p hj hp => by rw [q11]) ⟨?_, Or.inr (Or.inl ⟨?_, ?_, ?_, ?_⟩)⟩⟩
            · rw [u_oth (by decide), u_oth (by decide), u_at, q7, u_at, b1]
            · rw [q7, u_at, b1]
            · rw [u_oth (by decide), u_at, q8, u_at]
            · rw [q8, u_at]
              exact ⟨_, k1, rfl⟩
            · rw [u_oth (by decide), u_at, u_at, q9, u_at]
              exact v1
          · rw [f1, f2, bd_s, bd_s, if_pos z00, if_pos z00, if_neg b2, bd_s, if_neg n10, if_pos (show (0 : Int32) = 0 from rfl)]
            exact ⟨_, _, _, rfl, rfl, h⟩
        · rw [if_neg b1, if_neg b1]
          by_cases b2 : b = 2
          · rw [if_pos b2, if_pos b2]
            rcases sheet_e K c with ⟨s, hs, rfl, f1, f2⟩ | ⟨f1, f2⟩
            · obtain ⟨t1, t2, t3, ⟨z, hz24, hz⟩, t5⟩ := h.sheets s hs
              rw [f1, f2, bd_s, bd_s, if_neg n10, if_neg n10, bd_s, if_neg n10, if_neg z1, if_pos b2, inb_t (by omega) (by omega), tn_nI (by omega)]
              simp only [gd_t, nm_eq]
              show ∃ r K' R', bd (C_X2_isMissing (51 + 2 * s) K) (fun r24 => if r24 = 0 then bd (C_X3_takeSheet (60 + 3 * k) (51 + 2 * s) K) (fun K29 => some (R 7 k, K29)) else some (-1000000011, K)) = _ ∧ _
              rw [miss_e t1, bd_s]
              by_cases q : R 4 s = -1
              · have hn : ¬ (0 : Int32) ≤ R 4 s := by
                  rw [q]
                  decide
                rw [if_pos q, if_neg z1, if_neg hn]
                exact ⟨_, _, _, rfl, rfl, h⟩
              · obtain ⟨q1, q7, q8, q9, q10, q11⟩ := lay_r (R := R) (k := k) (x := b) (y := nI s) (z := 0)
                generalize hR3 : up (up (up R 7 k b) 8 k (nI s)) 9 k 0 = R3 at q1 q7 q8 q9 q10 q11
                obtain ⟨R', r1, r2, r3, r4⟩ := lay150_loop (k := k) (s := s) (v := R 7 k) hk hs 24 0 (up R3 10 k (R3 5 s)) (by omega) FU (by omega)
                have rr : F_X9_lay_74 (nI k) b (nI s) R = some (R 7 k, R') := by
                  have r1' : L_X9_lay_150 FU (nI k) (nI s) (R 7 k) 0 (up R3 10 k (R3 5 s)) = some (R 7 k, R') := r1
                  unfold F_X9_lay_74 F_X9_lay_109 F_X9_lay_129
                  rw [inb_t (by omega) (by omega), inb_t (by omega) (by omega), tn_nI (by omega), tn_nI (by omega)]
                  simp only [gd_t, nm_eq]
                  rw [if_neg b1, if_neg b1, if_pos b2, hR3]
                  exact r1'
                have cp : cpok 0 0 24 24 24 = true := by decide
                have t24 : Int32.toNatClampNeg 24 = 24 := by decide
                have t0 : Int32.toNatClampNeg 0 = 0 := by decide
                unfold C_X3_takeSheet F_X3_takeSheet_0 C_X2_become F_X2_become_0
                rw [if_neg q, if_pos (show (0 : Int32) = 0 from rfl), if_pos (sort_ge t3 q), rr, cp, t24, t0]
                simp only [gd_t, nm_eq, bd_s]
                have e5 : R' 10 k = R 5 s := by rw [r2 10 (by decide), u_at, q1 5 (by decide)]
                have a61 : 60 + 3 * k + 1 = 61 + 3 * k := by omega
                have a62 : 61 + 3 * k + 1 = 62 + 3 * k := by omega
                have a52 : 51 + 2 * s + 1 = 52 + 2 * s := by omega
                rw [a61, a62, a52]
                have k1 : up K (60 + 3 * k) 1 2 (51 + 2 * s) = K (51 + 2 * s) := u_ne (by omega)
                rw [k1]
                refine ⟨_, _, _, rfl, rfl, h.sl hk (fun a h1 h2 h3 => by rw [cpm_ne h3, u_ne h2, u_ne h2, u_ne h1]) (fun a ha => by rw [r2 a (by omega), u_ne (by omega), q1 a ha]) (fun j hj => by rw [r2 7 (by decide), u_ne (by decide), q7, u_oth hj]) (fun j hj => by rw [r2 8 (by decide), u_ne (by decide), q8, u_oth hj]) (fun j hj => by rw [r2 9 (by decide), u_ne (by decide), q9, u_oth hj]) (fun j hj => by rw [r2 10 (by decide), u_oth hj, q10]) (fun j p hj hp => by rw [r3 _ (by omega), u_ne (by decide), q11]) ⟨?_, Or.inr (Or.inr (Or.inl ⟨?_, ?_, ?_, fun p hp => ?_⟩))⟩⟩
                · rw [cpm_ne (by omega), u_ne (by omega), u_ne (by omega), u_at, r2 7 (by decide), u_ne (by decide), q7, u_at, b2]
                · rw [r2 7 (by decide), u_ne (by decide), q7, u_at, b2]
                · rw [cpm_ne (by omega), u_at, u_ne (by omega), k1, t2, e5]
                · rw [e5]
                  exact ⟨z, hz24, hz⟩
                · rw [cpm_at hp, u_ne (by omega), u_ne (by omega), u_ne (by omega), (t5 p hp).1, r4 p (Nat.zero_le _) hp, u_ne (by decide), q1 6 (by decide)]
            · rw [f1, f2, bd_s, bd_s, if_pos z00, if_pos z00, bd_s, if_neg n10, if_pos (show (0 : Int32) = 0 from rfl)]
              exact ⟨_, _, _, rfl, rfl, h⟩
          · rw [if_neg b2, if_neg b2, bd_s, if_neg n10, if_pos (show (0 : Int32) = 0 from rfl)]
            exact ⟨_, _, _, rfl, rfl, h⟩
  · have bad : ∀ t0 : Int32, (bd (C_X9_isSlot a) fun r8 => if r8 = 0 then some (-1000000001, R) else if t0 = 0 then some (-1000000001, R) else if b = 2 then gd (inb c 4) (if 0 ≤ R 4 (Int32.toNatClampNeg c) then F_X9_lay_74 a b c R else some (-1000000011, R)) else F_X9_lay_74 a b c R) = some (-1000000001, R) := by
      intro t0
      rw [e2, bd_s, if_pos z00]
    rw [e1, bd_s, if_pos z00]
    refine ⟨_, _, R, rfl, ?_, h⟩
    by_cases b0 : b = 0
    · rw [if_pos b0]
      exact bad 1
    · rw [if_neg b0]
      by_cases b3 : b = 3
      · rw [if_pos b3]
        exact bad 1
      · rw [if_neg b3]
        have sheet : (bd (C_X9_isSheet c) fun r16 => if r16 = 0 then (bd (C_X9_isSlot a) fun r8 => if r8 = 0 then some (-1000000001, R) else if (0 : Int32) = 0 then some (-1000000001, R) else if b = 2 then gd (inb c 4) (if 0 ≤ R 4 (Int32.toNatClampNeg c) then F_X9_lay_74 a b c R else some (-1000000011, R)) else F_X9_lay_74 a b c R) else (bd (C_X9_isSlot a) fun r8 => if r8 = 0 then some (-1000000001, R) else if (1 : Int32) = 0 then some (-1000000001, R) else if b = 2 then gd (inb c 4) (if 0 ≤ R 4 (Int32.toNatClampNeg c) then F_X9_lay_74 a b c R else some (-1000000011, R)) else F_X9_lay_74 a b c R)) = some (-1000000001, R) := by
          rcases sheet_e K c with ⟨s, hs, rfl, f1, f2⟩ | ⟨f1, f2⟩
          · rw [f2, bd_s, if_neg n10]
            exact bad 1
          · rw [f2, bd_s, if_pos z00]
            exact bad 0
        by_cases b1 : b = 1
        · have b2 : ¬ b = 2 := by
            rw [b1]
            decide
          rw [if_pos b1]
          rcases course_e ht c with ⟨i, hi, rfl, f1, f2⟩ | ⟨f1, f2⟩
          · rw [f2, bd_s, if_neg n10]
            exact bad 1
          · rw [f2, bd_s, if_pos z00, if_neg b2]
            exact bad 0
        · rw [if_neg b1]
          by_cases b2 : b = 2
          · rw [if_pos b2]
            exact sheet
          · rw [if_neg b2]
            exact bad 0
