/-! a TEXT comes: the two memories behind it -/
theorem TextP.mono3 {K K' : Mem} {S S' : Nat → Int32} {t key m : Nat} {p : Nat → Nat × Nat} (h : TextP K S t key m p) (h3 : K' 3 t = K 3 t) (h4 : K' 4 t = K 4 t) (h5 : K' 5 t = K 5 t) (hr : ∀ i, K' (rwG t) i = K (rwG t) i) (hS : ∀ i, 58 + 200 * t ≤ i → i < 258 + 200 * t → S' i = S i) : TextP K' S' t key m p := by
  obtain ⟨a1, a2, a3, a4, a5, a6, a7, a8, a9, a10⟩ := h
  refine ⟨a1, a2, a3, a4, ?_, ?_, ?_, ?_, ?_, fun i hi => ?_⟩
  · rw [hS _ (by omega) (by omega)]
    exact a5
  · rw [h4]
    exact a6
  · rw [h5, hS _ (by omega) (by omega)]
    exact a7
  · rw [hS _ (by omega) (by omega)]
    exact a8
  · rw [h3]
    exact a9
  · rw [hS _ (by omega) (by omega), hS _ (by omega) (by omega), hr]
    exact a10 i hi
theorem nI_inj {a b : Nat} (ha : a < 2147483648) (hb : b < 2147483648) (h : nI a = nI b) : a = b := (jn_eq ha hb).mp h
theorem XT.mono3 {K K' : Mem} {q : Nat} {S S' : Nat → Int32} {tn : Nat} (h : XT K q S) (h13 : K' q 13 = K q 13) (h6 : ∀ k, K' (q + 6) k = K (q + 6) k) (hn : S 1 = nI tn) (h14 : tn ≤ 14) (hc : ∀ t, t < tn → K' 3 t = K 3 t ∧ K' 4 t = K 4 t ∧ K' 5 t = K 5 t ∧ ∀ i, K' (rwG t) i = K (rwG t) i) (h1 : S' 1 = S 1) (hS : ∀ i, 58 ≤ i → i < 58 + 200 * tn → S' i = S i) : XT K' q S' := by
  obtain ⟨t0, a1, a2, a3, a4, a5⟩ := h
  obtain rfl : t0 = tn := nI_inj (by omega) (by omega) (a2.symm.trans hn)
  refine ⟨t0, a1, h1.trans a2, h13.trans a3, fun k hk => ?_, fun t ht => ?_⟩
  · rw [h6 k, a4 k hk]
    exact (lastT_ext t0 (fun t ht => hS _ (by omega) (by omega))).symm
  · obtain ⟨key, m, p, e⟩ := a5 t ht
    obtain ⟨c1, c2, c3, c4⟩ := hc t ht
    exact ⟨key, m, p, e.mono3 c1 c2 c3 c4 (fun i q1 q2 => hS i (by omega) (by omega))⟩
theorem TR.pt {K K' : Mem} {q : Nat} {S S' : Nat → Int32} (h : TR K q S) (hK : ∀ a j, q ≤ a → a ≤ q + 5 → ¬ (a = q ∧ 13 ≤ j) → K' a j = K a j) (hS : ∀ i, i < 58 → i ≠ 1 → S' i = S i) : TR K' q S' := by
  refine ⟨fun c hc => ?_, fun c hc => ?_, fun c hc => ?_, fun c hc => ?_, fun c hc => ?_, ?_, ?_, ?_, ?_, ?_, ?_⟩
  · rw [hK _ _ (by omega) (by omega) (by omega), hS _ (by omega) (by omega)]
    exact h.kd hc
  · rw [hK _ _ (by omega) (by omega) (by omega), hS _ (by omega) (by omega)]
    exact h.ga hc
  · rw [hK _ _ (by omega) (by omega) (by omega), hS _ (by omega) (by omega)]
    exact h.we hc
  · rw [hK _ _ (by omega) (by omega) (by omega), hS _ (by omega) (by omega)]
    exact h.lo hc
  · rw [hK _ _ (by omega) (by omega) (by omega), hS _ (by omega) (by omega)]
    exact h.ru hc
  · rw [hK _ _ (by omega) (by omega) (by omega), hS _ (by omega) (by omega)]
    exact h.nn
  · rw [hK _ _ (by omega) (by omega) (by omega), hS _ (by omega) (by omega)]
    exact h.wa
  · rw [hK _ _ (by omega) (by omega) (by omega), hS _ (by omega) (by omega)]
    exact h.rn
  · rw [hK _ _ (by omega) (by omega) (by omega), hS _ (by omega) (by omega)]
    exact h.me
  · rw [hK _ _ (by omega) (by omega) (by omega), hS _ (by omega) (by omega)]
    exact h.ni
  · rw [hK _ _ (by omega) (by omega) (by omega), hS _ (by omega) (by omega)]
    exact h.zz
theorem Inv.pt {S S' : Nat → Int32} {n : Nat} (h : Inv S n) (hS : ∀ i, i < 58 → i ≠ 1 → S' i = S i) : Inv S' n := by
  have h12 := h.n12
  refine ⟨h12, ?_, fun c hc => ?_, fun c hc => ?_, fun c hc => ?_⟩
  · rw [hS 0 (by omega) (by omega)]
    exact h.s0
  · rw [hS _ (by omega) (by omega)]
    exact h.kd hc
  · rw [hS _ (by omega) (by omega)]
    exact h.we hc
  · rw [hS _ (by omega) (by omega)]
    exact h.lo hc
theorem rwG_eq (t : Nat) : rwG t = 6 + t := rfl
/-- all but the texts, the reader and the tape stands -/
theorem Rel.txt {K R K' R' : Mem} {tn : Nat} (h : Rel K R) (hn : R 1 1 = nI tn) (h14 : tn ≤ 14) (hK : ∀ a j, ¬ (a = 46 ∧ j = 1) → a ≠ 48 → a ≠ 49 → ¬ ((a = 3 ∨ a = 4 ∨ a = 5) ∧ j = tn) → a ≠ 6 + tn ∨ tn = 14 → a ≠ 27 → ¬ (a = 21 ∧ j = 13) → K' a j = K a j) (hR : ∀ a j, ¬ (a = 1 ∧ 58 + 200 * tn ≤ j) → ¬ (a = 1 ∧ j = 1) → ¬ (a = 0 ∧ 16 ≤ j ∧ j ≤ 26) → R' a j = R a j) (hX : XT K' 21 (R' 1)) (h46 : K' 46 1 = nI 0) (h16 : R' 0 16 = nI 0) (hb : ∃ b, tn ≤ b ∧ b ≤ 14 ∧ R' 1 1 = nI b) : Rel K' R' := by
  obtain ⟨n, ht⟩ := h.now
  have hS1 : ∀ i, i < 58 → i ≠ 1 → R' 1 i = R 1 i := fun i h1 h2 => hR 1 i (by omega) (by omega) (by omega)
  have kc : ∀ a, 22 ≤ a → a ≠ 27 → a ≠ 46 → a ≠ 48 → a ≠ 49 → K' a = K a := fun a h1 h2 h3 h4 h5 => funext fun j => hK a j (by omega) h4 h5 (by omega) (Or.inl (by omega)) h2 (by omega)
  have rc : ∀ a, 2 ≤ a → R' a = R a := fun a h1 => funext fun j => hR a j (by omega) (by omega) (by omega)
  refine ⟨⟨n, ?_, ?_⟩, ?_, hX, ⟨?_, ?_⟩, fun k hk => ?_, fun k hk => ?_, ?_, ?_⟩
  · exact ht.1.pt (fun a j h1 h2 h3 => hK a j (by omega) (by omega) (by omega) (by omega) (Or.inl (by omega)) (by omega) (by omega)) hS1
  · exact ht.2.pt hS1
  · rw [hS1 2 (by omega) (by omega)]
    exact h.nights
  · rw [hK 0 11 (by omega) (by omega) (by omega) (by omega) (Or.inl (by omega)) (by omega) (by omega), hR 0 3 (by omega) (by omega) (by omega)]
    exact h.img.1
  · rw [hR 0 3 (by omega) (by omega) (by omega)]
    rcases h.img.2 with e | ⟨e, a1, a2, a4, b0, a, b, b1, b2, b3, b4⟩
    · exact Or.inl e
    · have hbn : b = tn := nI_inj (by omega) (by omega) ((b4.symm.trans hn))
      obtain ⟨c, c1, c2, c3⟩ := hb
      refine Or.inr ⟨e, ?_, ?_, ?_, ?_, ?_⟩
      · rw [rc 2 (by omega)]
        exact a1.pt (fun a j h1 h2 h3 => by rw [kc a (by omega) (by omega) (by omega) (by omega) (by omega)]) (fun _ _ _ => rfl)
      · rw [rc 2 (by omega)]
        exact a2
      · rw [rc 2 (by omega)]
        refine XT.mono3 (S := R 2) (tn := a) a4 (by rw [kc 28 (by omega) (by omega) (by omega) (by omega) (by omega)]) (fun k => by rw [kc (28 + 6) (by omega) (by omega) (by omega) (by omega) (by omega)]) b3 (by omega) (fun t ht => ?_) rfl (fun _ _ _ => rfl)
        refine ⟨hK 3 t (by omega) (by omega) (by omega) (by omega) (by omega) (by omega) (by omega), hK 4 t (by omega) (by omega) (by omega) (by omega) (by omega) (by omega) (by omega), hK 5 t (by omega) (by omega) (by omega) (by omega) (by omega) (by omega) (by omega), fun i => hK (rwG t) i ?_ ?_ ?_ ?_ ?_ ?_ ?_⟩ <;> rw [rwG_eq] <;> omega
      · rw [rc 2 (by omega)]
        exact b0
      · rw [rc 2 (by omega)]
        exact ⟨a, c, by omega, c2, b3, c3⟩
  · exact (h.sheets k hk).same (kc _ (by omega) (by omega) (by omega) (by omega) (by omega)) (kc _ (by omega) (by omega) (by omega) (by omega) (by omega)) (by rw [rc 4 (by omega)]) (by rw [rc 5 (by omega)]) (fun p _ => by rw [rc 6 (by omega)])
  · exact (h.slots k hk).same (kc _ (by omega) (by omega) (by omega) (by omega) (by omega)) (kc _ (by omega) (by omega) (by omega) (by omega) (by omega)) (kc _ (by omega) (by omega) (by omega) (by omega) (by omega)) (by rw [rc 7 (by omega)]) (by rw [rc 8 (by omega)]) (by rw [rc 9 (by omega)]) (by rw [rc 10 (by omega)]) (fun p _ => by rw [rc 11 (by omega)])
  · exact h.waiting.same (hK 0 10 (by omega) (by omega) (by omega) (by omega) (Or.inl (by omega)) (by omega) (by omega)) (hR 0 31 (by omega) (by omega) (by omega)) (kc 75 (by omega) (by omega) (by omega) (by omega) (by omega)) (rc 19 (by omega))
  · exact ⟨0, by omega, h16, h46, fun i hi => absurd hi (Nat.not_lt_zero _)⟩
theorem cpok_ : ∀ m : Fin 97, cpok 0 0 (nI m) 96 96 = true := by decide +kernel
theorem s_text : Sim0 Rel A8_text A9_text := by
  intro K R h
  obtain ⟨tn, x1, x2, x3, x4, x5⟩ := h.xt
  obtain ⟨l, t1, t2, t3, t4⟩ := h.tape
  have hT : Tp l (fun i => Int32.toNatClampNeg (R 15 i)) K R := by
    refine ⟨t1, t3, t2, fun i hi => ?_⟩
    obtain ⟨e1, b, hb, e2⟩ := t4 i hi
    show Int32.toNatClampNeg (R 15 i) < 256 ∧ K 47 i = nI (Int32.toNatClampNeg (R 15 i)) ∧ R 15 i = nI (Int32.toNatClampNeg (R 15 i))
    rw [e1, e2, tn_nI (by omega)]
    exact ⟨hb, rfl, rfl⟩
  obtain ⟨K1, R1, f1, f2, f3⟩ := e_parse (A := if tn = 14 then 2858 else 62 + 200 * tn) hT x1 x2 rfl
  have hA : 58 + 200 * tn ≤ (if tn = 14 then 2858 else 62 + 200 * tn) := by
    by_cases q : tn = 14
    · rw [if_pos q]
      omega
    · rw [if_neg q]
      omega
  generalize hAe : (if tn = 14 then 2858 else 62 + 200 * tn) = A at f2 f3 hA
  have r11 : R1 1 1 = nI tn := by
    rw [f2 1 1 (by omega) (by omega)]
    exact x2
  -- where nothing but reading was done
  have quiet : Rel (up K1 46 1 0) (up R1 0 16 0) := by
    have hk : ∀ a j, ¬ (a = 46 ∧ j = 1) → a ≠ 48 → a ≠ 49 → up K1 46 1 0 a j = K a j := fun a j y1 y2 y3 => by
      rw [u_if, if_neg y1]
      exact f1 a j y2 y3
    have hr : ∀ a j, ¬ (a = 1 ∧ 58 + 200 * tn ≤ j) → ¬ (a = 0 ∧ 16 ≤ j ∧ j ≤ 26) → up R1 0 16 0 a j = R a j := fun a j y1 y2 => by
      rw [u_if, if_neg (by omega)]
      exact f2 a j (by omega) (by omega)
    refine h.txt x2 x1 (fun a j y1 y2 y3 _ _ _ _ => hk a j y1 y2 y3) (fun a j y1 _ y3 => hr a j y1 y3) ?_ u_at u_at ⟨tn, Nat.le_refl _, x1, ?_⟩
    · refine h.xt.mono3 (hk 21 13 (by omega) (by omega) (by omega)) (fun k => hk (21 + 6) k (by omega) (by omega) (by omega)) x2 x1 (fun t ht => ⟨hk 3 t (by omega) (by omega) (by omega), hk 4 t (by omega) (by omega) (by omega), hk 5 t (by omega) (by omega) (by omega), fun i => hk (rwG t) i ?_ ?_ ?_⟩) (hr 1 1 (by omega) (by omega)) (fun i y1 y2 => hr 1 i (by omega) (by omega)) <;> rw [rwG_eq] <;> omega
    · rw [u_ne (by decide)]
      exact r11
  unfold A8_text A9_text C_X8_text F_X8_text_0 C_X9_text F_X9_text_0
  rcases f3 with ⟨s, hs, g1, g2, g3⟩ | ⟨key, m, p, hk, g1, g2, g3, g4, g5, g6⟩
  · refine ⟨-100 - nI s, _, _, ?_, ?_, quiet⟩
    · rw [g1, bd2_s, nm_eq, if_neg (show ¬ nI s < (0 : Int32) from jnlt (b := 0) (Nat.zero_le _) (by omega))]
    · rw [g2, bd2_s, if_neg neg1_lt, u_oth (by decide), g3]
  · have k13 : up K1 46 1 0 21 13 = nI tn := by
      rw [u_ne (by decide), f1 21 13 (by decide) (by decide)]
      exact x3
    have r1 : up R1 0 16 0 1 1 = nI tn := by
      rw [u_ne (by decide)]
      exact r11
    rw [g1, bd2_s, nm_eq, if_pos (show (-1 : Int32) < 0 by decide), k13, g2, bd2_s, if_pos (show (0 : Int32) ≤ nI key from jle (a := 0) (Nat.zero_le _) (by omega)), show inb 1 3058 = true from by decide, gd_t, show Int32.toNatClampNeg 1 = 1 from by decide, r1]
    by_cases q : tn = 14
    · rw [if_neg (show ¬ nI tn < (14 : Int32) from jnlt (b := 14) (by omega) (by omega)), if_pos (show nI tn = (14 : Int32) by rw [q]; rfl)]
      exact ⟨_, _, _, rfl, rfl, quiet⟩
    · have hA2 : A = 62 + 200 * tn := by rw [← hAe, if_neg q]
      subst hA2
      have htn : tn < 14 := by omega
      obtain ⟨m1, m2, m3, m4, m5, m6⟩ := g3
      -- the class's side
      have eK : ∃ K2, C_X5_store (nI tn) (up K1 46 1 0) = some K2 ∧ (∀ a j, ¬ (a = 46 ∧ j = 1) → ¬ ((a = 3 ∨ a = 4 ∨ a = 5) ∧ j = tn) → a ≠ 6 + tn → K2 a j = K1 a j) ∧ K2 46 1 = nI 0 ∧ K2 3 tn = nI m ∧ K2 4 tn = nI key ∧ K2 5 tn = K1 48 3 ∧ ∀ i, i < m → K2 (6 + tn) i = K1 49 i := by
        have ek : ∀ j, up K1 46 1 0 48 j = K1 48 j := fun j => by rw [u_ne (by decide)]
        have cp : cpok 0 0 (nI m) 96 96 = true := cpok_ ⟨m, by omega⟩
        have d49 : 49 ≠ 6 + tn := by omega
        have d48 : 48 ≠ 6 + tn := by omega
        have d46 : 46 ≠ 6 + tn := by omega
        refine ⟨up (up (up (cpm (up K1 46 1 0) 49 (6 + tn) 0 0 m) 3 tn (nI m)) 4 tn (nI key)) 5 tn (K1 48 3), ?_, ?_, ?_, ?_, ?_, u_at, ?_⟩
        · unfold C_X5_store F_X5_store_0
          rw [if_neg (show ¬ nI tn < (0 : Int32) from jnlt (b := 0) (Nat.zero_le _) (by omega)), if_pos (show nI tn < (14 : Int32) from jlt (b := 14) htn (by omega)), inb_t (by omega) (by omega), gd_t, tn_nI (by omega), nm_eq, rwG_eq, ek, m1, cp, gd_t, show Int32.toNatClampNeg 0 = 0 from by decide, tn_nI (by omega), nm_eq, gd_t, cpm_ne d48, ek, m1, nm_eq, gd_t, u_ne (by decide), cpm_ne d48, ek, g6, nm_eq, gd_t, u_ne (by decide), u_ne (by decide), cpm_ne d48, ek, nm_eq]
        · intro a j y1 y2 y3
          rw [u_if, if_neg (by omega), u_if, if_neg (by omega), u_if, if_neg (by omega), cpm_ne y3, u_if, if_neg y1]
        · rw [u_ne (by decide), u_ne (by decide), u_ne (by decide), cpm_ne d46, u_at]
          rfl
        · rw [u_ne (by decide), u_ne (by decide), u_at]
        · rw [u_ne (by decide), u_at]
        · intro i hi
          rw [u_ne (by omega), u_ne (by omega), u_ne (by omega), cpm_at hi, u_ne (by decide)]
      obtain ⟨K2, s1, s2, s3, s4, s5, s6, s7⟩ := eK
      have k48 : K2 48 4 = nI key := (s2 48 4 (by omega) (by omega) (by omega)).trans g6
      have k2113 : K2 21 13 = nI tn := by
        rw [s2 21 13 (by omega) (by omega) (by omega), f1 21 13 (by decide) (by decide)]
        exact x3
      have eK3 : C_X6_addText 21 (nI key) K2 = some (nI tn, up (up K2 (21 + 6) key (nI tn)) 21 13 (nI (tn + 1))) := by
        unfold C_X6_addText F_X6_addText_0 F_X6_addText_23
        rw [if_neg (show ¬ nI key < (0 : Int32) from jnlt (b := 0) (Nat.zero_le _) (by omega)), if_neg (show ¬ (3 : Int32) ≤ nI key from jnle (a := 3) (by omega) (by omega)), inb_t (by omega) (by omega), gd_t, tn_nI (by omega), k2113, nm_eq, u_ne (by decide), k2113, show nI tn + 1 = nI (tn + 1) from jn_add tn 1, nm_eq, u_at, show nI (tn + 1) - 1 = nI tn from jn_sub (a := tn + 1) (b := 1) (by omega)]
      rw [if_pos (show nI tn < (14 : Int32) from jlt (b := 14) htn (by omega)), s1, bd_s, k48, eK3, bd2_s, if_neg (show ¬ nI tn = (14 : Int32) from jne (b := 14) q (by omega) (by omega))]
      -- the reference's side
      have eT : C_X9_textAt (up R1 0 16 0) (nI tn) = some (nI (58 + 200 * tn)) := by
        unfold C_X9_textAt F_X9_textAt_0
        rw [show (200 : Int32) = nI 200 from rfl, show (58 : Int32) = nI 58 from rfl, pk_mul, jn_add]
      rw [gd_t, eT, bd_s, show nI (58 + 200 * tn) + 0 = nI (58 + 200 * tn) from jn_add _ 0, show nI (58 + 200 * tn) + 1 = nI (58 + 200 * tn + 1) from jn_add _ 1, show nI (58 + 200 * tn) + 2 = nI (58 + 200 * tn + 2) from jn_add _ 2, inb_t (by omega) (by omega), gd_t, tn_nI (by omega), nm_eq, inb_t (by omega) (by omega), gd_t, tn_nI (by omega), nm_eq, inb_t (by omega) (by omega), gd_t, tn_nI (by omega), nm_eq, gd_t, gd_t, nm_eq, gd_t]
      rw [u_ne (a := 0) (c := 1) (by decide), u_oth (i := 16) (j := 26) (by decide), u_ne (a := 0) (c := 1) (by decide), u_ne (a := 0) (c := 1) (by decide), u_oth (i := 16) (j := 24) (by decide), m2]
      have e1 : up (up (up (up R1 0 16 0) 1 (58 + 200 * tn) (nI key)) 1 (58 + 200 * tn + 1) (R1 0 26)) 1 (58 + 200 * tn + 2) (nI m) 1 1 = nI tn := by
        rw [u_oth (by omega), u_oth (by omega), u_oth (by omega)]
        exact r1
      rw [e1, show nI tn + 1 = nI (tn + 1) from jn_add tn 1, u_at, show nI (tn + 1) - 1 = nI tn from jn_sub (a := tn + 1) (b := 1) (by omega)]
      refine ⟨_, _, _, rfl, rfl, ?_⟩
      have r1f : ∀ j, j ≠ 1 → j ≠ 58 + 200 * tn → j ≠ 58 + 200 * tn + 1 → j ≠ 58 + 200 * tn + 2 → up (up (up (up (up R1 0 16 0) 1 (58 + 200 * tn) (nI key)) 1 (58 + 200 * tn + 1) (R1 0 26)) 1 (58 + 200 * tn + 2) (nI m)) 1 1 (nI (tn + 1)) 1 j = R1 1 j := by
        intro j y1 y2 y3 y4
        rw [u_oth y1, u_oth y4, u_oth y3, u_oth y2, u_ne (by decide)]
      have T0 : up (up (up (up (up R1 0 16 0) 1 (58 + 200 * tn) (nI key)) 1 (58 + 200 * tn + 1) (R1 0 26)) 1 (58 + 200 * tn + 2) (nI m)) 1 1 (nI (tn + 1)) 1 (58 + 200 * tn) = nI key := by
        rw [u_oth (by omega), u_oth (by omega), u_oth (by omega), u_at]
      have T1 : up (up (up (up (up R1 0 16 0) 1 (58 + 200 * tn) (nI key)) 1 (58 + 200 * tn + 1) (R1 0 26)) 1 (58 + 200 * tn + 2) (nI m)) 1 1 (nI (tn + 1)) 1 (58 + 200 * tn + 1) = R1 0 26 := by
        rw [u_oth (by omega), u_oth (by omega), u_at]
      have T2 : up (up (up (up (up R1 0 16 0) 1 (58 + 200 * tn) (nI key)) 1 (58 + 200 * tn + 1) (R1 0 26)) 1 (58 + 200 * tn + 2) (nI m)) 1 1 (nI (tn + 1)) 1 (58 + 200 * tn + 2) = nI m := by
        rw [u_oth (by omega), u_at]
      have T9 : up (up (up (up (up R1 0 16 0) 1 (58 + 200 * tn) (nI key)) 1 (58 + 200 * tn + 1) (R1 0 26)) 1 (58 + 200 * tn + 2) (nI m)) 1 1 (nI (tn + 1)) 1 1 = nI (tn + 1) := u_at
      have T16 : up (up (up (up (up R1 0 16 0) 1 (58 + 200 * tn) (nI key)) 1 (58 + 200 * tn + 1) (R1 0 26)) 1 (58 + 200 * tn + 2) (nI m)) 1 1 (nI (tn + 1)) 0 16 = nI 0 := by
        rw [u_ne (by decide), u_ne (by decide), u_ne (by decide), u_ne (by decide), u_at]
        rfl
      have Tx : ∀ a j, a ≠ 1 → ¬ (a = 0 ∧ j = 16) → up (up (up (up (up R1 0 16 0) 1 (58 + 200 * tn) (nI key)) 1 (58 + 200 * tn + 1) (R1 0 26)) 1 (58 + 200 * tn + 2) (nI m)) 1 1 (nI (tn + 1)) a j = R1 a j := by
        intro a j y1 y2
        rw [u_ne y1, u_ne y1, u_ne y1, u_ne y1, u_if, if_neg y2]
      generalize up (up (up (up (up R1 0 16 0) 1 (58 + 200 * tn) (nI key)) 1 (58 + 200 * tn + 1) (R1 0 26)) 1 (58 + 200 * tn + 2) (nI m)) 1 1 (nI (tn + 1)) = RZ at r1f T0 T1 T2 T9 T16 Tx ⊢
      have k1f : ∀ a j, ¬ (a = 46 ∧ j = 1) → ¬ ((a = 3 ∨ a = 4 ∨ a = 5) ∧ j = tn) → a ≠ 6 + tn → ¬ (a = 27 ∧ j = key) → ¬ (a = 21 ∧ j = 13) → up (up K2 (21 + 6) key (nI tn)) 21 13 (nI (tn + 1)) a j = K1 a j := by
        intro a j y1 y2 y3 y4 y5
        rw [u_if, if_neg y5, u_if, if_neg (by omega)]
        exact s2 a j y1 y2 y3
      have k13z : up (up K2 (21 + 6) key (nI tn)) 21 13 (nI (tn + 1)) 21 13 = nI (tn + 1) := u_at
      have k27z : up (up K2 (21 + 6) key (nI tn)) 21 13 (nI (tn + 1)) (21 + 6) key = nI tn := by
        rw [u_ne (by decide), u_at]
      have kz : ∀ a j, a < 21 → up (up K2 (21 + 6) key (nI tn)) 21 13 (nI (tn + 1)) a j = K2 a j := by
        intro a j y1
        rw [u_ne (by omega), u_ne (by omega)]
      have k46z : up (up K2 (21 + 6) key (nI tn)) 21 13 (nI (tn + 1)) 46 1 = nI 0 := by
        rw [u_ne (by decide), u_ne (by decide)]
        exact s3
      generalize up (up K2 (21 + 6) key (nI tn)) 21 13 (nI (tn + 1)) = KZ at k1f k13z k27z kz k46z ⊢
      have hK : ∀ a j, ¬ (a = 46 ∧ j = 1) → a ≠ 48 → a ≠ 49 → ¬ ((a = 3 ∨ a = 4 ∨ a = 5) ∧ j = tn) → a ≠ 6 + tn → ¬ (a = 27 ∧ j = key) → ¬ (a = 21 ∧ j = 13) → KZ a j = K a j := fun a j y1 y2 y3 y4 y5 y6 y7 => (k1f a j y1 y4 y5 y6 y7).trans (f1 a j y2 y3)
      have hR : ∀ a j, ¬ (a = 1 ∧ 58 + 200 * tn ≤ j) → ¬ (a = 1 ∧ j = 1) → ¬ (a = 0 ∧ 16 ≤ j ∧ j ≤ 26) → RZ a j = R a j := by
        intro a j y1 y2 y3
        by_cases a1 : a = 1
        · rw [a1, r1f j (by omega) (by omega) (by omega) (by omega)]
          exact f2 1 j (by omega) (by omega)
        · rw [Tx a j a1 (by omega)]
          exact f2 a j (by omega) (by omega)
      refine h.txt x2 x1 (fun a j y1 y2 y3 y4 y5 y6 y7 => hK a j y1 y2 y3 y4 (by omega) (by omega) y7) hR ?_ k46z T16 ⟨tn + 1, by omega, by omega, T9⟩
      refine ⟨tn + 1, by omega, T9, k13z, fun k hk3 => ?_, fun t ht => ?_⟩
      · show KZ (21 + 6) k = if RZ 1 (58 + 200 * tn) = nI k then nI tn else lastT (RZ 1) k tn
        rw [T0]
        by_cases ek : k = key
        · rw [ek, if_pos rfl]
          exact k27z
        · rw [if_neg (jne (fun x => ek x.symm) (by omega) (by omega)), hK (21 + 6) k (by omega) (by omega) (by omega) (by omega) (by omega) (by omega) (by omega), x4 k hk3]
          exact (lastT_ext tn (fun t ht => hR 1 _ (by omega) (by omega) (by omega))).symm
      · by_cases et : t = tn
        · subst et
          refine ⟨key, m, p, hk, g5, g4, m5, T0, ?_, ?_, ?_, ?_, fun i hi => ?_⟩
          · rw [kz 4 t (by omega)]
            exact s5
          · rw [kz 5 t (by omega), s6, m4, show 59 + 200 * t = 58 + 200 * t + 1 by omega, T1]
          · rw [show 60 + 200 * t = 58 + 200 * t + 2 by omega]
            exact T2
          · rw [kz 3 t (by omega)]
            exact s4
          · obtain ⟨n1, n2, n3⟩ := m6 i hi
            rw [rwG_eq, kz (6 + t) i (by omega), s7 i hi, r1f _ (by omega) (by omega) (by omega) (by omega), r1f _ (by omega) (by omega) (by omega) (by omega), show 63 + 200 * t + 2 * i = 62 + 200 * t + 2 * i + 1 by omega]
            exact ⟨n1, n2, n3⟩
        · obtain ⟨key2, m2', p2, e⟩ := x5 t (by omega)
          refine ⟨key2, m2', p2, e.mono3 (hK 3 t (by omega) (by omega) (by omega) (by omega) (by omega) (by omega) (by omega)) (hK 4 t (by omega) (by omega) (by omega) (by omega) (by omega) (by omega) (by omega)) (hK 5 t (by omega) (by omega) (by omega) (by omega) (by omega) (by omega) (by omega)) (fun i => hK (rwG t) i ?_ ?_ ?_ ?_ ?_ ?_ ?_) (fun i y1 y2 => hR 1 i (by omega) (by omega) (by omega))⟩ <;> rw [rwG_eq] <;> omega
