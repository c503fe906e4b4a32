/-! the texts of a town; what a knitter wears -/
def lastT (S : Nat → Int32) (k : Nat) : Nat → Int32
  | 0 => -1
  | t + 1 => if S (58 + 200 * t) = nI k then nI t else lastT S k t
def XT (K : Mem) (q : Nat) (S : Nat → Int32) : Prop := ∃ tn, tn ≤ 14 ∧ S 1 = nI tn ∧ K q 13 = nI tn ∧ (∀ k, k < 3 → K (q + 6) k = lastT S k tn) ∧ ∀ t, t < tn → ∃ key m p, TextP K S t key m p
theorem lastT_or (S : Nat → Int32) (k : Nat) : ∀ n, lastT S k n = -1 ∨ ∃ t, t < n ∧ lastT S k n = nI t ∧ S (58 + 200 * t) = nI k
  | 0 => Or.inl rfl
  | n + 1 => by
    unfold lastT
    by_cases e : S (58 + 200 * n) = nI k
    · rw [if_pos e]
      exact Or.inr ⟨n, by omega, rfl, e⟩
    · rw [if_neg e]
      rcases lastT_or S k n with h | ⟨t, h1, h2, h3⟩
      · exact Or.inl h
      · exact Or.inr ⟨t, by omega, h2, h3⟩
theorem lastT_ext {S S' : Nat → Int32} {k : Nat} : ∀ n, (∀ t, t < n → S' (58 + 200 * t) = S (58 + 200 * t)) → lastT S' k n = lastT S k n
  | 0, _ => rfl
  | n + 1, h => by
    unfold lastT
    rw [h n (by omega), lastT_ext n (fun t ht => h t (by omega))]
theorem TextP.mono {K K' : Mem} {S S' : Nat → Int32} {t key m : Nat} {p : Nat → Nat × Nat} (ht : t < 14) (h : TextP K S t key m p) (hK : ∀ a, 3 ≤ a → a < 20 → K' a = K a) (hS : ∀ i, 58 ≤ i → S' i = S i) : TextP K' S' t key m p := by
  obtain ⟨h1, h2, h3, h4, h5, h6, h7, h8, h9, h10⟩ := h
  refine ⟨h1, h2, h3, h4, ?_, ?_, ?_, ?_, ?_, fun i hi => ?_⟩
  · rw [hS _ (by omega)]
    exact h5
  · rw [hK 4 (by decide) (by decide)]
    exact h6
  · rw [hK 5 (by decide) (by decide), hS _ (by omega)]
    exact h7
  · rw [hS _ (by omega)]
    exact h8
  · rw [hK 3 (by decide) (by decide)]
    exact h9
  · rw [hS _ (by omega), hS _ (by omega), hK (rwG t) (by unfold rwG; omega) (by unfold rwG; omega)]
    exact h10 i hi
theorem XT.mono {K K' : Mem} {q q' : Nat} {S S' : Nat → Int32} (h : XT K q S) (h13 : K' q' 13 = K q 13) (h6 : ∀ k, k < 3 → K' (q' + 6) k = K (q + 6) k) (hK : ∀ a, 3 ≤ a → a < 20 → K' a = K a) (h1 : S' 1 = S 1) (hS : ∀ i, 58 ≤ i → S' i = S i) : XT K' q' S' := by
  obtain ⟨tn, a1, a2, a3, a4, a5⟩ := h
  refine ⟨tn, a1, h1.trans a2, h13.trans a3, fun k hk => ?_, fun t ht => ?_⟩
  · rw [h6 k hk, a4 k hk]
    exact (lastT_ext tn (fun t ht => hS _ (by omega))).symm
  · obtain ⟨key, m, p, e⟩ := a5 t ht
    exact ⟨key, m, p, e.mono (by omega) hK hS⟩
theorem XT.fr {K K' R R' : Mem} {q : Nat} (h : XT K q (R 1)) (hq : 21 ≤ q) (hK : FK q K K') (hR : FR R R') : XT K' q (R' 1) := h.mono hK.2 (fun k hk => by rw [hK.1 (q + 6) (by omega)]) (fun a h1 h2 => hK.1 a (by omega)) (hR.2 1 (Or.inl rfl)) (fun i hi => hR.2 i (Or.inr hi))
section WEARS
variable {K R : Mem} {q n : Nat}
theorem counts_loop {tn k : Nat} (h14 : tn ≤ 14) (h1 : R 1 1 = nI tn) : ∀ (r i : Nat), i + r = tn → ∀ f, r < f → L_X9_counts_4 R f (nI k) (lastT (R 1) k i) (nI i) = some (lastT (R 1) k tn)
  | 0, i, hi, f, hf => by
    obtain ⟨g, rfl⟩ : ∃ g, f = g + 1 := ⟨f - 1, by omega⟩
    obtain rfl : i = tn := by omega
    show F_X9_counts_4 _ R _ _ _ = _
    unfold F_X9_counts_4
    simp (disch := omega) only [nm_eq, gd_t, bd_s, bd2_s, lit, jn_add, pk_mul, inb_t, tn_nI, jn_lt, jn_le, jn_eq, h1, Nat.le_refl, if_true]
  | r + 1, i, hi, f, hf => by
    obtain ⟨g, rfl⟩ : ∃ g, f = g + 1 := ⟨f - 1, by omega⟩
    have ih := counts_loop (k := k) h14 h1 r (i + 1) (by omega) g (by omega)
    show F_X9_counts_4 _ R _ _ _ = _
    unfold F_X9_counts_4 C_X9_textAt F_X9_textAt_0
    have e0 : ¬ tn ≤ i := by omega
    simp (disch := omega) only [nm_eq, gd_t, bd_s, lit, jn_add, pk_mul, inb_t, tn_nI, jn_le, h1, e0, if_false]
    have el : lastT (R 1) k (i + 1) = if R 1 (58 + 200 * i) = nI k then nI i else lastT (R 1) k i := rfl
    rw [el] at ih
    by_cases e : R 1 (58 + 200 * i) = nI k
    · rw [if_pos e] at ih ⊢
      exact ih
    · rw [if_neg e] at ih ⊢
      exact ih
theorem e_counts {tn k : Nat} (h14 : tn ≤ 14) (h1 : R 1 1 = nI tn) : C_X9_counts R (nI k) = some (lastT (R 1) k tn) := by
  have hF := FU_big
  unfold C_X9_counts F_X9_counts_0
  exact counts_loop (i := 0) h14 h1 tn (by omega) FU (by omega)
theorem e_within (v : Int32) : ∃ w, w ≤ 99 ∧ C_X8_heldWithin v (nI 99) = some (nI w) ∧ C_X9_within v (nI 99) = some (nI w) := by
  unfold C_X8_heldWithin F_X8_heldWithin_0 C_X9_within F_X9_within_0 jmax jmin
  rcases ix_cases v (n := 100) (by omega) with (h | h) | ⟨j, hj, rfl⟩
  · refine ⟨0, by omega, ?_, ?_⟩
    · rw [if_pos (Int32.lt_trans h (by decide)), if_neg (Int32.not_lt.mpr (Int32.le_of_lt h))]
      rfl
    · rw [if_neg (Int32.not_le.mpr h)]
      rfl
  · have h2 : nI 99 < v := by
      refine Int32.lt_of_lt_of_le ?_ h
      decide
    refine ⟨99, by omega, ?_, ?_⟩
    · rw [if_neg (Int32.not_lt.mpr (Int32.le_of_lt h2))]
      rfl
    · rw [if_pos (Int32.le_of_lt (Int32.lt_trans (by decide) h2)), if_neg (Int32.not_le.mpr h2)]
  · refine ⟨j, by omega, ?_, ?_⟩
    · by_cases e : j < 99
      · rw [if_pos (jlt e (by omega))]
        by_cases e0 : 0 < j
        · rw [if_pos (show (0 : Int32) < nI j from jlt (a := 0) e0 (by omega))]
        · obtain rfl : j = 0 := by omega
          rfl
      · obtain rfl : j = 99 := by omega
        rfl
    · rw [if_pos (show (0 : Int32) ≤ nI j from jle (a := 0) (Nat.zero_le _) (by omega)), if_pos (jle (by omega) (by omega))]
def wearOf (k w : Nat) : Nat := if k = 1 ∨ k = 3 then w - 2 else if k = 2 then 2 * w else if k = 4 then 2 * w - 3 else if k = 5 then 1 else w
theorem e_kwears_ : ∀ k : Fin 6, ∀ w : Fin 100, C_X0_wears (nI k) (nI w) = some (nI (wearOf k w)) ∧ wearOf k w ≤ 198 := by decide +kernel
theorem e_kwears {k w : Nat} (hk : k < 6) (hw : w ≤ 99) : C_X0_wears (nI k) (nI w) = some (nI (wearOf k w)) ∧ wearOf k w ≤ 198 := e_kwears_ ⟨k, hk⟩ ⟨w, by omega⟩
theorem e_named {c L : Nat} (hc : c < 12) (hL : L < 128) : C_X5_named q K (nI L) (nI c) = some (if L = 103 then K (q + 2) c else if L = 109 then K q 10 else if L = 110 then K q 11 else if L = 114 then K q 9 else if L = 119 then K (q + 3) c else nI 0) := by
  unfold C_X5_named F_X5_named_0 F_X5_named_15
  have h12 : ¬ 12 ≤ c := by omega
  have n1 : ¬ (1 : Nat) = 0 := by decide
  simp (disch := omega) only [lit, jn_lt, jn_le, jn_eq, Nat.not_lt_zero, if_false, h12, n1, inb_t, gd_t, tn_nI]
  repeat (first | rfl | split)
/-- two memories that differ only where a text is worked out -/
def EK (K K' : Mem) : Prop := ∀ a, a ≠ 1 → a ≠ 20 → K' a = K a
def ER (R R' : Mem) : Prop := ∀ a, a ≠ 16 → a ≠ 17 → R' a = R a
theorem EK.fk {K K' : Mem} (h : EK K K') (hq : 21 ≤ q) : FK q K K' := ⟨fun c hc => h c (by omega) (by omega), by rw [h q (by omega) (by omega)]⟩
theorem ER.fr {R R' : Mem} (h : ER R R') : FR R R' := ⟨fun c hc => h c (by omega) (by omega), fun i _ => by rw [h 1 (by decide) (by decide)]⟩
theorem TS.ek {K' R' : Mem} (h : TS K q R n) (hq : 21 ≤ q) (hK : EK K K') (hR : ER R R') : TS K' q R' n := by
  refine ⟨?_, ?_⟩
  · rw [hR 1 (by decide) (by decide)]
    obtain ⟨h1, h2, h3, h4, h5, h6⟩ := h.1
    refine ⟨?_, ?_, ?_, ?_, ?_, ?_⟩
    · rw [hK _ (by omega) (by omega)]
      exact h1
    · rw [hK _ (by omega) (by omega)]
      exact h2
    · rw [hK _ (by omega) (by omega)]
      exact h3
    · rw [hK _ (by omega) (by omega)]
      exact h4
    · rw [hK _ (by omega) (by omega)]
      exact h5
    · rw [hK q (by omega) (by omega)]
      exact h6
  · rw [hR 1 (by decide) (by decide)]
    exact h.2
/-- a text of key 0 or 2, for a course -/
theorem b_textC (hq : 21 ≤ q) (h : TS K q R n) {t key m c : Nat} {p : Nat → Nat × Nat} (ht : t < 14) (hT : TextP K (R 1) t key m p) (hc : c < 12) (hkey : key = 0 ∨ key = 2) (hg : R 16 103 = R 1 (11 + 4 * c)) (hw : R 16 119 = R 1 (12 + 4 * c)) (hni : key = 0 → R 16 110 = R 1 2) : ∃ v K' R', C_X5_gives q (nI t) (nI c) K = some (v, K') ∧ C_X9_worked (nI t) R = some (v, R') ∧ EK K K' ∧ ER R R' := by
  have hn : ∀ L, names key L → ∀ K2 : Mem, (∀ a, a ≠ 1 → a ≠ 20 → K2 a = K a) → (∀ j, j ≠ 5 → K2 1 j = K 1 j) → C_X5_named q K2 (nI L) (nI c) = some (R 16 L) := by
    intro L hL K2 hK2 _
    have a2 : K2 (q + 2) = K (q + 2) := hK2 (q + 2) (by omega) (by omega)
    have a3 : K2 (q + 3) = K (q + 3) := hK2 (q + 3) (by omega) (by omega)
    have a0 : K2 q = K q := hK2 q (by omega) (by omega)
    rcases hL with ⟨rfl, -⟩ | ⟨rfl, -⟩ | ⟨rfl, h0⟩ | ⟨rfl, h0⟩ | ⟨rfl, h0⟩
    · rw [e_named hc (by omega), if_pos rfl, a2, h.1.ga hc, hg]
    · rw [e_named hc (by omega), if_neg (by decide), if_neg (by decide), if_neg (by decide), if_neg (by decide), if_pos rfl, a3, h.1.we hc, hw]
    · rw [e_named hc (by omega), if_neg (by decide), if_neg (by decide), if_pos rfl, a0, h.1.ni, hni h0]
    · omega
    · omega
  obtain ⟨v, K', R', e1, e2, e3, e4, e5⟩ := b_text (q := q) (c := c) (vv := fun L => R 16 L) ht hT hn (fun L _ => rfl)
  exact ⟨v, K', R', e1, e2, e3, fun a _ ha => e5 a ha⟩
theorem b_wears (hq : 21 ≤ q) (h : TS K q R n) (hX : XT K q (R 1)) {c : Nat} (hc : c < n) : ∃ w K' R', w ≤ 198 ∧ C_X6_wears q (nI c) K = some (nI w, K') ∧ C_X9_wears (nI c) R = some (nI w, R') ∧ EK K K' ∧ ER R R' := by
  have h12 := h.2.n12
  obtain ⟨tn, x1, x2, x3, x4, x5⟩ := hX
  obtain ⟨k1, k2⟩ := h.2.kf hc
  -- the plain wear on both sides
  have plain : ∃ w0 K' R', w0 ≤ 99 ∧ C_X6_wears q (nI c) K = some (nI (wearOf (kf (R 1) c) w0), K') ∧ C_X9_plain (nI c) R = some (nI w0, R') ∧ EK K K' ∧ ER R R' := by
    have ecnt := e_counts (k := 0) x1 x2
    rcases lastT_or (R 1) 0 tn with e | ⟨t, t1, t2, t3⟩
    · refine ⟨6, K, R, by omega, ?_, ?_, fun _ _ _ => rfl, fun _ _ _ => rfl⟩
      · unfold C_X6_wears F_X6_wears_0
        rw [show inb 0 3 = true from by decide, gd_t, nm_eq, show Int32.toNatClampNeg 0 = 0 from by decide, x4 0 (by omega), e, if_neg (by decide), inb_t (by omega) (by omega), gd_t, tn_nI (by omega), h.1.kd (by omega), k2, show (6 : Int32) = nI 6 from rfl, (e_kwears k1 (by omega)).1, bd_s]
      · unfold C_X9_plain F_X9_plain_0
        rw [show (0 : Int32) = nI 0 from rfl, ecnt, e, bd_s, if_neg (by decide)]
        rfl
    · obtain ⟨key, m, p, hT⟩ := x5 t t1
      have hkey : key = 0 := by
        have := hT.2.2.2.2.1.symm.trans t3
        rw [jn_eq (by have := hT.1; omega) (by omega)] at this
        exact this
      subst hkey
      let R3 : Mem := up (up (up R 16 103 (R 1 (11 + 4 * c))) 16 119 (R 1 (12 + 4 * c))) 16 110 (R 1 2)
      have r1 : R3 1 = R 1 := rfl
      have hT3 : TextP K (R3 1) t 0 m p := hT
      have h3 : TS K q R3 n := h
      obtain ⟨v, K', R', g1, g2, g3, g4⟩ := b_textC hq h3 (c := c) (by omega) hT3 (by omega) (Or.inl rfl) rfl rfl (fun _ => rfl)
      obtain ⟨w0, w1, w2, w3⟩ := e_within v
      refine ⟨w0, K', R', w1, ?_, ?_, g3, fun a h1 h2 => (g4 a h1 h2).trans ?_⟩
      · unfold C_X6_wears F_X6_wears_0
        rw [show inb 0 3 = true from by decide, gd_t, nm_eq, show Int32.toNatClampNeg 0 = 0 from by decide, x4 0 (by omega), t2, if_pos (show (0 : Int32) ≤ nI t from jle (a := 0) (Nat.zero_le _) (by omega)), g1, bd2_s, show (99 : Int32) = nI 99 from rfl, w2, bd_s, inb_t (by omega) (by omega), gd_t, tn_nI (by omega), g3 _ (by omega) (by omega), h.1.kd (by omega), k2, (e_kwears k1 w1).1, bd_s]
      · unfold C_X9_plain F_X9_plain_0
        rw [show (0 : Int32) = nI 0 from rfl, show (1 : Int32) = nI 1 from rfl, show (2 : Int32) = nI 2 from rfl, ecnt, t2, bd_s, if_pos (jle (Nat.zero_le _) (by omega)), e_of (by omega), bd_s, show inb 103 128 = true from by decide, gd_t, nm_eq, e_of (by omega), bd_s, show inb 119 128 = true from by decide, gd_t, nm_eq, show inb (nI 2) 3058 = true from by decide, gd_t, show inb 110 128 = true from by decide, gd_t, nm_eq]
        have e3 : ∀ f : Int32 → Mem → Option (Int32 × Mem), bd2 (C_X9_worked (nI t) R3) f = f v R' := fun f => by rw [g2, bd2_s]
        rw [show Int32.toNatClampNeg 103 = 103 from by decide, show Int32.toNatClampNeg 119 = 119 from by decide, show Int32.toNatClampNeg 110 = 110 from by decide, show Int32.toNatClampNeg (nI 2) = 2 from by decide, show 10 + 4 * c + 1 = 11 + 4 * c by omega, show 10 + 4 * c + 2 = 12 + 4 * c by omega]
        refine (e3 _).trans ?_
        show bd (C_X9_within v (nI 99)) _ = _
        rw [w3, bd_s]
      · show R3 a = R a
        show up (up (up R 16 _ _) 16 _ _) 16 _ _ a = R a
        rw [u_ne h1, u_ne h1, u_ne h1]
  obtain ⟨w0, K', R', p1, p2, p3, p4, p5⟩ := plain
  refine ⟨wearOf (kf (R 1) c) w0, K', R', (e_kwears k1 p1).2, p2, ?_, p4, p5⟩
  unfold C_X9_wears F_X9_wears_0
  rw [p3, bd2_s, show (0 : Int32) = nI 0 from rfl, e_of (by omega), bd_s, Nat.add_zero, p5 1 (by decide) (by decide), k2]
  have e1 : ∀ a b : Nat, b ≤ a → nI a - nI b = nI (a - b) := fun a b h => jn_sub h
  unfold wearOf
  obtain e | e | e | e | e | e : kf (R 1) c = 0 ∨ kf (R 1) c = 1 ∨ kf (R 1) c = 2 ∨ kf (R 1) c = 3 ∨ kf (R 1) c = 4 ∨ kf (R 1) c = 5 := by omega
  all_goals rw [e]
  · rfl
  · by_cases q2 : w0 ≤ 2
    · have q3 : w0 - 2 = 0 := by omega
      simp (disch := omega) only [lit, jn_eq, jn_le, q2, q3, Nat.reduceEqDiff, if_true, if_false, true_or, or_true, or_false]
    · simp (disch := omega) only [lit, jn_eq, jn_le, q2, e1, Nat.reduceEqDiff, if_true, if_false, true_or, or_true, or_false]
  · simp (disch := omega) only [lit, jn_eq, pk_mul, Nat.reduceEqDiff, if_true, if_false, true_or, or_true, or_false]
  · by_cases q2 : w0 ≤ 2
    · have q3 : w0 - 2 = 0 := by omega
      simp (disch := omega) only [lit, jn_eq, jn_le, q2, q3, Nat.reduceEqDiff, if_true, if_false, true_or, or_true, or_false]
    · simp (disch := omega) only [lit, jn_eq, jn_le, q2, e1, Nat.reduceEqDiff, if_true, if_false, true_or, or_true, or_false]
  · by_cases q2 : 2 * w0 ≤ 3
    · have q3 : 2 * w0 - 3 = 0 := by omega
      simp (disch := omega) only [lit, jn_eq, jn_le, pk_mul, q2, q3, Nat.reduceEqDiff, if_true, if_false, true_or, or_true, or_false]
    · simp (disch := omega) only [lit, jn_eq, jn_le, pk_mul, q2, e1, Nat.reduceEqDiff, if_true, if_false, true_or, or_true, or_false]
  · simp (disch := omega) only [lit, jn_eq, Nat.reduceEqDiff, if_true, if_false, true_or, or_true, or_false]
end WEARS
