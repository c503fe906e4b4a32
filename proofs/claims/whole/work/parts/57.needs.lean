/-! what a loop needs -/
def und (k m : Nat) : Nat := Int32.toNatClampNeg ((C_X0_under (nI k) (nI m)).getD 0)
theorem e_und_ : ∀ k : Fin 6, ∀ m : Fin 256, C_X0_under (nI k) (nI m) = some (nI (und k m)) ∧ und k m < 256 := by decide +kernel
theorem und_step_ : ∀ k : Fin 6, ∀ m : Fin 256, ∀ c : Fin 8, und k (m.val % 2 ^ (c.val + 1)) = und k (m.val % 2 ^ c.val) ||| (if m.val.testBit c then hang k c else 0) := by decide +kernel
theorem und_zero_ : ∀ k : Fin 6, und k 0 = 0 := by decide +kernel
theorem e_und {k m : Nat} (hk : k < 6) (hm : m < 256) : C_X0_under (nI k) (nI m) = some (nI (und k m)) := (e_und_ ⟨k, hk⟩ ⟨m, hm⟩).1
theorem und_lt {k m : Nat} (hk : k < 6) (hm : m < 256) : und k m < 256 := (e_und_ ⟨k, hk⟩ ⟨m, hm⟩).2
theorem und_step {k m c : Nat} (hk : k < 6) (hm : m < 256) (hc : c < 8) : und k (m % 2 ^ (c + 1)) = und k (m % 2 ^ c) ||| (if m.testBit c then hang k c else 0) := und_step_ ⟨k, hk⟩ ⟨m, hm⟩ ⟨c, hc⟩
theorem und_zero {k : Nat} (hk : k < 6) : und k 0 = 0 := und_zero_ ⟨k, hk⟩
section NEEDS
variable {K R : Mem} {n : Nat}
theorem needs_row {k25 : Int32 → Int32 → Int32 → Option Int32} {a m i : Nat} (h : Inv (R 1) n) (hi : i < n) (hm : m < 256) : ∀ (r c : Nat), c + r = 8 → ∀ f, r < f → L_X9_needs_52 k25 R f (nI a) (nI m) (nI i) (nI (und (kf (R 1) i) (m % 2 ^ c))) (nI c) = k25 (nI a) (nI (und (kf (R 1) i) m)) (nI i + -1)
  | 0, c, hc, f, hf => by
    obtain ⟨g, rfl⟩ : ∃ g, f = g + 1 := ⟨f - 1, by omega⟩
    obtain rfl : c = 8 := by omega
    rw [Nat.mod_eq_of_lt (show m < 2 ^ 8 from hm)]
    show F_X9_needs_52 _ _ _ _ _ _ _ _ = _
    unfold F_X9_needs_52
    rw [if_pos (show (8 : Int32) ≤ nI 8 from by decide), nm_eq]
  | r + 1, c, hc, f, hf => by
    obtain ⟨g, rfl⟩ : ∃ g, f = g + 1 := ⟨f - 1, by omega⟩
    have h12 := h.n12
    obtain ⟨k1, k2⟩ := h.kf hi
    have ih := needs_row (k25 := k25) (a := a) h hi hm r (c + 1) (by omega) g (by omega)
    rw [und_step k1 hm (by omega)] at ih
    refine (if_neg (jnle (a := 8) (by omega) (by omega))).trans ?_
    rw [e_among hm (by omega), bd_s]
    cases hb : m.testBit c
    · rw [hb, if_neg Bool.false_ne_true] at ih
      rw [if_neg Bool.false_ne_true, if_pos z00, nm_eq, nm_eq, show (0 : Int32) = nI 0 from rfl, j_or, show (1 : Int32) = nI 1 from rfl, jn_add]
      exact ih
    · rw [hb, if_pos rfl] at ih
      rw [if_pos rfl, if_neg n10, e_hangs (by omega) k2 k1 (by omega), bd_s, nm_eq, nm_eq, j_or, show (1 : Int32) = nI 1 from rfl, jn_add]
      exact ih
theorem needs_loop (h : TS K 21 R n) : ∀ (i : Nat), i ≤ n → ∀ (a m : Nat), m < 256 → ∀ f1 f2, i < f1 → i < f2 → ∃ v, L_X6_lostBelow_10 21 K f1 (nI m) (nI a) (nI i - 1) = some v ∧ L_X9_needs_25 R f2 (nI a) (nI m) (nI i - 1) = some v
  | 0, hi, a, m, hm, f1, f2, hf1, hf2 => by
    obtain ⟨g1, rfl⟩ : ∃ g, f1 = g + 1 := ⟨f1 - 1, by omega⟩
    obtain ⟨g2, rfl⟩ : ∃ g, f2 = g + 1 := ⟨f2 - 1, by omega⟩
    refine ⟨nI a, ?_, ?_⟩
    · show F_X6_lostBelow_10 _ _ _ _ _ _ = _
      unfold F_X6_lostBelow_10
      rw [if_pos (show nI 0 - 1 < 0 from by decide)]
    · show F_X9_needs_25 _ _ _ _ _ = _
      unfold F_X9_needs_25
      rw [if_pos (show nI 0 - 1 < 0 from by decide)]
  | i + 1, hi, a, m, hm, f1, f2, hf1, hf2 => by
    obtain ⟨g1, rfl⟩ : ∃ g, f1 = g + 1 := ⟨f1 - 1, by omega⟩
    obtain ⟨g2, rfl⟩ : ∃ g, f2 = g + 1 := ⟨f2 - 1, by omega⟩
    have hF := FU_big
    have h12 := h.2.n12
    obtain ⟨k1, k2⟩ := h.2.kf (c := i) (by omega)
    obtain ⟨l1, l2⟩ := h.2.lf (c := i) (by omega)
    have ei : nI (i + 1) - 1 = nI i := jn_sub (a := i + 1) (b := 1) (by omega)
    have em : nI i - 1 = nI i + -1 := Int32.sub_eq_add_neg _ _
    have eL : K (21 + 4) i = nI (lf (R 1) i) := (h.1.lo (by omega)).trans l2
    have eK : K (21 + 1) i = nI (kf (R 1) i) := (h.1.kd (by omega)).trans k2
    have hng : ¬ nI i < (0 : Int32) := jnlt (b := 0) (by omega) (by omega)
    have hal : m &&& lf (R 1) i < 256 := Nat.and_lt_two_pow (n := 8) _ l1
    have o : C_X9_of R (nI i) (nI 3) = some (nI (lf (R 1) i)) := by rw [e_of (by omega), show 10 + 4 * i + 3 = 13 + 4 * i by omega, l2]
    have row := needs_row (k25 := fun a3 a4 a5 => L_X9_needs_25 R g2 a3 a4 a5) (a := a + pc (m &&& lf (R 1) i)) h.2 (i := i) (by omega) hm 8 0 (by omega) FU (by omega)
    rw [show m % 2 ^ 0 = 0 from Nat.mod_one _, und_zero k1] at row
    obtain ⟨v, v1, v2⟩ := needs_loop h i (by omega) (a + pc (m &&& lf (R 1) i)) (und (kf (R 1) i) m) (und_lt k1 hm) g1 g2 (by omega) (by omega)
    refine ⟨v, ?_, ?_⟩
    · rw [ei]
      refine (if_neg hng).trans ?_
      rw [inb_t (by omega) (by omega), gd_t, tn_nI (by omega), eL, j_and, e_bitCount hal, bd_s, nm_eq, jn_add, gd_t, eK, e_und k1 hm, bd_s, nm_eq, ← em]
      exact v1
    · rw [ei]
      refine (if_neg hng).trans ?_
      rw [show (3 : Int32) = nI 3 from rfl, o, bd_s, j_and, e_bits hal, bd_s, nm_eq, jn_add]
      refine row.trans ?_
      rw [← em]
      exact v2
end NEEDS
theorem s_needs : Sim2 Rel A8_needs A9_needs := by
  intro a b K R h
  have hF := FU_big
  obtain ⟨n, ht⟩ := h.now
  have h12 := ht.2.n12
  unfold A8_needs A9_needs C_X8_needs F_X8_needs_0 C_X9_needs F_X9_needs_0 C_X6_lostBelow F_X6_lostBelow_0
  rcases loop_e ht a b with ⟨i, c, hi, hc, rfl, rfl, e1, e2, e3⟩ | ⟨e1, x, e2, e3⟩
  · obtain ⟨v, v1, v2⟩ := needs_loop ht (i + 1) (by omega) 0 (2 ^ c) (two_pow_lt hc) FU FU (by omega) (by omega)
    have ei : nI (i + 1) - 1 = nI i := jn_sub (a := i + 1) (b := 1) (by omega)
    rw [ei] at v1 v2
    simp (disch := omega) only [nm_eq, gd_t, bd_s, bd2_s, lit, jn_add, pk_mul, inb_t, tn_nI, jn_lt, jn_le, jn_eq, Nat.reduceEqDiff, Nat.reduceLT, Nat.reduceLeDiff, Nat.not_lt_zero, Nat.zero_le, Nat.one_ne_zero, if_true, if_false, e1, e2, e3, e_shl1 hc, v1, v2, Option.map_some]
    exact ⟨_, _, _, rfl, rfl, h⟩
  · rw [e1, e2, bd_s, bd_s, e3, bd_s, if_pos z00, if_pos z00]
    exact ⟨_, _, _, rfl, rfl, h⟩
