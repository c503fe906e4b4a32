/-! the worst loop -/
def sub (a b : Nat) : Prop := ∀ j, a.testBit j = true → b.testBit j = true
theorem nI_zero {a : Nat} (ha : a < 2147483648) : (nI a = 0) ↔ a = 0 := by
  have := jn_eq (a := a) (b := 0) ha (by omega)
  exact ⟨fun h => this.mp h, fun h => this.mpr h⟩
theorem bo_mono {k s t : Nat} (hk : k < 6) (hs : s < 256) (ht : t < 256) (h : sub s t) : sub (bo k s) (bo k t) := by
  intro j hj
  by_cases h8 : j < 8
  · rw [bo_bit hk hs h8, decide_eq_true_eq, j_andn (by have := hang_lt hk h8; omega), nI_zero (by have := andn_lt (n := 8) (b := s) (hang_lt hk h8); omega)] at hj
    rw [bo_bit hk ht h8, decide_eq_true_eq, j_andn (by have := hang_lt hk h8; omega), nI_zero (by have := andn_lt (n := 8) (b := t) (hang_lt hk h8); omega)]
    apply Nat.eq_of_testBit_eq
    intro i
    have hi : (andn (hang k j) s).testBit i = false := by rw [hj, Nat.zero_testBit]
    rw [andn_bit] at hi ⊢
    rw [Nat.zero_testBit]
    cases e1 : (hang k j).testBit i
    · rfl
    · rw [e1] at hi
      cases e2 : s.testBit i
      · rw [e2] at hi
        cases hi
      · rw [h i e2]
        rfl
  · rw [bit_hi (n := 8) (bo_lt hk hs) (by omega)] at hj
    cases hj
theorem bit_mod (a j : Nat) : a / 2 ^ j % 2 = if a.testBit j then 1 else 0 := by
  rw [Nat.testBit_eq_decide_div_mod_eq]
  by_cases h : a / 2 ^ j % 2 = 1
  · rw [h]
    rfl
  · have : a / 2 ^ j % 2 = 0 := by omega
    rw [this]
    rfl
theorem pc_mono {a b : Nat} (h : sub a b) : pc a ≤ pc b := by
  have key : ∀ j, a / 2 ^ j % 2 ≤ b / 2 ^ j % 2 := by
    intro j
    rw [bit_mod, bit_mod]
    cases e : a.testBit j
    · exact Nat.zero_le _
    · rw [h j e]
      exact Nat.le_refl _
  have h0 := key 0
  have h1 := key 1
  have h2 := key 2
  have h3 := key 3
  have h4 := key 4
  have h5 := key 5
  have h6 := key 6
  have h7 := key 7
  unfold pc
  simp only [Nat.reducePow, Nat.div_one] at h0 h1 h2 h3 h4 h5 h6 h7
  omega
theorem tot_mono {k l : Nat → Nat} {n a m : Nat} (hk : ∀ i, i < n → k i < 6) : ∀ i, i ≤ n → sub (hs k (lfw l a m) i) (hs k l i) ∧ tot k (lfw l a m) i ≤ tot k l i
  | 0, _ => ⟨fun j h => h, Nat.le_refl _⟩
  | i + 1, hi => by
    obtain ⟨e1, e2⟩ := tot_mono (l := l) (a := a) (m := m) hk i (by omega)
    have h1 := hs_lt (l := lfw l a m) hk i (by omega)
    have h2 := hs_lt (l := l) hk i (by omega)
    have e3 : sub (hs k (lfw l a m) (i + 1)) (hs k l (i + 1)) := by
      intro j hj
      have hb := bo_mono (hk i (by omega)) h1 h2 e1 j
      show (andn (bo (k i) (hs k l i)) (l i)).testBit j = true
      have hj' : (andn (bo (k i) (hs k (lfw l a m) i)) (lfw l a m i)).testBit j = true := hj
      rw [andn_bit, Bool.and_eq_true] at hj' ⊢
      refine ⟨hb hj'.1, ?_⟩
      have h3 := hj'.2
      unfold lfw at h3
      by_cases e : i = a
      · rw [if_pos e, Nat.testBit_or] at h3
        cases e4 : (l i).testBit j
        · rfl
        · rw [e4] at h3
          exact h3
      · rw [if_neg e] at h3
        exact h3
    refine ⟨e3, ?_⟩
    have := pc_mono e3
    show tot k (lfw l a m) i + pc _ ≤ tot k l i + pc _
    omega
def WSt (n p : Nat) (a3 a4 a5 idx best : Int32) : Prop := a5 = best ∧ ((p = 0 ∧ best = -1 ∧ idx = -1) ∨ ∃ j b, j < 8 * n ∧ b ≤ 96 ∧ a3 = nI (j / 8) ∧ a4 = nI (j % 8) ∧ best = nI b ∧ idx = nI j)
theorem worst_end {K R : Mem} {n : Nat} (h : TS K 21 R n) {a p : Nat} {a3 a4 a5 idx best : Int32} (hn : 0 < n) (hp : p = 8 * n) (hw : WSt n p a3 a4 a5 idx best) (ha : a ≤ 2) (g1 g2 : Nat) : ∃ v, L_X8_worst_44 K (g1 + 1) (nI a) (nI (tot (kf (R 1)) (lf (R 1)) n)) a3 a4 a5 (nI n) = some v ∧ L_X9_worst_22 (g2 + 1) (nI a) idx best (nI p) R = some (v, R) := by
  have h12 := h.2.n12
  obtain ⟨e5, hw⟩ := hw
  rcases hw with ⟨e, -⟩ | ⟨j, b, hj, hb, e3, e4, eb, ei⟩
  · omega
  · subst e5 e3 e4 ei hp
    have d1 : nI j / 8 = nI (j / 8) := pk_div (d := 8) (by omega) (by omega) (by omega)
    have d2 : jrem (nI j) 8 = nI (j % 8) := jrem_nat (d := 8) (by omega) (by omega) (by omega)
    have hge : (0 : Int32) ≤ nI j := jle (a := 0) (Nat.zero_le _) (by omega)
    have hle : nI n ≤ nI n := jle (Nat.le_refl _) (by omega)
    have h8 : (8 : Int32) * nI n ≤ nI (8 * n) := by
      rw [show (8 : Int32) = nI 8 from rfl, pk_mul]
      exact jle (Nat.le_refl _) (by omega)
    have c1 : ∀ x, (if nI a = 0 then some (nI (j / 8)) else if nI a = 1 then some (nI (j % 8)) else some a5) = some x → L_X8_worst_44 K (g1 + 1) (nI a) (nI (tot (kf (R 1)) (lf (R 1)) n)) (nI (j / 8)) (nI (j % 8)) a5 (nI n) = some x := by
      intro x hx
      show F_X8_worst_44 _ _ _ _ _ _ _ _ = _
      unfold F_X8_worst_44
      rw [h.1.nn, h.2.s0, if_pos hle]
      exact hx
    have c2 : ∀ x, (if nI a = 0 then some (nI (j / 8), R) else if nI a = 1 then some (nI (j % 8), R) else some (a5, R)) = some (x, R) → L_X9_worst_22 (g2 + 1) (nI a) (nI j) a5 (nI (8 * n)) R = some (x, R) := by
      intro x hx
      show F_X9_worst_22 _ _ _ _ _ _ = _
      unfold F_X9_worst_22
      rw [show inb 0 3058 = true from by decide, gd_t, show Int32.toNatClampNeg 0 = 0 from by decide, h.2.s0, if_pos h8, if_pos hge, d1, d2]
      exact hx
    by_cases q0 : nI a = 0
    · exact ⟨_, c1 (nI (j / 8)) (by rw [if_pos q0]), c2 (nI (j / 8)) (by rw [if_pos q0])⟩
    · by_cases q1 : nI a = 1
      · exact ⟨_, c1 (nI (j % 8)) (by rw [if_neg q0, if_pos q1]), c2 (nI (j % 8)) (by rw [if_neg q0, if_pos q1])⟩
      · exact ⟨_, c1 a5 (by rw [if_neg q0, if_neg q1]), c2 a5 (by rw [if_neg q0, if_neg q1])⟩
theorem worst_loop {K : Mem} {n a : Nat} (ha : a ≤ 2) : ∀ (r i c : Nat) (R : Mem) (a3 a4 a5 idx best : Int32), TS K 21 R n → c < 8 → i < n → 8 * i + c + r = 8 * n → WSt n (8 * i + c) a3 a4 a5 idx best → ∀ g1 f g2, n - i < g1 → 8 - c < f → r < g2 → ∃ v R', L_X8_worst_59 (fun a1 a2 a3 a4 a5 a6 => L_X8_worst_44 K g1 a1 a2 a3 a4 a5 a6) K f (nI a) (nI (tot (kf (R 1)) (lf (R 1)) n)) a3 a4 a5 (nI i) (nI c) = some v ∧ L_X9_worst_22 g2 (nI a) idx best (nI (8 * i + c)) R = some (v, R') ∧ ∀ a, a ≠ 12 → R' a = R a
  | 0, i, c, R, a3, a4, a5, idx, best, h, hc, hi, hr, hw, g1, f, g2, hg1, hf, hg2 => by omega
  | r + 1, i, c, R, a3, a4, a5, idx, best, h, hc, hi, hr, hw, g1, f, g2, hg1, hf, hg2 => by
    obtain ⟨f, rfl⟩ : ∃ f', f = f' + 1 := ⟨f - 1, by omega⟩
    obtain ⟨g2, rfl⟩ : ∃ f', g2 = f' + 1 := ⟨g2 - 1, by omega⟩
    have h12 := h.2.n12
    have hF := FU_big
    obtain ⟨R1, r1, hr1⟩ := e_pulledWith h.2 hi hc
    have ew := e_without h (a := i) (m := 2 ^ c) (by omega) (two_pow_lt hc)
    have htm := (tot_mono (k := kf (R 1)) (l := lf (R 1)) (n := n) (a := i) (m := 2 ^ c) (fun i hi => (h.2.kf hi).1) n (Nat.le_refl _)).2
    have htl := tot_le (k := kf (R 1)) (l := lf (R 1)) n
    have e11 : R1 1 = R 1 := hr1 1 (by decide)
    have h1 : TS K 21 R1 n := ⟨by rw [e11]; exact h.1, by rw [e11]; exact h.2⟩
    rw [jn_sub htm] at r1
    generalize hd : tot (kf (R 1)) (lf (R 1)) n - tot (kf (R 1)) (lfw (lf (R 1)) i (2 ^ c)) n = d at r1
    have hd96 : d ≤ 96 := by omega
    have hcls : ∀ X, (if nI d ≤ a5 then L_X8_worst_59 (fun a1 a2 a3 a4 a5 a6 => L_X8_worst_44 K g1 a1 a2 a3 a4 a5 a6) K f (nI a) (nI (tot (kf (R 1)) (lf (R 1)) n)) a3 a4 a5 (nI i) (nI (c + 1)) else L_X8_worst_59 (fun a1 a2 a3 a4 a5 a6 => L_X8_worst_44 K g1 a1 a2 a3 a4 a5 a6) K f (nI a) (nI (tot (kf (R 1)) (lf (R 1)) n)) (nI i) (nI c) (nI d) (nI i) (nI (c + 1))) = X → L_X8_worst_59 (fun a1 a2 a3 a4 a5 a6 => L_X8_worst_44 K g1 a1 a2 a3 a4 a5 a6) K (f + 1) (nI a) (nI (tot (kf (R 1)) (lf (R 1)) n)) a3 a4 a5 (nI i) (nI c) = X := by
      intro X hx
      show F_X8_worst_59 _ _ _ _ _ _ _ _ _ _ = _
      unfold F_X8_worst_59
      rw [if_neg (show ¬ (8 : Int32) ≤ nI c from jnle (a := 8) (by omega) (by omega)), show (1 : Int32) = nI 1 from rfl, e_shl1 hc, ew, bd_s, jn_sub htm, hd]
      simp only [nm_eq, jn_add]
      exact hx
    have hp1 : nI (8 * i + c) / 8 = nI i := by
      rw [show (8 : Int32) = nI 8 from rfl, pk_div (by omega) (by omega) (by omega)]
      congr 1
      omega
    have hp2 : jrem (nI (8 * i + c)) 8 = nI c := by
      rw [show (8 : Int32) = nI 8 from rfl, jrem_nat (by omega) (by omega) (by omega)]
      congr 1
      omega
    have href : ∀ X, (if nI d ≤ best then L_X9_worst_22 g2 (nI a) idx best (nI (8 * i + c + 1)) R1 else L_X9_worst_22 g2 (nI a) (nI (8 * i + c)) (nI d) (nI (8 * i + c + 1)) R1) = X → L_X9_worst_22 (g2 + 1) (nI a) idx best (nI (8 * i + c)) R = X := by
      intro X hx
      have h8 : ¬ (8 : Int32) * nI n ≤ nI (8 * i + c) := by
        rw [show (8 : Int32) = nI 8 from rfl, pk_mul]
        exact jnle (by omega) (by omega)
      show F_X9_worst_22 _ _ _ _ _ _ = _
      unfold F_X9_worst_22 F_X9_worst_64
      rw [show inb 0 3058 = true from by decide, gd_t, show Int32.toNatClampNeg 0 = 0 from by decide, h.2.s0, if_neg h8, hp1, hp2, r1, bd2_s]
      by_cases q : nI d ≤ best
      · rw [if_pos q] at hx ⊢
        rw [if_pos q, nm_eq, show (1 : Int32) = nI 1 from rfl, jn_add]
        exact hx
      · rw [if_neg q] at hx ⊢
        rw [if_neg q, nm_eq, show (1 : Int32) = nI 1 from rfl, jn_add]
        exact hx
    obtain ⟨e5, hw'⟩ := hw
    subst e5
    -- the next state
    have next : ∀ (b3 b4 b5 jdx jest : Int32), WSt n (8 * i + c + 1) b3 b4 b5 jdx jest → ∃ v R', L_X8_worst_59 (fun a1 a2 a3 a4 a5 a6 => L_X8_worst_44 K g1 a1 a2 a3 a4 a5 a6) K f (nI a) (nI (tot (kf (R 1)) (lf (R 1)) n)) b3 b4 b5 (nI i) (nI (c + 1)) = some v ∧ L_X9_worst_22 g2 (nI a) jdx jest (nI (8 * i + c + 1)) R1 = some (v, R') ∧ ∀ a, a ≠ 12 → R' a = R1 a := by
      intro b3 b4 b5 jdx jest hs
      by_cases q8 : c + 1 = 8
      · obtain ⟨f, rfl⟩ : ∃ f', f = f' + 1 := ⟨f - 1, by omega⟩
        obtain ⟨g1, rfl⟩ : ∃ f', g1 = f' + 1 := ⟨g1 - 1, by omega⟩
        have e59 : L_X8_worst_59 (fun a1 a2 a3 a4 a5 a6 => L_X8_worst_44 K (g1 + 1) a1 a2 a3 a4 a5 a6) K (f + 1) (nI a) (nI (tot (kf (R 1)) (lf (R 1)) n)) b3 b4 b5 (nI i) (nI (c + 1)) = L_X8_worst_44 K (g1 + 1) (nI a) (nI (tot (kf (R 1)) (lf (R 1)) n)) b3 b4 b5 (nI (i + 1)) := by
          show F_X8_worst_59 _ _ _ _ _ _ _ _ _ _ = _
          unfold F_X8_worst_59
          rw [if_pos (show (8 : Int32) ≤ nI (c + 1) from jle (a := 8) (by omega) (by omega)), nm_eq, show (1 : Int32) = nI 1 from rfl, jn_add]
        rw [e59]
        by_cases qn : i + 1 = n
        · obtain ⟨g2, rfl⟩ : ∃ f', g2 = f' + 1 := ⟨g2 - 1, by omega⟩
          obtain ⟨v, v1, v2⟩ := worst_end h1 (a := a) (p := 8 * i + c + 1) (by omega) (by omega) hs ha g1 g2
          rw [e11] at v1
          rw [qn]
          exact ⟨v, R1, v1, v2, fun _ _ => rfl⟩
        · have e44 : L_X8_worst_44 K (g1 + 1) (nI a) (nI (tot (kf (R 1)) (lf (R 1)) n)) b3 b4 b5 (nI (i + 1)) = L_X8_worst_59 (fun a1 a2 a3 a4 a5 a6 => L_X8_worst_44 K g1 a1 a2 a3 a4 a5 a6) K FU (nI a) (nI (tot (kf (R 1)) (lf (R 1)) n)) b3 b4 b5 (nI (i + 1)) (nI 0) := by
            show F_X8_worst_44 _ _ _ _ _ _ _ _ = _
            unfold F_X8_worst_44
            rw [h.1.nn, h.2.s0, if_neg (jnle (by omega) (by omega))]
            rfl
          rw [e44]
          have := worst_loop ha r (i + 1) 0 R1 b3 b4 b5 jdx jest h1 (by omega) (by omega) (by omega) (by rw [show 8 * (i + 1) + 0 = 8 * i + c + 1 by omega]; exact hs) g1 FU g2 (by omega) (by omega) (by omega)
          rw [e11, show 8 * (i + 1) + 0 = 8 * i + c + 1 by omega] at this
          exact this
      · have := worst_loop ha r i (c + 1) R1 b3 b4 b5 jdx jest h1 (by omega) (by omega) (by omega) hs g1 f g2 (by omega) (by omega) (by omega)
        rw [e11] at this
        exact this
    by_cases q : nI d ≤ a5
    · have hs : WSt n (8 * i + c + 1) a3 a4 a5 idx a5 := by
        refine ⟨rfl, ?_⟩
        rcases hw' with ⟨_, e, _⟩ | hx
        · rw [e] at q
          have : (0 : Int32) ≤ -1 := Int32.le_trans (jle (a := 0) (b := d) (Nat.zero_le _) (by omega)) q
          exact absurd this (by decide)
        · exact Or.inr hx
      obtain ⟨v, R', v1, v2, v3⟩ := next a3 a4 a5 idx a5 hs
      exact ⟨v, R', hcls _ (by rw [if_pos q]; exact v1), href _ (by rw [if_pos q]; exact v2), fun a ha => (v3 a ha).trans (hr1 a ha)⟩
    · have hs : WSt n (8 * i + c + 1) (nI i) (nI c) (nI d) (nI (8 * i + c)) (nI d) := by
        refine ⟨rfl, Or.inr ⟨8 * i + c, d, by omega, hd96, ?_, ?_, rfl, rfl⟩⟩
        · congr 1
          omega
        · congr 1
          omega
      obtain ⟨v, R', v1, v2, v3⟩ := next _ _ _ _ _ hs
      exact ⟨v, R', hcls _ (by rw [if_neg q]; exact v1), href _ (by rw [if_neg q]; exact v2), fun a ha => (v3 a ha).trans (hr1 a ha)⟩
theorem s_worst : Sim1 Rel A8_worst A9_worst := by
  intro a K R h
  have hF := FU_big
  obtain ⟨n, ht⟩ := h.now
  have h12 := ht.2.n12
  unfold A8_worst A9_worst C_X8_worst F_X8_worst_0 C_X9_worst F_X9_worst_0
  rw [wide_lit 0 (by decide), wide_lit 2 (by decide)]
  rcases btw_e a (lo := 0) (hi := 2) (by decide) (by decide) with ⟨i, h1, h2, rfl, d1, d2, d3, d4, d5, d6, e⟩ | ⟨hx, e⟩
  · rw [e, bd_s, if_neg n10, if_neg (show ¬ nI i < 0 from d1), if_pos (show nI i ≤ 2 from d5), ht.1.nn, ht.2.s0]
    obtain ⟨G, hG⟩ : ∃ G, FU = G + 1 := ⟨FU - 1, by omega⟩
    by_cases hn : n = 0
    · subst hn
      rw [if_pos (show nI 0 = (0 : Int32) from rfl)]
      have : L_X9_worst_22 FU (nI i) (-1) (-1) 0 R = some (-1000000005, R) := by
        rw [hG]
        show F_X9_worst_22 _ _ _ _ _ _ = _
        unfold F_X9_worst_22
        rw [show inb 0 3058 = true from by decide, gd_t, show Int32.toNatClampNeg 0 = 0 from by decide, ht.2.s0, if_pos (show (8 : Int32) * nI 0 ≤ 0 from by decide), if_neg (show ¬ (0 : Int32) ≤ -1 from by decide)]
      rw [this]
      exact ⟨_, _, _, rfl, rfl, h⟩
    · obtain ⟨v, R', v1, v2, v3⟩ := worst_loop (K := K) (a := i) h2 (8 * n) 0 0 R 0 0 (-1) (-1) (-1) ht (by omega) (by omega) (by omega) ⟨rfl, Or.inl ⟨rfl, rfl, rfl⟩⟩ G FU FU (by omega) (by omega) (by omega)
      have e44 : L_X8_worst_44 K FU (nI i) (nI (tot (kf (R 1)) (lf (R 1)) n)) 0 0 (-1) 0 = some v := by
        rw [hG]
        show F_X8_worst_44 _ _ _ _ _ _ _ _ = _
        unfold F_X8_worst_44
        rw [ht.1.nn, ht.2.s0, if_neg (show ¬ nI n ≤ 0 from jnle (b := 0) (by omega) (by omega))]
        exact v1
      rw [if_neg (show ¬ nI n = 0 from jne (b := 0) (by omega) (by omega) (by omega)), e_held ht, bd_s, e44]
      exact ⟨_, _, _, rfl, v2, h.r12 v3⟩
  · rw [e, bd_s, if_pos z00]
    rcases hx with hx | ⟨hx1, hx2, hx3⟩
    · rw [if_pos (show a < 0 from hx)]
      exact ⟨_, _, _, rfl, rfl, h⟩
    · rw [if_neg (show ¬ a < 0 from hx1), if_neg (show ¬ a ≤ 2 from Int32.not_le.mpr hx2)]
      exact ⟨_, _, _, rfl, rfl, h⟩
