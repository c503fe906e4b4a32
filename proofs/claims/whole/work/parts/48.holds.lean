/-! what the town holds, on both sides -/
def kf (S : Nat → Int32) (i : Nat) : Nat := Int32.toNatClampNeg (S (10 + 4 * i))
def lf (S : Nat → Int32) (i : Nat) : Nat := Int32.toNatClampNeg (S (13 + 4 * i))
theorem Inv.kf {S : Nat → Int32} {n : Nat} (h : Inv S n) {c : Nat} (hc : c < n) : kf S c < 6 ∧ S (10 + 4 * c) = nI (kf S c) := by
  obtain ⟨k, hk, e⟩ := h.kd hc
  unfold Jvm.Pilot.CKnitStreetsLaw_law_r4807_0386b9.kf
  rw [e, tn_nI (by omega)]
  exact ⟨hk, rfl⟩
theorem Inv.lf {S : Nat → Int32} {n : Nat} (h : Inv S n) {c : Nat} (hc : c < n) : lf S c < 256 ∧ S (13 + 4 * c) = nI (lf S c) := by
  obtain ⟨k, hk, e⟩ := h.lo hc
  unfold Jvm.Pilot.CKnitStreetsLaw_law_r4807_0386b9.lf
  rw [e, tn_nI (by omega)]
  exact ⟨hk, rfl⟩
/-- the held loops of the row before row i -/
def hs (k l : Nat → Nat) : Nat → Nat
  | 0 => 255
  | i + 1 => hold (k i) (l i) (hs k l i)
def tot (k l : Nat → Nat) : Nat → Nat
  | 0 => 0
  | i + 1 => tot k l i + pc (hs k l (i + 1))
theorem hs_lt {k l : Nat → Nat} {n : Nat} (hk : ∀ i, i < n → k i < 6) : ∀ i, i ≤ n → hs k l i < 256
  | 0, _ => (by decide : 255 < 256)
  | i + 1, h => hold_lt (hk i (by omega)) (hs_lt hk i (by omega))
theorem tot_le {k l : Nat → Nat} : ∀ i, tot k l i ≤ 8 * i
  | 0 => Nat.le_refl _
  | i + 1 => by
    have := tot_le (k := k) (l := l) i
    have := pc_le (hs k l (i + 1))
    unfold tot
    omega
theorem up_up {K : Mem} {c i : Nat} {x y : Int32} : up (up K c i x) c i y = up K c i y := by
  funext a j
  simp only [u_if]
  split <;> rfl
section HOLDS
variable {K R : Mem} {q n : Nat}
theorem e_holdingOn (h : TS K q R n) {i s : Nat} (hi : i < n) (hs : s < 256) : C_X6_holdingOn q K (nI i) (nI s) = some (nI (hold (kf (R 1) i) (lf (R 1) i) s)) := by
  have h12 := h.2.n12
  obtain ⟨k1, k2⟩ := h.2.kf hi
  obtain ⟨l1, l2⟩ := h.2.lf hi
  unfold C_X6_holdingOn F_X6_holdingOn_0
  rw [inb_t (by omega) (by omega), gd_t, tn_nI (by omega), h.1.kd (by omega), k2, e_borne k1 hs, bd_s, gd_t, h.1.lo (by omega), l2, j_andn (by have := bo_lt k1 hs; omega)]
  rfl
theorem e_has (h : TS K q R n) {i : Nat} (hi : i < 2147483648) : C_X6_has q K (nI i) = some (if i < n then nI 1 else nI 0) := by
  have h12 := h.2.n12
  unfold C_X6_has F_X6_has_0
  rw [h.1.nn, h.2.s0]
  by_cases e : i < n
  · have e2 : ¬ n ≤ i := by omega
    simp (disch := omega) only [lit, jn_lt, jn_le, Nat.not_lt_zero, if_false, e2, e, if_true]
  · have e2 : n ≤ i := by omega
    simp (disch := omega) only [lit, jn_lt, jn_le, Nat.not_lt_zero, if_false, e2, e, if_true]
theorem holding_loop (h : TS K q R n) {a : Nat} (ha : a < n) : ∀ (r i : Nat), i + r = a + 1 → ∀ f, r < f → L_X6_holding_6 q K f (nI a) (nI (hs (kf (R 1)) (lf (R 1)) i)) (nI i) = some (nI (hs (kf (R 1)) (lf (R 1)) (a + 1)))
  | 0, i, hi, f, hf => by
    obtain ⟨g, rfl⟩ : ∃ g, f = g + 1 := ⟨f - 1, by omega⟩
    have h12 := h.2.n12
    show F_X6_holding_6 _ q K _ _ _ = _
    unfold F_X6_holding_6
    have e : a < i := by omega
    simp (disch := omega) only [jn_lt, e, if_true]
    rw [show i = a + 1 by omega]
  | r + 1, i, hi, f, hf => by
    obtain ⟨g, rfl⟩ : ∃ g, f = g + 1 := ⟨f - 1, by omega⟩
    have h12 := h.2.n12
    show F_X6_holding_6 _ q K _ _ _ = _
    unfold F_X6_holding_6
    have e : ¬ a < i := by omega
    have e2 : ¬ n ≤ i := by omega
    have eh := e_holdingOn h (i := i) (by omega) (hs_lt (k := kf (R 1)) (l := lf (R 1)) (n := n) (fun i hi => (h.2.kf hi).1) i (by omega))
    simp (disch := omega) only [h.1.nn, h.2.s0, jn_lt, jn_le, e, e2, if_false, eh, bd_s, nm_eq, lit, jn_add]
    exact holding_loop h ha r (i + 1) (by omega) g (by omega)
theorem e_holding (h : TS K q R n) {a : Nat} (ha : a < n) : C_X6_holding q K (nI a) = some (nI (hs (kf (R 1)) (lf (R 1)) (a + 1))) := by
  have hF := FU_big
  have h12 := h.2.n12
  unfold C_X6_holding F_X6_holding_0
  exact holding_loop h ha (a + 1) 0 (by omega) FU (by omega)
/-- with loops m of row a lost too -/
def lfw (l : Nat → Nat) (a m i : Nat) : Nat := if i = a then l i ||| m else l i
theorem andn_or (a b c : Nat) : andn (andn a b) c = andn a (b ||| c) := by
  apply Nat.eq_of_testBit_eq
  intro i
  rw [andn_bit, andn_bit, andn_bit, Nat.testBit_or]
  cases a.testBit i <;> cases b.testBit i <;> cases c.testBit i <;> rfl
theorem without_loop (h : TS K q R n) {a m : Nat} (ha : a < 12) (hm : m < 256) : ∀ (r i : Nat), i + r = n → ∀ f, r < f → L_X6_heldWithout_10 q K f (nI a) (nI m) (nI (hs (kf (R 1)) (lfw (lf (R 1)) a m) i)) (nI (tot (kf (R 1)) (lfw (lf (R 1)) a m) i)) (nI i) = some (nI (tot (kf (R 1)) (lfw (lf (R 1)) a m) n))
  | 0, i, hi, f, hf => by
    obtain ⟨g, rfl⟩ : ∃ g, f = g + 1 := ⟨f - 1, by omega⟩
    have h12 := h.2.n12
    show F_X6_heldWithout_10 _ q K _ _ _ _ _ = _
    unfold F_X6_heldWithout_10
    have e : n ≤ i := by omega
    simp (disch := omega) only [h.1.nn, h.2.s0, jn_le, e, if_true]
    rw [show i = n by omega]
  | r + 1, i, hi, f, hf => by
    obtain ⟨g, rfl⟩ : ∃ g, f = g + 1 := ⟨f - 1, by omega⟩
    have h12 := h.2.n12
    show F_X6_heldWithout_10 _ q K _ _ _ _ _ = _
    unfold F_X6_heldWithout_10
    have e : ¬ n ≤ i := by omega
    obtain ⟨k1, k2⟩ := h.2.kf (c := i) (by omega)
    have hlt := hs_lt (k := kf (R 1)) (l := lfw (lf (R 1)) a m) (n := n) (fun i hi => (h.2.kf hi).1) i (by omega)
    have hlt1 := hs_lt (k := kf (R 1)) (l := lfw (lf (R 1)) a m) (n := n) (fun i hi => (h.2.kf hi).1) (i + 1) (by omega)
    have eh := e_holdingOn h (i := i) (by omega) hlt
    rw [h.1.nn, h.2.s0, if_neg (jnle (by omega) (by omega)), eh, bd_s]
    have hb : hold (kf (R 1) i) (lf (R 1) i) (hs (kf (R 1)) (lfw (lf (R 1)) a m) i) < 256 := hold_lt k1 hlt
    have ih := without_loop h ha hm r (i + 1) (by omega) g (by omega)
    by_cases ea : i = a
    · rw [if_pos (by rw [ea])]
      have e3 : nI (hold (kf (R 1) i) (lf (R 1) i) (hs (kf (R 1)) (lfw (lf (R 1)) a m) i)) &&& (nI m ^^^ -1) = nI (hs (kf (R 1)) (lfw (lf (R 1)) a m) (i + 1)) := by
        rw [j_andn (by omega)]
        show nI (andn (andn _ _) m) = nI (andn (bo _ _) (lfw (lf (R 1)) a m i))
        rw [andn_or]
        unfold lfw
        rw [if_pos ea]
      rw [e3, nm_eq, e_bitCount hlt1, bd_s, nm_eq, nm_eq, jn_add, show nI i + 1 = nI (i + 1) from jn_add i 1]
      exact ih
    · rw [if_neg (jne ea (by omega) (by omega))]
      have e3 : hold (kf (R 1) i) (lf (R 1) i) (hs (kf (R 1)) (lfw (lf (R 1)) a m) i) = hs (kf (R 1)) (lfw (lf (R 1)) a m) (i + 1) := by
        show _ = hold _ (lfw (lf (R 1)) a m i) _
        unfold lfw
        rw [if_neg ea]
      rw [e3, e_bitCount hlt1, bd_s, nm_eq, nm_eq, jn_add, show nI i + 1 = nI (i + 1) from jn_add i 1]
      exact ih
theorem e_without (h : TS K q R n) {a m : Nat} (ha : a < 12) (hm : m < 256) : C_X6_heldWithout q K (nI a) (nI m) = some (nI (tot (kf (R 1)) (lfw (lf (R 1)) a m) n)) := by
  have hF := FU_big
  have h12 := h.2.n12
  unfold C_X6_heldWithout F_X6_heldWithout_0
  exact without_loop h ha hm n 0 (by omega) FU (by omega)
theorem tot_ext {k l k2 l2 : Nat → Nat} : ∀ n : Nat, (∀ i, i < n → k i = k2 i ∧ l i = l2 i) → hs k l n = hs k2 l2 n ∧ tot k l n = tot k2 l2 n
  | 0, _ => ⟨rfl, rfl⟩
  | n + 1, h => by
    obtain ⟨e1, e2⟩ := tot_ext n (fun i hi => h i (by omega))
    obtain ⟨f1, f2⟩ := h n (by omega)
    have e3 : hs k l (n + 1) = hs k2 l2 (n + 1) := by
      show hold _ _ _ = hold _ _ _
      rw [e1, f1, f2]
    refine ⟨e3, ?_⟩
    show tot k l n + pc (hs k l (n + 1)) = _
    rw [e2, e3]
    rfl
theorem e_held (h : TS K q R n) : C_X6_held q K = some (nI (tot (kf (R 1)) (lf (R 1)) n)) := by
  unfold C_X6_held F_X6_held_0
  rw [show (0 : Int32) = nI 0 from rfl, e_without h (by omega) (by omega), bd_s, (tot_ext n (fun i _ => ⟨rfl, ?_⟩)).2]
  unfold lfw
  split
  · rw [Nat.or_zero]
  · rfl
/-! the reference's count -/
theorem e_hangs_ : ∀ c : Fin 8, (jshl 1 (nI c) ||| jshl 1 (jrem (nI c + 1) 8)) = nI (2 ^ c.val ||| 2 ^ ((c.val + 1) % 8)) ∧ jshl 1 (nI c ^^^ 1) = nI (2 ^ (c.val ^^^ 1)) ∧ jshl 1 (nI c) = nI (2 ^ c.val) := by decide +kernel
theorem e_hangs {i k c : Nat} (hi : i < 12) (e : R 1 (10 + 4 * i) = nI k) (hk : k < 6) (hc : c < 8) : C_X9_hangs R (nI i) (nI c) = some (nI (hang k c)) := by
  obtain ⟨h1, h2, h3⟩ := e_hangs_ ⟨c, hc⟩
  unfold C_X9_hangs F_X9_hangs_0 F_X9_hangs_42 hang
  rw [show (0 : Int32) = nI 0 from rfl, e_of (by omega), bd_s, Nat.add_zero, e]
  obtain rfl | rfl | rfl | rfl | rfl | rfl : k = 0 ∨ k = 1 ∨ k = 2 ∨ k = 3 ∨ k = 4 ∨ k = 5 := by omega
  · exact congrArg some h3
  · exact congrArg some h3
  · exact congrArg some h1
  · exact congrArg some h2
  · exact congrArg some h1
  · rfl
theorem holds_step {k4 : Int32 → Int32 → Mem → Option (Int32 × Mem)} {k43 : Int32 → Int32 → Int32 → Int32 → Mem → Option (Int32 × Mem)} {a i s c k l x : Nat} (hi : i < 12) (e1 : R 1 (10 + 4 * i) = nI k) (e2 : R 1 (13 + 4 * i) = nI l) (ex : R 12 i = nI x) (hk : k < 6) (hl : l < 256) (hss : s < 256) (hc : c < 8) : F_X9_holds_43 k4 k43 (nI a) (nI i) (nI s) (nI c) R = k43 (nI (a + if (hold k l s).testBit c then 1 else 0)) (nI i) (nI s) (nI (c + 1)) (up R 12 i (nI (x ||| if (hold k l s).testBit c then 2 ^ c else 0))) := by
  have n1 : nI 1 ≠ nI 0 := by decide
  have hb : (hold k l s).testBit c = ((bo k s).testBit c && !l.testBit c) := andn_bit _ _ _
  have e83 : ∀ b : Bool, F_X9_holds_83 k4 k43 (nI a) (nI i) (nI s) (nI c) (if b = true then nI 1 else nI 0) R = k43 (nI (a + if b = true then 1 else 0)) (nI i) (nI s) (nI (c + 1)) (up R 12 i (nI (x ||| if b = true then 2 ^ c else 0))) := by
    intro b
    cases b
    · unfold F_X9_holds_83 F_X9_holds_105
      simp (disch := omega) only [lit, inb_t, gd_t, nm_eq, tn_nI, jn_add, if_true, ex, Bool.false_eq_true, if_false, j_or]
    · unfold F_X9_holds_83 F_X9_holds_105
      simp (disch := omega) only [lit, inb_t, gd_t, nm_eq, tn_nI, jn_add, if_true, ex, n1, if_false, j_or, e_shl1 hc]
  have hlc := hl
  unfold F_X9_holds_43
  rw [show (8 : Int32) = nI 8 from rfl, if_neg (jnle (by omega) (by omega)), show (3 : Int32) = nI 3 from rfl, e_of (by omega), show 10 + 4 * i + 3 = 13 + 4 * i by omega, e2, bd_s, e_among hl hc, bd_s]
  have eb := bo_bit hk hss hc
  rw [hb]
  cases hlb : l.testBit c
  · rw [if_neg Bool.false_ne_true, if_pos (show nI 0 = (0 : Int32) from rfl), e_hangs hi e1 hk hc, bd_s]
    by_cases hz : nI (hang k c) &&& (nI s ^^^ -1) = 0
    · rw [if_pos hz, eb, decide_eq_true hz]
      exact e83 true
    · rw [if_neg hz, eb, decide_eq_false hz]
      exact e83 false
  · rw [if_pos rfl, if_neg (show ¬ nI 1 = (0 : Int32) from n1), Bool.not_true, Bool.and_false]
    exact e83 false
theorem holds_row {k4 : Int32 → Int32 → Mem → Option (Int32 × Mem)} {a i s k l : Nat} {K0 : Mem} (hi : i < 12) (e1 : K0 1 (10 + 4 * i) = nI k) (e2 : K0 1 (13 + 4 * i) = nI l) (hk : k < 6) (hl : l < 256) (hss : s < 256) : ∀ (r c : Nat), c + r = 8 → ∀ f, r < f → L_X9_holds_43 k4 f (nI (a + pc (hold k l s % 2 ^ c))) (nI i) (nI s) (nI c) (up K0 12 i (nI (hold k l s % 2 ^ c))) = k4 (nI (a + pc (hold k l s))) (nI (i + 1)) (up K0 12 i (nI (hold k l s)))
  | 0, c, hc, f, hf => by
    obtain ⟨g, rfl⟩ : ∃ g, f = g + 1 := ⟨f - 1, by omega⟩
    obtain rfl : c = 8 := by omega
    have hh : hold k l s % 2 ^ 8 = hold k l s := Nat.mod_eq_of_lt (hold_lt hk hss)
    rw [hh]
    show F_X9_holds_43 _ _ _ _ _ _ _ = _
    unfold F_X9_holds_43
    simp (disch := omega) only [lit, jn_le, jn_add, Nat.le_refl, if_true, nm_eq]
  | r + 1, c, hc, f, hf => by
    obtain ⟨g, rfl⟩ : ∃ g, f = g + 1 := ⟨f - 1, by omega⟩
    show F_X9_holds_43 _ _ _ _ _ _ _ = _
    rw [holds_step (k := k) (l := l) (x := hold k l s % 2 ^ c) hi (by rw [u_ne (by decide)]; exact e1) (by rw [u_ne (by decide)]; exact e2) u_at hk hl hss (by omega), up_up, Nat.add_assoc, ← pc_step (hold_lt hk hss) (by omega), ← mod_step]
    exact holds_row hi e1 e2 hk hl hss r (c + 1) (by omega) g (by omega)
/-- the reference's rows filled up to row i -/
def HR (R K : Mem) (S : Nat → Int32) (i : Nat) : Prop := (∀ a, a ≠ 12 → K a = R a) ∧ ∀ j, j < i → K 12 j = nI (hs (kf S) (lf S) (j + 1))
theorem holds_loop (h : Inv (R 1) n) : ∀ (r i : Nat) (K : Mem), i + r = n → HR R K (R 1) i → ∀ f, r < f → ∃ K', L_X9_holds_4 f (nI (tot (kf (R 1)) (lf (R 1)) i)) (nI i) K = some (nI (tot (kf (R 1)) (lf (R 1)) n), K') ∧ HR R K' (R 1) n
  | 0, i, K, hi, hK, f, hf => by
    obtain ⟨g, rfl⟩ : ∃ g, f = g + 1 := ⟨f - 1, by omega⟩
    have h12 := h.n12
    obtain rfl : i = n := by omega
    refine ⟨K, ?_, hK⟩
    show F_X9_holds_4 _ _ _ _ = _
    unfold F_X9_holds_4
    rw [hK.1 1 (by decide)]
    simp (disch := omega) only [nm_eq, gd_t, bd_s, bd2_s, lit, jn_add, pk_mul, inb_t, tn_nI, jn_lt, jn_le, jn_eq, h.s0, Nat.le_refl, if_true]
  | r + 1, i, K, hi, hK, f, hf => by
    obtain ⟨g, rfl⟩ : ∃ g, f = g + 1 := ⟨f - 1, by omega⟩
    have h12 := h.n12
    have hF := FU_big
    have hin : i < n := by omega
    obtain ⟨k1, k2⟩ := h.kf hin
    obtain ⟨l1, l2⟩ := h.lf hin
    have hlt := hs_lt (k := kf (R 1)) (l := lf (R 1)) (n := n) (fun i hi => (h.kf hi).1) i (by omega)
    have hrow : ∀ k4, L_X9_holds_43 k4 FU (nI (tot (kf (R 1)) (lf (R 1)) i)) (nI i) (nI (hs (kf (R 1)) (lf (R 1)) i)) (nI 0) (up K 12 i (nI 0)) = k4 (nI (tot (kf (R 1)) (lf (R 1)) (i + 1))) (nI (i + 1)) (up K 12 i (nI (hs (kf (R 1)) (lf (R 1)) (i + 1)))) := by
      intro k4
      have := holds_row (k4 := k4) (a := tot (kf (R 1)) (lf (R 1)) i) (s := hs (kf (R 1)) (lf (R 1)) i) (K0 := K) (i := i) (by omega) (by rw [hK.1 1 (by decide)]; exact k2) (by rw [hK.1 1 (by decide)]; exact l2) k1 l1 hlt 8 0 (by omega) FU (by omega)
      rw [show hold (kf (R 1) i) (lf (R 1) i) (hs (kf (R 1)) (lf (R 1)) i) % 2 ^ 0 = 0 from Nat.mod_one _] at this
      exact this
    have hK2 : HR R (up K 12 i (nI (hs (kf (R 1)) (lf (R 1)) (i + 1)))) (R 1) (i + 1) := by
      refine ⟨fun a ha => by rw [u_ne ha]; exact hK.1 a ha, fun j hj => ?_⟩
      by_cases e : j = i
      · subst e
        rw [u_at]
      · rw [u_oth e]
        exact hK.2 j (by omega)
    obtain ⟨K', e1, e2⟩ := holds_loop h r (i + 1) _ (by omega) hK2 g (by omega)
    refine ⟨K', ?_, e2⟩
    show F_X9_holds_4 _ _ _ _ = _
    unfold F_X9_holds_4
    have e0 : ¬ n ≤ i := by omega
    rw [hK.1 1 (by decide)]
    by_cases ei : i = 0
    · subst ei
      simp (disch := omega) only [nm_eq, gd_t, bd_s, bd2_s, lit, jn_add, pk_mul, inb_t, tn_nI, jn_lt, jn_le, jn_eq, h.s0, e0, if_true, if_false]
      have h255 : nI 255 = nI (hs (kf (R 1)) (lf (R 1)) 0) := rfl
      rw [h255, hrow]
      exact e1
    · have ej : nI i - nI 1 = nI (i - 1) := jn_sub (by omega)
      have e3 : K 12 (i - 1) = nI (hs (kf (R 1)) (lf (R 1)) i) := by
        rw [hK.2 (i - 1) (by omega), show i - 1 + 1 = i by omega]
      simp (disch := omega) only [nm_eq, gd_t, bd_s, bd2_s, lit, jn_add, pk_mul, inb_t, tn_nI, jn_lt, jn_le, jn_eq, h.s0, e0, ei, if_false, ej, e3]
      rw [hrow]
      exact e1
theorem e_holds (h : Inv (R 1) n) : ∃ R', C_X9_holds R = some (nI (tot (kf (R 1)) (lf (R 1)) n), R') ∧ HR R R' (R 1) n := by
  have h12 := h.n12
  have hF := FU_big
  exact holds_loop h n 0 R (by omega) ⟨fun a _ => rfl, fun j hj => absurd hj (Nat.not_lt_zero _)⟩ FU (by omega)
theorem e_holdingR (h : Inv (R 1) n) {a : Nat} (ha : a < n) : ∃ R', C_X9_holding (nI a) R = some (nI (hs (kf (R 1)) (lf (R 1)) (a + 1)), R') ∧ HR R R' (R 1) n := by
  have h12 := h.n12
  obtain ⟨R', e1, e2⟩ := e_holds h
  refine ⟨R', ?_, e2⟩
  have := tot_le (k := kf (R 1)) (l := lf (R 1)) n
  unfold C_X9_holding F_X9_holding_0
  rw [e1, bd2_s]
  simp (disch := omega) only [nm_eq, gd_t, bd_s, bd2_s, lit, jn_add, pk_mul, inb_t, tn_nI, jn_lt, jn_le, jn_eq, Nat.zero_le, if_true, e2.2 a ha]
end HOLDS
