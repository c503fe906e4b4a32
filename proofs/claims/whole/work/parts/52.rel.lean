/-! the two memories of one state -/
def ImgR (K R : Mem) : Prop := TR K 28 (R 2) ∧ (∃ n, Inv (R 2) n) ∧ XT K 28 (R 2) ∧ (∃ m, m ≤ 9999 ∧ R 2 2 = nI m) ∧ ∃ a b, a ≤ b ∧ b ≤ 14 ∧ R 2 1 = nI a ∧ R 1 1 = nI b
def ShVal (x : Int32) : Prop := x = -1000000005 ∨ (-99999 ≤ x ∧ x ≤ 99999)
def SheetR (K R : Mem) (k : Nat) : Prop := K (51 + 2 * k) 1 = R 4 k ∧ K (51 + 2 * k) 2 = R 5 k ∧ (R 4 k = -1 ∨ R 4 k = 0 ∨ R 4 k = 1) ∧ (∃ m, m ≤ 24 ∧ R 5 k = nI m) ∧ ∀ p, p < 24 → K (52 + 2 * k) p = R 6 (24 * k + p) ∧ ShVal (R 6 (24 * k + p))
def SlotR (K R : Mem) (k : Nat) : Prop := K (60 + 3 * k) 1 = R 7 k ∧ (R 7 k = 0 ∨ (R 7 k = 1 ∧ K (60 + 3 * k) 2 = R 8 k ∧ (∃ j, j < 6 ∧ R 8 k = nI j) ∧ C_X0_worth (K (60 + 3 * k) 2) (K (60 + 3 * k) 3) = some (R 9 k)) ∨ (R 7 k = 2 ∧ K (61 + 3 * k) 2 = R 10 k ∧ (∃ m, m ≤ 24 ∧ R 10 k = nI m) ∧ ∀ p, p < 24 → K (62 + 3 * k) p = R 11 (24 * k + p)) ∨ (R 7 k = 3 ∧ K (60 + 3 * k) 4 = R 8 k))
def WaitR (K R : Mem) : Prop := ∃ w, w ≤ 60 ∧ R 0 31 = nI w ∧ K 0 10 = nI w ∧ ∀ i, i < w → K 75 i = R 19 i
def TapeR (K R : Mem) : Prop := ∃ l, l ≤ 96 ∧ R 0 16 = nI l ∧ K 46 1 = nI l ∧ ∀ i, i < l → K 47 i = R 15 i ∧ ∃ b, b < 256 ∧ R 15 i = nI b
def Rel (K R : Mem) : Prop := (∃ n, TS K 21 R n) ∧ (∃ m, m ≤ 9999 ∧ R 1 2 = nI m) ∧ (XT K 21 (R 1)) ∧ (K 0 11 = R 0 3 ∧ (R 0 3 = nI 0 ∨ R 0 3 = nI 1 ∧ ImgR K R)) ∧ (∀ k, k < 4 → SheetR K R k) ∧ (∀ k, k < 5 → SlotR K R k) ∧ (WaitR K R) ∧ (TapeR K R)
theorem Rel.now {K R : Mem} (h : Rel K R) : ∃ n, TS K 21 R n := h.1
theorem Rel.nights {K R : Mem} (h : Rel K R) : ∃ m, m ≤ 9999 ∧ R 1 2 = nI m := h.2.1
theorem Rel.xt {K R : Mem} (h : Rel K R) : XT K 21 (R 1) := h.2.2.1
theorem Rel.img {K R : Mem} (h : Rel K R) : K 0 11 = R 0 3 ∧ (R 0 3 = nI 0 ∨ R 0 3 = nI 1 ∧ ImgR K R) := h.2.2.2.1
theorem Rel.sheets {K R : Mem} (h : Rel K R) : ∀ k, k < 4 → SheetR K R k := h.2.2.2.2.1
theorem Rel.slots {K R : Mem} (h : Rel K R) : ∀ k, k < 5 → SlotR K R k := h.2.2.2.2.2.1
theorem Rel.waiting {K R : Mem} (h : Rel K R) : WaitR K R := h.2.2.2.2.2.2.1
theorem Rel.tape {K R : Mem} (h : Rel K R) : TapeR K R := h.2.2.2.2.2.2.2
/-! what a question or a change of the town leaves alone -/
def GK (K K' : Mem) : Prop := (∀ a, ¬ (a = 1 ∨ a = 20 ∨ (21 ≤ a ∧ a ≤ 26) ∨ (35 ≤ a ∧ a ≤ 45) ∨ a = 48 ∨ a = 49) → K' a = K a) ∧ K' 21 13 = K 21 13
def GR (R R' : Mem) : Prop := (∀ a, ¬ (a = 1 ∨ a = 3 ∨ a = 12 ∨ a = 13 ∨ a = 14 ∨ a = 16 ∨ a = 17 ∨ a = 18 ∨ a = 20) → R' a = R a) ∧ ∀ i, i = 1 ∨ 58 ≤ i → R' 1 i = R 1 i
theorem GK.rf {K : Mem} : GK K K := ⟨fun _ _ => rfl, rfl⟩
theorem GR.rf {R : Mem} : GR R R := ⟨fun _ _ => rfl, fun _ _ => rfl⟩
theorem GK.tr {K K1 K2 : Mem} (h : GK K K1) (h2 : GK K1 K2) : GK K K2 := ⟨fun a ha => (h2.1 a ha).trans (h.1 a ha), h2.2.trans h.2⟩
theorem GR.tr {R R1 R2 : Mem} (h : GR R R1) (h2 : GR R1 R2) : GR R R2 := ⟨fun a ha => (h2.1 a ha).trans (h.1 a ha), fun i hi => (h2.2 i hi).trans (h.2 i hi)⟩
theorem FK.gk {K K' : Mem} (h : FK 21 K K') : GK K K' := ⟨fun a ha => h.1 a (by omega), h.2⟩
theorem FK.gk35 {K K' : Mem} (h : FK 35 K K') : GK K K' := ⟨fun a ha => h.1 a (by omega), by rw [h.1 21 (by omega)]⟩
theorem FR.gr {R R' : Mem} (h : FR R R') : GR R R' := ⟨fun a ha => h.1 a (by omega), h.2⟩
theorem EK.gk {K K' : Mem} (h : EK K K') : GK K K' := ⟨fun a ha => h a (by omega) (by omega), by rw [h 21 (by decide) (by decide)]⟩
theorem ER.gr {R R' : Mem} (h : ER R R') : GR R R' := h.fr.gr
theorem HR.gr {R R' : Mem} {S : Nat → Int32} {n : Nat} (h : HR R R' S n) : GR R R' := ⟨fun a ha => h.1 a (by omega), fun i _ => by rw [h.1 1 (by decide)]⟩
/-- the town changed, all else stands -/
theorem Rel.town {K R K' R' : Mem} (h : Rel K R) {n : Nat} (ht : TS K' 21 R' n) (hni : ∃ m, m ≤ 9999 ∧ R' 1 2 = nI m) (hK : GK K K') (hR : GR R R') : Rel K' R' := by
  have k0 : K' 0 = K 0 := hK.1 0 (by decide)
  have r0 : R' 0 = R 0 := hR.1 0 (by decide)
  refine ⟨⟨n, ht⟩, hni, ?_, ?_, fun k hk => ?_, fun k hk => ?_, ?_, ?_⟩
  · exact h.xt.mono hK.2 (fun k hk => by rw [hK.1 27 (by decide)]) (fun a h1 h2 => hK.1 a (by omega)) (hR.2 1 (Or.inl rfl)) (fun i hi => hR.2 i (Or.inr hi))
  · rw [k0, r0]
    refine ⟨h.img.1, ?_⟩
    rcases h.img.2 with e | ⟨e, a1, a2, a3, a4, a5⟩
    · exact Or.inl e
    · have r2 : R' 2 = R 2 := hR.1 2 (by decide)
      refine Or.inr ⟨e, ?_, ?_, ?_, ?_, ?_⟩
      · rw [r2]
        obtain ⟨h1, h2, h3, h4, h5, h6⟩ := a1
        refine ⟨?_, ?_, ?_, ?_, ?_, ?_⟩
        · rw [hK.1 _ (by omega)]
          exact h1
        · rw [hK.1 _ (by omega)]
          exact h2
        · rw [hK.1 _ (by omega)]
          exact h3
        · rw [hK.1 _ (by omega)]
          exact h4
        · rw [hK.1 _ (by omega)]
          exact h5
        · rw [hK.1 28 (by omega)]
          exact h6
      · rw [r2]
        exact a2
      · rw [r2]
        exact a3.mono (by rw [hK.1 28 (by decide)]) (fun k hk => by rw [hK.1 (28 + 6) (by decide)]) (fun a h1 h2 => hK.1 a (by omega)) rfl (fun i hi => rfl)
      · rw [r2]
        exact a4
      · rw [r2, hR.2 1 (Or.inl rfl)]
        exact a5
  · have := h.sheets k hk
    unfold SheetR at this ⊢
    rw [hK.1 (51 + 2 * k) (by omega), hK.1 (52 + 2 * k) (by omega), hR.1 4 (by decide), hR.1 5 (by decide), hR.1 6 (by decide)]
    exact this
  · have := h.slots k hk
    unfold SlotR at this ⊢
    rw [hK.1 (60 + 3 * k) (by omega), hK.1 (61 + 3 * k) (by omega), hK.1 (62 + 3 * k) (by omega), hR.1 7 (by decide), hR.1 8 (by decide), hR.1 9 (by decide), hR.1 10 (by decide), hR.1 11 (by decide)]
    exact this
  · have := h.waiting
    unfold WaitR at this ⊢
    rw [k0, r0, hK.1 75 (by decide), hR.1 19 (by decide)]
    exact this
  · have := h.tape
    unfold TapeR at this ⊢
    rw [r0, hK.1 46 (by decide), hK.1 47 (by decide), hR.1 15 (by decide)]
    exact this
/-- nothing of the state changed -/
theorem TR.same {K K' : Mem} {q : Nat} {S : Nat → Int32} (h : TR K q S) (hK : ∀ a, q ≤ a → a ≤ q + 5 → K' a = K a) : TR K' q S := by
  obtain ⟨h1, h2, h3, h4, h5, h6⟩ := h
  refine ⟨?_, ?_, ?_, ?_, ?_, ?_⟩
  · rw [hK _ (by omega) (by omega)]
    exact h1
  · rw [hK _ (by omega) (by omega)]
    exact h2
  · rw [hK _ (by omega) (by omega)]
    exact h3
  · rw [hK _ (by omega) (by omega)]
    exact h4
  · rw [hK _ (by omega) (by omega)]
    exact h5
  · rw [hK q (by omega) (by omega)]
    exact h6
theorem Rel.quiet {K R K' R' : Mem} (h : Rel K R) (hK : GK K K') (hK2 : ∀ a, 21 ≤ a → a ≤ 26 → K' a = K a) (hR : GR R R') (hR1 : R' 1 = R 1) : Rel K' R' := by
  obtain ⟨n, ht⟩ := h.now
  refine h.town (n := n) ⟨?_, ?_⟩ ?_ hK hR
  · rw [hR1]
    exact ht.1.same (fun a h1 h2 => hK2 a h1 h2)
  · rw [hR1]
    exact ht.2
  · rw [hR1]
    exact h.nights
theorem Rel.ek {K R K' R' : Mem} (h : Rel K R) (hK : EK K K') (hR : ER R R') : Rel K' R' := h.quiet hK.gk (fun a h1 h2 => hK a (by omega) (by omega)) hR.gr (hR 1 (by decide) (by decide))
theorem Rel.hr {K R R' : Mem} {S : Nat → Int32} {n : Nat} (h : Rel K R) (hR : HR R R' S n) : Rel K R' := h.quiet GK.rf (fun _ _ _ => rfl) hR.gr (hR.1 1 (by decide))
/-- the checks of an argument -/
theorem isCourse_e {R : Mem} {n : Nat} (h : Inv (R 1) n) (a : Int32) : (∃ i, i < n ∧ a = nI i ∧ C_X9_isCourse R a = some (nI 1)) ∨ ((a < 0 ∨ nI n ≤ a) ∧ C_X9_isCourse R a = some (nI 0)) := by
  have h12 := h.n12
  have e : C_X9_isCourse R a = bd (some (if nI 0 ≤ a ∧ a ≤ nI n - 1 then 1 else 0)) (fun r => gd (z01 r) (some r)) := by
    unfold C_X9_isCourse F_X9_isCourse_0
    rw [show inb 0 3058 = true from by decide, gd_t, show Int32.toNatClampNeg 0 = 0 from by decide, h.s0, wide_lit 0 (by decide), e_isIn]
  rcases ix_cases a (n := n) (by omega) with hx | ⟨i, hi, rfl⟩
  · refine Or.inr ⟨hx, ?_⟩
    rw [e, bd_s, if_neg]
    · rfl
    · rintro ⟨h1, h2⟩
      rcases hx with hx | hx
      · exact absurd h1 (Int32.not_le.mpr hx)
      · by_cases hn : n = 0
        · subst hn
          have : (0 : Int32) ≤ -1 := Int32.le_trans h1 (by exact h2)
          exact absurd this (by decide)
        · have : nI n ≤ nI n - 1 := Int32.le_trans hx h2
          rw [show (1 : Int32) = nI 1 from rfl, jn_sub (by omega), jn_le (by omega) (by omega)] at this
          omega
  · refine Or.inl ⟨i, hi, rfl, ?_⟩
    rw [e, bd_s, if_pos]
    · rfl
    · refine ⟨jle (Nat.zero_le _) (by omega), ?_⟩
      rw [show (1 : Int32) = nI 1 from rfl, jn_sub (by omega)]
      exact jle (by omega) (by omega)
theorem has_e {K R : Mem} {q n : Nat} (h : TS K q R n) (a : Int32) : (∃ i, i < n ∧ a = nI i ∧ C_X6_has q K a = some (nI 1)) ∨ ((a < 0 ∨ nI n ≤ a) ∧ C_X6_has q K a = some (nI 0)) := by
  have h12 := h.2.n12
  rcases ix_cases a (n := n) (by omega) with hx | ⟨i, hi, rfl⟩
  · refine Or.inr ⟨hx, ?_⟩
    unfold C_X6_has F_X6_has_0
    rw [h.1.nn, h.2.s0]
    rcases hx with hx | hx
    · rw [if_pos hx]
      rfl
    · rw [if_pos hx]
      split <;> rfl
  · refine Or.inl ⟨i, hi, rfl, ?_⟩
    rw [e_has h (by omega), if_pos hi]
/-- both checks of a course together -/
theorem course_e {K R : Mem} {q n : Nat} (h : TS K q R n) (a : Int32) : (∃ i, i < n ∧ a = nI i ∧ C_X6_has q K a = some (nI 1) ∧ C_X9_isCourse R a = some (nI 1)) ∨ (C_X6_has q K a = some (nI 0) ∧ C_X9_isCourse R a = some (nI 0)) := by
  rcases has_e h a with ⟨i, hi, rfl, e⟩ | ⟨hx, e⟩
  · rcases isCourse_e h.2 (nI i) with ⟨j, hj, _, e2⟩ | ⟨hx, _⟩
    · exact Or.inl ⟨i, hi, rfl, e, e2⟩
    · exact absurd ⟨i, hi, rfl⟩ (ix_not (by have := h.2.n12; omega) hx)
  · rcases isCourse_e h.2 a with ⟨j, hj, rfl, _⟩ | ⟨_, e2⟩
    · exact absurd ⟨j, hj, rfl⟩ (ix_not (by have := h.2.n12; omega) hx)
    · exact Or.inr ⟨e, e2⟩
/-- an argument between two naturals -/
theorem isIn_e (a : Int32) {lo hi : Nat} (h : hi < 2147483647) (hl : lo ≤ hi) : (∃ j, lo ≤ j ∧ j ≤ hi ∧ a = nI j ∧ C_X9_isIn (Int32.toInt64 a) (Int32.toInt64 (nI lo)) (Int32.toInt64 (nI hi)) = some (nI 1)) ∨ ((a < nI lo ∨ nI hi < a) ∧ C_X9_isIn (Int32.toInt64 a) (Int32.toInt64 (nI lo)) (Int32.toInt64 (nI hi)) = some (nI 0)) := by
  rw [e_isIn]
  rcases e_isIn_ix (a := a) (lo := lo) (hi := hi) h with e | e
  · by_cases q : nI lo ≤ a ∧ a ≤ nI hi
    · obtain ⟨j, h1, h2, h3⟩ := e.mp q
      refine Or.inl ⟨j, h1, h2, h3, ?_⟩
      rw [if_pos q]
      rfl
    · refine Or.inr ⟨?_, ?_⟩
      · by_cases q1 : nI lo ≤ a
        · exact Or.inr (Int32.not_le.mp (fun q2 => q ⟨q1, q2⟩))
        · exact Or.inl (Int32.not_le.mp q1)
      · rw [if_neg q]
        rfl
  · omega
