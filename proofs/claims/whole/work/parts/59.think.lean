/-! a town thought of -/
theorem cpm_at {K : Mem} {c d n j : Nat} (h : j < n) : cpm K c d 0 0 n d j = K c j := by
  refine (if_pos ⟨rfl, Nat.zero_le _, by omega⟩).trans ?_
  rw [Nat.zero_add, Nat.sub_zero]
theorem e_become {K : Mem} {q q1 : Nat} (hq : q1 + 7 ≤ q ∨ q + 7 ≤ q1) : ∃ K', C_X6_become q q1 K = some K' ∧ (∀ a, a < q ∨ q + 6 < a → K' a = K a) ∧ (∀ S, TR K q1 S → TR K' q S) ∧ K' q 13 = K q1 13 ∧ (∀ k, k < 3 → K' (q + 6) k = K (q1 + 6) k) ∧ K' q 7 = K q1 7 := by
  have h12 : cpok 0 0 12 12 12 = true := by decide
  have h3 : cpok 0 0 3 3 3 = true := by decide
  have t0 : Int32.toNatClampNeg 0 = 0 := by decide
  have t12 : Int32.toNatClampNeg 12 = 12 := by decide
  have t3 : Int32.toNatClampNeg 3 = 3 := by decide
  unfold C_X6_become F_X6_become_0
  simp only [h12, h3, gd_t, nm_eq, t0, t12, t3]
  refine ⟨_, rfl, ?_, ?_, ?_, ?_, ?_⟩
  · intro a ha
    simp (disch := omega) only [u_ne, cpm_ne]
  · intro S h
    refine ⟨fun c hc => ?_, fun c hc => ?_, fun c hc => ?_, fun c hc => ?_, fun c hc => ?_, ?_, ?_, ?_, ?_, ?_, ?_⟩
    · simp (disch := omega) only [u_ne, cpm_ne, cpm_at]
      exact h.kd hc
    · simp (disch := omega) only [u_ne, cpm_ne, cpm_at]
      exact h.ga hc
    · simp (disch := omega) only [u_ne, cpm_ne, cpm_at]
      exact h.we hc
    · simp (disch := omega) only [u_ne, cpm_ne, cpm_at]
      exact h.lo hc
    · simp (disch := omega) only [u_ne, cpm_ne, cpm_at]
      exact h.ru hc
    · simp (disch := omega) only [u_ne, cpm_ne, u_oth, u_at]
      exact h.nn
    · simp (disch := omega) only [u_ne, cpm_ne, u_oth, u_at]
      exact h.wa
    · simp (disch := omega) only [u_ne, cpm_ne, u_oth, u_at]
      exact h.rn
    · simp (disch := omega) only [u_ne, cpm_ne, u_oth, u_at]
      exact h.me
    · simp (disch := omega) only [u_ne, cpm_ne, u_oth, u_at]
      exact h.ni
    · simp (disch := omega) only [u_ne, cpm_ne, u_oth, u_at]
      exact h.zz
  · simp (disch := omega) only [u_ne, cpm_ne, u_oth, u_at]
  · intro k hk
    simp (disch := omega) only [u_ne, cpm_ne, cpm_at]
  · simp (disch := omega) only [u_ne, cpm_ne, u_oth, u_at]
theorem laysBy_loop : ∀ (r i : Nat) (R : Mem), i + r = 58 → ∀ f, r < f → ∃ R', L_X9_laysBy_2 f (nI i) R = some R' ∧ (∀ a, a ≠ 14 → R' a = R a) ∧ (∀ j, j < i → R' 14 j = R 14 j) ∧ ∀ j, i ≤ j → j < 58 → R' 14 j = R 1 j
  | 0, i, R, hi, f, hf => by
    obtain ⟨g, rfl⟩ : ∃ g, f = g + 1 := ⟨f - 1, by omega⟩
    exact ⟨R, if_pos (jle (a := 58) (by omega) (by omega)), fun _ _ => rfl, fun _ _ => rfl, fun j h1 h2 => by omega⟩
  | r + 1, i, R, hi, f, hf => by
    obtain ⟨g, rfl⟩ : ∃ g, f = g + 1 := ⟨f - 1, by omega⟩
    obtain ⟨R', e, h1, h2, h3⟩ := laysBy_loop r (i + 1) (up R 14 i (R 1 i)) (by omega) g (by omega)
    refine ⟨R', ?_, fun a ha => by rw [h1 a ha, u_ne ha], fun j hj => by rw [h2 j (by omega), u_oth (by omega)], fun j hj1 hj2 => ?_⟩
    · refine (if_neg (jnle (a := 58) (by omega) (by omega))).trans ?_
      rw [inb_t (by omega) (by omega), gd_t, inb_t (by omega) (by omega), gd_t, tn_nI (by omega), nm_eq, nm_eq, show (1 : Int32) = nI 1 from rfl, jn_add]
      exact e
    · by_cases e : j = i
      · subst e
        rw [h2 j (by omega), u_at]
      · rw [h3 j (by omega) hj2, u_ne (by decide)]
theorem laysBack_loop : ∀ (r i : Nat) (R : Mem), i + r = 58 → ∀ f, r < f → ∃ R', L_X9_laysBack_2 f (nI i) R = some R' ∧ (∀ a, a ≠ 1 → R' a = R a) ∧ (∀ j, j < i ∨ 58 ≤ j → R' 1 j = R 1 j) ∧ ∀ j, i ≤ j → j < 58 → R' 1 j = R 14 j
  | 0, i, R, hi, f, hf => by
    obtain ⟨g, rfl⟩ : ∃ g, f = g + 1 := ⟨f - 1, by omega⟩
    exact ⟨R, if_pos (jle (a := 58) (by omega) (by omega)), fun _ _ => rfl, fun _ _ => rfl, fun j h1 h2 => by omega⟩
  | r + 1, i, R, hi, f, hf => by
    obtain ⟨g, rfl⟩ : ∃ g, f = g + 1 := ⟨f - 1, by omega⟩
    obtain ⟨R', e, h1, h2, h3⟩ := laysBack_loop r (i + 1) (up R 1 i (R 14 i)) (by omega) g (by omega)
    refine ⟨R', ?_, fun a ha => by rw [h1 a ha, u_ne ha], fun j hj => by rw [h2 j (by omega), u_oth (by omega)], fun j hj1 hj2 => ?_⟩
    · refine (if_neg (jnle (a := 58) (by omega) (by omega))).trans ?_
      rw [inb_t (by omega) (by omega), gd_t, inb_t (by omega) (by omega), gd_t, tn_nI (by omega), nm_eq, nm_eq, show (1 : Int32) = nI 1 from rfl, jn_add]
      exact e
    · by_cases e : j = i
      · subst e
        rw [h2 j (by omega), u_at]
      · rw [h3 j (by omega) hj2, u_ne (by decide)]
def TK (K0 K : Mem) : Prop := ∀ a, ¬ (a = 1 ∨ a = 20 ∨ (35 ≤ a ∧ a ≤ 41)) → K a = K0 a
def TQ (R0 R : Mem) : Prop := (∀ a, ¬ (a = 1 ∨ a = 12 ∨ a = 14 ∨ a = 16 ∨ a = 17) → R a = R0 a) ∧ (∀ i, i < 58 → R 14 i = R0 1 i) ∧ ∀ i, i = 1 ∨ 58 ≤ i → R 1 i = R0 1 i
theorem TK.fk {K0 K K' : Mem} (h : TK K0 K) (h2 : FK 35 K K') : TK K0 K' := fun a ha => (h2.1 a (by omega)).trans (h a ha)
theorem TQ.fr {R0 R R' : Mem} (h : TQ R0 R) (h2 : FR R R') : TQ R0 R' := ⟨fun a ha => (h2.1 a (by omega)).trans (h.1 a ha), fun i hi => by rw [h2.1 14 (by decide)]; exact h.2.1 i hi, fun i hi => (h2.2 i hi).trans (h.2.2 i hi)⟩
theorem TQ.hr {R0 R R' : Mem} {S : Nat → Int32} {n : Nat} (h : TQ R0 R) (h2 : HR R R' S n) : TQ R0 R' := ⟨fun a ha => (h2.1 a (by omega)).trans (h.1 a ha), fun i hi => by rw [h2.1 14 (by decide)]; exact h.2.1 i hi, fun i hi => by rw [h2.1 1 (by decide)]; exact h.2.2 i hi⟩
theorem th_rel {K0 R0 K R : Mem} (h : Rel K0 R0) (hK : TK K0 K) (hR : TQ R0 R) (h1 : R 1 = R0 1) : Rel K R := h.quiet ⟨fun a ha => hK a (by omega), by rw [hK 21 (by decide)]⟩ (fun a h1 h2 => hK a (by omega)) ⟨fun a ha => hR.1 a (by omega), hR.2.2⟩ h1
theorem th_back {R0 R : Mem} (h : TQ R0 R) : ∃ R', C_X9_laysBack R = some R' ∧ TQ R0 R' ∧ R' 1 = R0 1 := by
  have hF := FU_big
  obtain ⟨R', e, h1, h2, h3⟩ := laysBack_loop 58 0 R (by omega) FU (by omega)
  have key : R' 1 = R0 1 := by
    funext j
    by_cases hj : j < 58
    · rw [h3 j (Nat.zero_le _) hj]
      exact h.2.1 j hj
    · rw [h2 j (Or.inr (by omega))]
      exact h.2.2 j (Or.inr (by omega))
  refine ⟨R', e, ⟨fun a ha => (h1 a (by omega)).trans (h.1 a ha), fun i hi => ?_, fun i hi => by rw [key]⟩, key⟩
  rw [h1 14 (by decide)]
  exact h.2.1 i hi
theorem th_by {R : Mem} : ∃ R', C_X9_laysBy R = some R' ∧ TQ R R' ∧ R' 1 = R 1 := by
  have hF := FU_big
  obtain ⟨R', e, h1, h2, h3⟩ := laysBy_loop 58 0 R (by omega) FU (by omega)
  refine ⟨R', e, ⟨fun a ha => h1 a (by omega), fun i hi => h3 i (Nat.zero_le _) hi, fun i hi => by rw [h1 1 (by decide)]⟩, h1 1 (by decide)⟩
/-- the class thinks of the town now -/
theorem th_become {K0 R0 K R : Mem} (h : Rel K0 R0) (hK : TK K0 K) (h1 : R 1 = R0 1) : ∃ K' n, C_X6_become 35 21 K = some K' ∧ TK K0 K' ∧ TS K' 35 R n ∧ XT K' 35 (R 1) ∧ (∃ m, TS K0 21 R0 m ∧ m = n) := by
  obtain ⟨n, ht⟩ := h.now
  obtain ⟨K', e, e1, e2, e3, e4, e5⟩ := e_become (K := K) (q := 35) (q1 := 21) (by omega)
  have ht0 : TR K 21 (R0 1) := ht.1.same (fun a h1 h2 => hK a (by omega))
  refine ⟨K', n, e, fun a ha => (e1 a (by omega)).trans (hK a ha), ⟨?_, ?_⟩, ?_, n, ht, rfl⟩
  · rw [h1]
    exact e2 _ ht0
  · rw [h1]
    exact ht.2
  · rw [h1]
    refine h.xt.mono ?_ (fun k hk => ?_) (fun a ha1 ha2 => (e1 a (by omega)).trans (hK a (by omega))) rfl (fun _ _ => rfl)
    · rw [e3, hK 21 (by decide)]
    · rw [e4 k hk, hK (21 + 6) (by decide)]
