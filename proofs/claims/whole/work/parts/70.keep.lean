/-! the image kept, and back to it -/
theorem TextP.mono2 {K K' : Mem} {S S' : Nat → Int32} {t key m : Nat} {p : Nat → Nat × Nat} (ht : t < 14) (h : TextP K S t key m p) (hK : ∀ a, 3 ≤ a → a < 20 → K' a = K a) (hS : ∀ i, i < 2858 → S' i = S i) : TextP K' S' t key m p := by
  obtain ⟨h1, h2, h3, h4, h5, h6, h7, h8, h9, h10⟩ := h
  refine ⟨h1, h2, h3, h4, ?_, ?_, ?_, ?_, ?_, fun i hi => ?_⟩
  · rw [hS _ (by omega)]
    exact h5
  · rw [hK 4 (by decide) (by decide)]
    exact h6
  · rw [hK 5 (by decide) (by decide), hS _ (by omega)]
    exact h7
  · rw [hS _ (by omega)]
    exact h8
  · rw [hK 3 (by decide) (by decide)]
    exact h9
  · rw [hS _ (by omega), hS _ (by omega), hK (rwG t) (by unfold rwG; omega) (by unfold rwG; omega)]
    exact h10 i hi
theorem XT.mono2 {K K' : Mem} {q q' : Nat} {S S' : Nat → Int32} (h : XT K q S) (h13 : K' q' 13 = K q 13) (h6 : ∀ k, k < 3 → K' (q' + 6) k = K (q + 6) k) (hK : ∀ a, 3 ≤ a → a < 20 → K' a = K a) (hS : ∀ i, i < 2858 → S' i = S i) : XT K' q' S' := by
  obtain ⟨tn, a1, a2, a3, a4, a5⟩ := h
  refine ⟨tn, a1, (hS 1 (by decide)).trans a2, h13.trans a3, fun k hk => ?_, fun t ht => ?_⟩
  · rw [h6 k hk, a4 k hk]
    exact (lastT_ext tn (fun t ht => hS _ (by omega))).symm
  · obtain ⟨key, m, p, e⟩ := a5 t ht
    exact ⟨key, m, p, e.mono2 (by omega) hK hS⟩
theorem TR.ext {K : Mem} {q : Nat} {S S' : Nat → Int32} (h : TR K q S) (hS : ∀ i, i < 58 → S' i = S i) : TR K q S' := by
  refine ⟨fun c hc => ?_, fun c hc => ?_, fun c hc => ?_, fun c hc => ?_, fun c hc => ?_, ?_, ?_, ?_, ?_, ?_, ?_⟩
  · rw [hS _ (by omega)]
    exact h.kd hc
  · rw [hS _ (by omega)]
    exact h.ga hc
  · rw [hS _ (by omega)]
    exact h.we hc
  · rw [hS _ (by omega)]
    exact h.lo hc
  · rw [hS _ (by omega)]
    exact h.ru hc
  · rw [hS _ (by omega)]
    exact h.nn
  · rw [hS _ (by omega)]
    exact h.wa
  · rw [hS _ (by omega)]
    exact h.rn
  · rw [hS _ (by omega)]
    exact h.me
  · rw [hS _ (by omega)]
    exact h.ni
  · rw [hS _ (by omega)]
    exact h.zz
theorem Inv.ext {S S' : Nat → Int32} {n : Nat} (h : Inv S n) (hS : ∀ i, i < 58 → S' i = S i) : Inv S' n := by
  have h12 := h.n12
  refine ⟨h.1, ?_, fun c hc => ?_, fun c hc => ?_, fun c hc => ?_⟩
  · rw [hS _ (by omega)]
    exact h.s0
  · rw [hS _ (by omega)]
    exact h.kd hc
  · rw [hS _ (by omega)]
    exact h.we hc
  · rw [hS _ (by omega)]
    exact h.lo hc
theorem aside_loop {q1 q2 : Nat} (hq : q1 ≠ q2) : ∀ (r i : Nat) (R : Mem), i + r = 2858 → ∀ f, r < f → ∃ R', L_X9_setAside_2 q1 q2 f (nI i) R = some R' ∧ (∀ a, a ≠ q2 → R' a = R a) ∧ (∀ j, j < i ∨ 2858 ≤ j → R' q2 j = R q2 j) ∧ ∀ j, i ≤ j → j < 2858 → R' q2 j = R q1 j
  | 0, i, R, hi, f, hf => by
    obtain ⟨g, rfl⟩ : ∃ g, f = g + 1 := ⟨f - 1, by omega⟩
    exact ⟨R, if_pos (jle (a := 2858) (by omega) (by omega)), fun _ _ => rfl, fun _ _ => rfl, fun j h1 h2 => by omega⟩
  | r + 1, i, R, hi, f, hf => by
    obtain ⟨g, rfl⟩ : ∃ g, f = g + 1 := ⟨f - 1, by omega⟩
    obtain ⟨R', e, h1, h2, h3⟩ := aside_loop hq r (i + 1) (up R q2 i (R q1 i)) (by omega) g (by omega)
    refine ⟨R', ?_, fun a ha => by rw [h1 a ha, u_ne ha], fun j hj => by rw [h2 j (by omega), u_oth (by omega)], fun j hj1 hj2 => ?_⟩
    · refine (if_neg (jnle (a := 2858) (by omega) (by omega))).trans ?_
      rw [inb_t (by omega) (by omega), gd_t, gd_t, tn_nI (by omega), nm_eq, nm_eq, show (1 : Int32) = nI 1 from rfl, jn_add]
      exact e
    · by_cases e : j = i
      · subst e
        rw [h2 j (by omega), u_at]
      · rw [h3 j (by omega) hj2, u_ne hq]
theorem e_aside {q1 q2 : Nat} (hq : q1 ≠ q2) (R : Mem) : ∃ R', C_X9_setAside q1 q2 R = some R' ∧ (∀ a, a ≠ q2 → R' a = R a) ∧ (∀ j, 2858 ≤ j → R' q2 j = R q2 j) ∧ ∀ j, j < 2858 → R' q2 j = R q1 j := by
  have hF := FU_big
  obtain ⟨R', e, h1, h2, h3⟩ := aside_loop hq 2858 0 R (by omega) FU (by omega)
  exact ⟨R', e, h1, fun j hj => h2 j (Or.inr hj), fun j hj => h3 j (Nat.zero_le _) hj⟩
theorem s_keep : Sim0 Rel A8_keep A9_keep := by
  intro K R h
  obtain ⟨n, ht⟩ := h.now
  obtain ⟨K1, c1, c2, c3, c4, c5, c6⟩ := e_become (K := K) (q := 28) (q1 := 21) (by omega)
  obtain ⟨R1, r1, r2, r3, r4⟩ := e_aside (q1 := 1) (q2 := 2) (by decide) (up R 0 3 1)
  have hS : ∀ j, j < 2858 → R1 2 j = R 1 j := fun j hj => by rw [r4 j hj, u_ne (by decide)]
  have r11 : R1 1 = R 1 := by rw [r2 1 (by decide), u_ne (by decide)]
  have fR : ∀ a, a ≠ 0 → a ≠ 2 → R1 a = R a := fun a h1 h2 => by rw [r2 a h2, u_ne h1]
  have r0 : ∀ i, i ≠ 3 → R1 0 i = R 0 i := fun i hi => by rw [r2 0 (by decide), u_oth hi]
  have fK : ∀ a, a ≠ 0 → (a < 28 ∨ 34 < a) → up K1 0 11 1 a = K a := fun a h1 h2 => by rw [u_ne h1, c2 a (by omega)]
  unfold A8_keep A9_keep C_X8_keep F_X8_keep_0 C_X9_keep F_X9_keep_0
  rw [c1, bd_s, nm_eq, nm_eq, r1, bd_s, show inb 0 3058 = true from by decide, gd_t, show Int32.toNatClampNeg 0 = 0 from by decide, u_ne (a := 28) (by decide), c6, r11, ht.1.nn]
  have e3 : R1 0 3 = 1 := by rw [r2 0 (by decide), u_at]
  obtain ⟨tn, x1, x2, _⟩ := h.xt
  refine ⟨_, _, _, rfl, rfl, ⟨n, ?_, ?_⟩, ?_, ?_, ⟨?_, Or.inr ⟨e3, ?_, ⟨n, ?_⟩, ?_, ?_, ?_⟩⟩, fun k hk => ?_, fun k hk => ?_, ?_, ?_⟩
  · rw [r11]
    exact ht.1.same (fun a h1 h2 => fK a (by omega) (by omega))
  · rw [r11]
    exact ht.2
  · rw [r11]
    exact h.nights
  · rw [r11]
    exact h.xt.mono2 (by rw [fK 21 (by decide) (by decide)]) (fun k hk => by rw [fK (21 + 6) (by decide) (by decide)]) (fun a h1 h2 => fK a (by omega) (by omega)) (fun _ _ => rfl)
  · rw [u_at, e3]
  · exact ((c3 _ ht.1).same (fun a h1 h2 => u_ne (by omega))).ext (fun i hi => hS i (by omega))
  · exact ht.2.ext (fun i hi => hS i (by omega))
  · exact h.xt.mono2 (by rw [u_ne (by decide), c4]) (fun k hk => by rw [u_ne (by decide), c5 k hk]) (fun a h1 h2 => fK a (by omega) (by omega)) hS
  · rw [hS 2 (by decide)]
    exact h.nights
  · exact ⟨tn, tn, Nat.le_refl _, x1, by rw [hS 1 (by decide)]; exact x2, by rw [r11]; exact x2⟩
  · exact (h.sheets k hk).same (fK _ (by omega) (by omega)) (fK _ (by omega) (by omega)) (by rw [fR 4 (by decide) (by decide)]) (by rw [fR 5 (by decide) (by decide)]) (fun p hp => by rw [fR 6 (by decide) (by decide)])
  · exact (h.slots k hk).same (fK _ (by omega) (by omega)) (fK _ (by omega) (by omega)) (fK _ (by omega) (by omega)) (by rw [fR 7 (by decide) (by decide)]) (by rw [fR 8 (by decide) (by decide)]) (by rw [fR 9 (by decide) (by decide)]) (by rw [fR 10 (by decide) (by decide)]) (fun p hp => by rw [fR 11 (by decide) (by decide)])
  · exact h.waiting.same (by rw [u_oth (by decide), c2 0 (by decide)]) (r0 31 (by decide)) (fK 75 (by decide) (by decide)) (fR 19 (by decide) (by decide))
  · exact h.tape.same (fK 46 (by decide) (by decide)) (r0 16 (by decide)) (fK 47 (by decide) (by decide)) (fR 15 (by decide) (by decide))
