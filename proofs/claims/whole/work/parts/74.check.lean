/-! what was told is checked -/
def Spec (w : Nat) (W D : Nat → Int32) (L j : Nat) (v : Int32) : Prop := ∃ p, j ≤ p ∧ p ≤ L ∧ (∀ t, j ≤ t → t < p → t < w ∧ W t = D t) ∧ ((p = L ∧ v = if w = L then nI 0 else nI (1 + p)) ∨ (p < L ∧ (w ≤ p ∨ W p ≠ D p) ∧ v = nI (1 + p)))
theorem cmp_loop {w L : Nat} {D : Nat → Int32} {v : Int32} {R : Mem} (hw : w ≤ 60) (hL : L ≤ 60) (hD : ∀ t, R 20 t = D t) {p : Nat} (h2 : p ≤ L) (h4 : (p = L ∧ v = if w = L then nI 0 else nI (1 + p)) ∨ (p < L ∧ (w ≤ p ∨ R 19 p ≠ D p) ∧ v = nI (1 + p))) : ∀ (r t : Nat), t + r = p → (∀ s, t ≤ s → s < p → s < w ∧ R 19 s = D s) → ∀ f, r < f → L_X9_check_135 f (nI w) (nI L) (nI t) R = some (v, R)
  | 0, t, ht, hm, f, hf => by
    obtain ⟨g, rfl⟩ : ∃ g, f = g + 1 := ⟨f - 1, by omega⟩
    obtain rfl : t = p := by omega
    have one : (1 : Int32) + nI t = nI (1 + t) := jn_add 1 t
    show F_X9_check_135 _ _ _ _ _ = _
    unfold F_X9_check_135 F_X9_check_170
    rcases h4 with ⟨rfl, hv⟩ | ⟨hlt, hmm, hv⟩
    · by_cases q : w = t
      · subst q
        rw [if_pos (jle (Nat.le_refl _) (by omega)), if_pos rfl, if_pos rfl, hv, if_pos rfl]
        rfl
      · have q2 : ¬ nI t = nI w := jne (fun e => q e.symm) (by omega) (by omega)
        rw [hv, if_neg q, if_pos (jle (a := t) (b := t) (Nat.le_refl _) (by omega)), if_neg q2, one]
        split <;> rfl
    · have q3 : ¬ nI L ≤ nI t := jnle (by omega) (by omega)
      have q4 : ¬ nI t = nI L := jne (by omega) (by omega) (by omega)
      rw [if_neg q3, if_neg q4, one, hv]
      by_cases q : w ≤ t
      · rw [if_pos (jle q (by omega))]
        split <;> rfl
      · rw [if_neg (jnle (by omega) (by omega)), inb_t (by omega) (by omega), gd_t, gd_t, tn_nI (by omega), hD, if_neg (hmm.resolve_left q)]
        split <;> rfl
  | r + 1, t, ht, hm, f, hf => by
    obtain ⟨g, rfl⟩ : ∃ g, f = g + 1 := ⟨f - 1, by omega⟩
    obtain ⟨m1, m2⟩ := hm t (Nat.le_refl _) (by omega)
    show F_X9_check_135 _ _ _ _ _ = _
    unfold F_X9_check_135
    rw [if_neg (jnle (by omega) (by omega)), if_neg (jnle (by omega) (by omega)), inb_t (by omega) (by omega), gd_t, gd_t, tn_nI (by omega), hD, if_pos m2, nm_eq, show (1 : Int32) = nI 1 from rfl, jn_add]
    exact cmp_loop hw hL hD h2 h4 r (t + 1) (by omega) (fun s h1 h2 => hm s (by omega) h2) g (by omega)
theorem isWait_e {K : Mem} {i w : Nat} {v : Int32} (hi : i < 60) (hw : w ≤ 60) : C_X8_isWaiting K (nI i) (nI w) v = some (if i < w ∧ K 75 i = v then nI 1 else nI 0) := by
  unfold C_X8_isWaiting F_X8_isWaiting_0
  by_cases q : w ≤ i
  · rw [if_pos (jle q (by omega)), if_neg (fun e => by omega)]
    rfl
  · rw [if_neg (jnle (by omega) (by omega)), if_neg (show ¬ (60 : Int32) ≤ nI i from jnle (a := 60) (by omega) (by omega)), inb_t (by omega) (by omega), gd_t, tn_nI (by omega)]
    by_cases e : K 75 i = v
    · rw [if_pos e, if_pos ⟨by omega, e⟩]
      rfl
    · rw [if_neg e, if_neg (fun q => e q.2)]
      rfl
theorem due_run {a w : Nat} {W : Nat → Int32} (ha : a ≤ 30) (hw : w ≤ 60) : ∀ (r k : Nat) (K R : Mem) (n : Nat), k + r = a → TS K 35 R n → XT K 35 (R 1) → K 75 = W → ∀ f1 f2, r < f1 → r < f2 → ∃ L R' v K', L_X9_check_64 f2 (nI a) (nI w) (nI (2 * k)) (nI k) R = bd (C_X9_setAside 3 1 R') (fun K => L_X9_check_135 FU (nI w) (nI L) 0 K) ∧ L_X8_check_50 f1 (nI a) (nI w) (nI (2 * k)) (nI k) K = some (v, K') ∧ 2 * k ≤ L ∧ L ≤ 2 * a ∧ (∀ t, t < 2 * k → R' 20 t = R 20 t) ∧ (∀ b, ¬ (b = 1 ∨ b = 12 ∨ b = 16 ∨ b = 17 ∨ b = 20) → R' b = R b) ∧ (∀ i, i = 1 ∨ 58 ≤ i → R' 1 i = R 1 i) ∧ (∀ b, ¬ (b = 1 ∨ b = 20 ∨ (35 ≤ b ∧ b ≤ 41)) → K' b = K b) ∧ Spec w W (R' 20) L (2 * k) v
  | 0, k, K, R, n, hk, ht, hX, hW, f1, f2, hf1, hf2 => by
    obtain ⟨g1, rfl⟩ : ∃ g, f1 = g + 1 := ⟨f1 - 1, by omega⟩
    obtain ⟨g2, rfl⟩ : ∃ g, f2 = g + 1 := ⟨f2 - 1, by omega⟩
    have hle : nI a ≤ nI k := jle (by omega) (by omega)
    have one : (1 : Int32) + nI (2 * k) = nI (1 + 2 * k) := jn_add 1 (2 * k)
    refine ⟨2 * k, R, if w = 2 * k then nI 0 else nI (1 + 2 * k), K, if_pos hle, ?_, Nat.le_refl _, by omega, fun _ _ => rfl, fun _ _ => rfl, fun _ _ => rfl, fun _ _ => rfl, 2 * k, Nat.le_refl _, Nat.le_refl _, fun t h1 h2 => by omega, Or.inl ⟨rfl, rfl⟩⟩
    refine (if_pos hle).trans ?_
    by_cases q : w = 2 * k
    · rw [if_pos (by rw [q]), if_pos q]
      rfl
    · rw [if_neg (jne q (by omega) (by omega)), if_neg q, one]
  | r + 1, k, K, R, n, hk, ht, hX, hW, f1, f2, hf1, hf2 => by
    obtain ⟨g1, rfl⟩ : ∃ g, f1 = g + 1 := ⟨f1 - 1, by omega⟩
    obtain ⟨g2, rfl⟩ : ∃ g, f2 = g + 1 := ⟨f2 - 1, by omega⟩
    have hlt : ¬ nI a ≤ nI k := jnle (by omega) (by omega)
    have one : (1 : Int32) + nI (2 * k) = nI (1 + 2 * k) := jn_add 1 (2 * k)
    have hni : K 35 11 = R 1 2 := ht.1.ni
    by_cases q9 : (9999 : Int32) ≤ R 1 2
    · refine ⟨2 * k, R, if w = 2 * k then nI 0 else nI (1 + 2 * k), K, ?_, ?_, Nat.le_refl _, by omega, fun _ _ => rfl, fun _ _ => rfl, fun _ _ => rfl, fun _ _ => rfl, 2 * k, Nat.le_refl _, Nat.le_refl _, fun t h1 h2 => by omega, Or.inl ⟨rfl, rfl⟩⟩
      · refine (if_neg hlt).trans ?_
        rw [show inb 2 3058 = true from by decide, gd_t, show Int32.toNatClampNeg 2 = 2 from by decide, if_pos q9]
      · refine (if_neg hlt).trans ?_
        rw [hni, if_pos q9]
        by_cases q : w = 2 * k
        · rw [if_pos (by rw [q]), if_pos q]
          rfl
        · rw [if_neg (jne q (by omega) (by omega)), if_neg q, one]
    · obtain ⟨K1, R1, n1, c1, r1, x1⟩ := nx_night (q := 35) (by omega) ht hX
      have hl := e_lostLoops x1.1
      let R2 : Mem := up (up R1 20 (2 * k) (R1 1 7)) 20 (2 * k + 1) (nI (lostN (lf (R1 1)) n1))
      have e21 : R2 1 = R1 1 := rfl
      have t2 : TS K1 35 R2 n1 := x1.1
      have xt1 : XT K1 35 (R1 1) := hX.fr (by omega) x1.2.2.1 x1.2.2.2.1
      have xt2 : XT K1 35 (R2 1) := xt1
      have w1 : K1 75 = W := by rw [x1.2.2.1.1 75 (by omega), hW]
      obtain ⟨L, R', v, K', m1, m2, m3, m4, m5, m6, m7, m8, m9⟩ := due_run ha hw r (k + 1) K1 R2 n1 (by omega) t2 xt2 w1 g1 g2 (by omega) (by omega)
      have hmodel : L_X9_check_64 (g2 + 1) (nI a) (nI w) (nI (2 * k)) (nI k) R = bd (C_X9_setAside 3 1 R') (fun K => L_X9_check_135 FU (nI w) (nI L) 0 K) := by
        refine (if_neg hlt).trans ?_
        have hall : C_X9_lostOfAll (up R1 20 (2 * k) (R1 1 7)) = some (nI (lostN (lf (R1 1)) n1)) := e_lostOfAll (R := up R1 20 (2 * k) (R1 1 7)) x1.1.2
        rw [show inb 2 3058 = true from by decide, gd_t, show Int32.toNatClampNeg 2 = 2 from by decide, if_neg q9, r1, bd_s, show inb 7 3058 = true from by decide, gd_t, show Int32.toNatClampNeg 7 = 7 from by decide, inb_t (by omega) (by omega), gd_t, tn_nI (by omega), nm_eq, hall, bd_s, show (1 : Int32) = nI 1 from rfl, jn_add, inb_t (by omega) (by omega), gd_t, tn_nI (by omega), nm_eq, show (2 : Int32) = nI 2 from rfl, jn_add, nm_eq, jn_add, nm_eq]
        exact m1
      have fr : (∀ t, t < 2 * k → R' 20 t = R 20 t) ∧ (∀ b, ¬ (b = 1 ∨ b = 12 ∨ b = 16 ∨ b = 17 ∨ b = 20) → R' b = R b) ∧ (∀ i, i = 1 ∨ 58 ≤ i → R' 1 i = R 1 i) := by
        refine ⟨fun t ht2 => ?_, fun b hb => ?_, fun i hi => ?_⟩
        · rw [m5 t (by omega)]
          show up (up R1 20 _ _) 20 _ _ 20 t = _
          rw [u_oth (by omega), u_oth (by omega), x1.2.2.2.1.1 20 (by omega)]
        · rw [m6 b hb]
          show up (up R1 20 _ _) 20 _ _ b = _
          rw [u_ne (by omega), u_ne (by omega), x1.2.2.2.1.1 b (by omega)]
        · rw [m7 i hi, e21]
          exact x1.2.2.2.1.2 i hi
      have d0 : R' 20 (2 * k) = R1 1 7 := by
        rw [m5 _ (by omega)]
        show up (up R1 20 _ _) 20 _ _ 20 _ = _
        rw [u_oth (by omega), u_at]
      have d1 : R' 20 (2 * k + 1) = nI (lostN (lf (R1 1)) n1) := by
        rw [m5 _ (by omega)]
        show up (up R1 20 _ _) 20 _ _ 20 _ = _
        rw [u_at]
      have fk : ∀ b, ¬ (b = 1 ∨ b = 20 ∨ (35 ≤ b ∧ b ≤ 41)) → K1 b = K b := fun b hb => x1.2.2.1.1 b (by omega)
      have hrn : K1 35 9 = R1 1 7 := x1.1.1.rn
      have cls : ∀ X, (if 2 * k < w ∧ W (2 * k) = R1 1 7 then (if 2 * k + 1 < w ∧ W (2 * k + 1) = nI (lostN (lf (R1 1)) n1) then L_X8_check_50 g1 (nI a) (nI w) (nI (2 * k + 2)) (nI (k + 1)) K1 else some (nI (1 + (2 * k + 1)), K1)) else some (nI (1 + 2 * k), K1)) = X → L_X8_check_50 (g1 + 1) (nI a) (nI w) (nI (2 * k)) (nI k) K = X := by
        intro X hx
        refine (if_neg hlt).trans ?_
        rw [hni, if_neg q9, c1, bd_s, hrn, isWait_e (by omega) hw, w1, bd_s]
        by_cases qa : 2 * k < w ∧ W (2 * k) = R1 1 7
        · rw [if_pos qa] at hx
          rw [if_pos qa, if_neg n10, show (1 : Int32) = nI 1 from rfl, jn_add, nm_eq, hl, bd_s, isWait_e (by omega) hw, w1, bd_s]
          by_cases qb : 2 * k + 1 < w ∧ W (2 * k + 1) = nI (lostN (lf (R1 1)) n1)
          · rw [if_pos qb] at hx
            rw [if_pos qb, if_neg n10, jn_add, nm_eq, jn_add, nm_eq]
            exact hx
          · rw [if_neg qb] at hx
            rw [if_neg qb, if_pos z00, jn_add]
            exact hx
        · rw [if_neg qa] at hx
          rw [if_neg qa, if_pos z00, one]
          exact hx
      by_cases qa : 2 * k < w ∧ W (2 * k) = R1 1 7
      · by_cases qb : 2 * k + 1 < w ∧ W (2 * k + 1) = nI (lostN (lf (R1 1)) n1)
        · refine ⟨L, R', v, K', hmodel, cls _ (by rw [if_pos qa, if_pos qb]; exact m2), by omega, m4, fr.1, fr.2.1, fr.2.2, fun b hb => (m8 b hb).trans (fk b hb), ?_⟩
          obtain ⟨p, p1, p2, p3, p4⟩ := m9
          refine ⟨p, by omega, p2, fun t h1 h2 => ?_, p4⟩
          by_cases e0 : t = 2 * k
          · subst e0
            exact ⟨qa.1, by rw [qa.2, d0]⟩
          · by_cases e1 : t = 2 * k + 1
            · subst e1
              exact ⟨qb.1, by rw [qb.2, d1]⟩
            · exact p3 t (by omega) h2
        · refine ⟨L, R', _, K1, hmodel, cls _ (by rw [if_pos qa, if_neg qb]), by omega, m4, fr.1, fr.2.1, fr.2.2, fk, 2 * k + 1, by omega, by omega, fun t h1 h2 => ?_, Or.inr ⟨by omega, ?_, rfl⟩⟩
          · obtain rfl : t = 2 * k := by omega
            exact ⟨qa.1, by rw [qa.2, d0]⟩
          · by_cases qw : w ≤ 2 * k + 1
            · exact Or.inl qw
            · exact Or.inr (fun e => qb ⟨by omega, by rw [e, d1]⟩)
      · refine ⟨L, R', _, K1, hmodel, cls _ (by rw [if_neg qa]), by omega, m4, fr.1, fr.2.1, fr.2.2, fk, 2 * k, by omega, by omega, fun t h1 h2 => by omega, Or.inr ⟨by omega, ?_, rfl⟩⟩
        by_cases qw : w ≤ 2 * k
        · exact Or.inl qw
        · exact Or.inr (fun e => qa ⟨by omega, by rw [e, d0]⟩)
/-- the waiting numbers gone -/
theorem Rel.nowait {K R : Mem} (h : Rel K R) : Rel (up K 0 10 0) (up R 0 31 0) := by
  refine h.other (fun a h1 h2 => u_ne (by omega)) (u_oth (by decide)) (u_ne (by decide)) (u_ne (by decide)) (u_oth (by decide)) (fun k hk => (h.sheets k hk).same (u_ne (by omega)) (u_ne (by omega)) (by rw [u_ne (by decide)]) (by rw [u_ne (by decide)]) (fun p hp => by rw [u_ne (by decide)])) (fun k hk => (h.slots k hk).same (u_ne (by omega)) (u_ne (by omega)) (u_ne (by omega)) (by rw [u_ne (by decide)]) (by rw [u_ne (by decide)]) (by rw [u_ne (by decide)]) (by rw [u_ne (by decide)]) (fun p hp => by rw [u_ne (by decide)])) ⟨0, by omega, u_at, u_at, fun i hi => absurd hi (Nat.not_lt_zero _)⟩ (h.tape.same (u_ne (by decide)) (u_oth (by decide)) (u_ne (by decide)) (u_ne (by decide)))
theorem s_check : Sim1 Rel A8_check A9_check := by
  intro a K R h
  have hF := FU_big
  obtain ⟨w, hw, w1, w2, w3⟩ := h.waiting
  have h0 := h.nowait
  unfold A8_check A9_check C_X8_check F_X8_check_0 C_X9_check F_X9_check_0
  rw [w1, w2, nm_eq, nm_eq, nm_eq, nm_eq, wide_lit 1 (by decide), wide_lit 30 (by decide)]
  have k75 : up K 0 10 0 75 = K 75 := u_ne (by decide)
  have r19 : up R 0 31 0 19 = R 19 := u_ne (by decide)
  generalize up K 0 10 0 = K2 at h0 k75
  generalize up R 0 31 0 = R2 at h0 r19
  rcases btw_e a (lo := 1) (hi := 30) (by decide) (by decide) with ⟨m, h1, hm, rfl, d1, d2, d3, d4, d5, d6, e⟩ | ⟨hx, e⟩
  · rw [e, bd_s, if_neg n10, if_neg (show ¬ nI m < 1 from d1), if_pos (show nI m ≤ 30 from d5), h0.img.1]
    rcases h0.img.2 with e0 | ⟨e1, a1, ⟨n, a2⟩, a3, a4, b1, b2, b3, b4, b5, b6⟩
    · have e : R2 0 3 = 0 := e0
      rw [if_pos e, if_pos e]
      exact ⟨_, _, _, rfl, rfl, h0⟩
    · have e : ¬ R2 0 3 = 0 := by
        rw [e1]
        exact n10
      obtain ⟨K7, c1, c2, c3, c4, c5, c6⟩ := e_become (K := K2) (q := 35) (q1 := 28) (by omega)
      obtain ⟨RA, x1, x2, x3, x4⟩ := e_aside (q1 := 1) (q2 := 3) (by decide) R2
      obtain ⟨RB, y1, y2, y3, y4⟩ := e_aside (q1 := 2) (q2 := 1) (by decide) RA
      have hS : ∀ j, j < 2858 → RB 1 j = R2 2 j := fun j hj => by rw [y4 j hj, x2 2 (by decide)]
      have ts : TS K7 35 RB n := ⟨(c3 _ a1).ext (fun i hi => hS i (by omega)), a2.ext (fun i hi => hS i (by omega))⟩
      have xt : XT K7 35 (RB 1) := a3.mono2 c4 (fun k hk => c5 k hk) (fun a q1 q2 => c2 a (by omega)) hS
      have w7 : K7 75 = K 75 := by rw [c2 75 (by omega), k75]
      obtain ⟨L, R', v, K', m1, m2, m3, m4, m5, m6, m7, m8, m9⟩ := due_run (w := w) hm hw m 0 K7 RB n (by omega) ts xt w7 FU FU (by omega) (by omega)
      obtain ⟨RC, z1, z2, z3, z4⟩ := e_aside (q1 := 3) (q2 := 1) (by decide) R'
      have rc1 : RC 1 = R2 1 := by
        funext j
        by_cases hj : j < 2858
        · rw [z4 j hj, m6 3 (by decide), y2 3 (by decide), x4 j hj]
        · rw [z3 j (by omega), m7 j (Or.inr (by omega)), y3 j (by omega), x2 1 (by decide)]
      have rc : ∀ b, ¬ (b = 1 ∨ b = 3 ∨ b = 12 ∨ b = 16 ∨ b = 17 ∨ b = 20) → RC b = R2 b := fun b hb => by rw [z2 b (by omega), m6 b (by omega), y2 b (by omega), x2 b (by omega)]
      have rc19 : RC 19 = R 19 := by rw [rc 19 (by decide), r19]
      obtain ⟨p, p1, p2, p3, p4⟩ := m9
      have hcmp := cmp_loop (w := w) (L := L) (D := R' 20) (v := v) (R := RC) hw (by omega) (fun t => by rw [z2 20 (by decide)]) (p := p) p2 (by
        rcases p4 with q | ⟨q1, q2, q3⟩
        · exact Or.inl q
        · refine Or.inr ⟨q1, ?_, q3⟩
          by_cases qw : w ≤ p
          · exact Or.inl qw
          · refine Or.inr ?_
            rw [rc19, ← w3 p (by omega)]
            exact q2.resolve_left qw) p 0 (by omega) (fun s h1 h2 => by
        obtain ⟨s1, s2⟩ := p3 s (by omega) h2
        refine ⟨s1, ?_⟩
        rw [rc19, ← w3 s s1]
        exact s2) FU (by omega)
      have m1' : L_X9_check_64 FU (nI m) (nI w) 0 0 RB = some (v, RC) := by
        refine m1.trans ?_
        rw [z1, bd_s]
        exact hcmp
      have m2' : L_X8_check_50 FU (nI m) (nI w) 0 0 K7 = some (v, K') := m2
      rw [if_neg e, if_neg e, c1, bd_s, x1, bd_s, y1, bd_s, m1', m2']
      refine ⟨_, _, _, rfl, rfl, h0.quiet ⟨fun a ha => ?_, ?_⟩ (fun a q1 q2 => ?_) ⟨fun a ha => rc a (by omega), fun i _ => by rw [rc1]⟩ rc1⟩
      · rw [m8 a (by omega), c2 a (by omega)]
      · rw [m8 21 (by decide), c2 21 (by decide)]
      · rw [m8 a (by omega), c2 a (by omega)]
  · rw [e, bd_s, if_pos z00]
    rcases hx with hx | ⟨hx1, hx2, hx3⟩
    · rw [if_pos (show a < 1 from hx)]
      exact ⟨_, _, _, rfl, rfl, h0⟩
    · rw [if_neg (show ¬ a < 1 from hx1), if_neg (show ¬ a ≤ 30 from Int32.not_le.mpr hx2)]
      exact ⟨_, _, _, rfl, rfl, h0⟩
