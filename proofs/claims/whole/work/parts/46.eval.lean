/-! both sides work a TEXT out to the same -/
def EvI (p : Nat → Nat × Nat) (K0 R0 K R : Mem) (i : Nat) : Prop := (∀ a, a ≠ 1 → a ≠ 20 → K a = K0 a) ∧ (∀ j, j ≠ 5 → K 1 j = K0 1 j) ∧ (∀ a, a ≠ 17 → R a = R0 a) ∧ K 1 5 = nI (dep p i) ∧ ∀ j, j < dep p i → K 20 j = R 17 j
theorem EvI.put {p : Nat → Nat × Nat} {K0 R0 K R : Mem} {i d : Nat} {x : Int32} (h : EvI p K0 R0 K R i) (hd : d ≤ dep p i) (h1 : dep p (i + 1) = d + 1) {K' : Mem} (hK : ∀ a, a ≠ 1 → a ≠ 20 → K' a = K a) (hK1 : ∀ j, j ≠ 5 → K' 1 j = K 1 j) (hd' : K' 1 5 = nI (d + 1)) (h20 : ∀ j, K' 20 j = if j = d then x else K 20 j) : EvI p K0 R0 K' (up R 17 d x) (i + 1) := by
  obtain ⟨a1, a2, a3, a4, a5⟩ := h
  refine ⟨fun a q1 q2 => (hK a q1 q2).trans (a1 a q1 q2), fun j hj => (hK1 j hj).trans (a2 j hj), fun a ha => ?_, ?_, fun j hj => ?_⟩
  · rw [u_ne ha]
    exact a3 a ha
  · rw [h1]
    exact hd'
  · rw [h20]
    by_cases e : j = d
    · subst e
      rw [if_pos rfl, u_at]
    · rw [if_neg e, u_oth e]
      exact a5 j (by omega)
theorem ev_loop {q t c key m : Nat} {p : Nat → Nat × Nat} {K0 R0 : Mem} {vv : Nat → Int32} (ht : t < 14) (hT : TextP K0 (R0 1) t key m p) (hn : ∀ L, names key L → ∀ K : Mem, (∀ a, a ≠ 1 → a ≠ 20 → K a = K0 a) → (∀ j, j ≠ 5 → K 1 j = K0 1 j) → C_X5_named q K (nI L) (nI c) = some (vv L)) (hv : ∀ L, names key L → R0 16 L = vv L) :
    ∀ (r i : Nat) (K R : Mem), i + r = m → EvI p K0 R0 K R i → ∀ f1 f2 : Nat, r < f1 → r < f2 →
      ∃ (v : Int32) (K' R' : Mem), L_X5_gives_28 q f1 (rwG t) (nI t) (nI c) (nI i) K = some (v, K') ∧ L_X9_worked_4 f2 (nI t) (nI (dep p i)) (nI i) R = some (v, R') ∧ (∀ a, a ≠ 1 → a ≠ 20 → K' a = K0 a) ∧ (∀ j, j ≠ 5 → K' 1 j = K0 1 j) ∧ (∀ a, a ≠ 17 → R' a = R0 a) := by
  obtain ⟨hkey, hm, hdm, hst, s1, s2, s3, s4, s5, hp⟩ := hT
  intro r
  induction r with
  | zero =>
    intro i K R hi hE f1 f2 h1 h2
    obtain ⟨hK, hK1, hR, hd, hs⟩ := hE
    obtain ⟨g1, rfl⟩ : ∃ g, f1 = g + 1 := ⟨f1 - 1, by omega⟩
    obtain ⟨g2, rfl⟩ : ∃ g, f2 = g + 1 := ⟨f2 - 1, by omega⟩
    have him : i = m := by omega
    subst him
    rw [hdm] at hd hs
    refine ⟨K 20 0, up K 1 5 (nI 0), R, g_end ht hm ?_ hd, ?_, fun a h1 h2 => by rw [u_ne h1]; exact hK a h1 h2, fun j hj => by rw [u_oth hj]; exact hK1 j hj, hR⟩
    · rw [hK 3 (by decide) (by decide)]
      exact s5
    · rw [hs 0 (by omega)]
      refine w_end ht hm ?_
      rw [hR 1 (by decide)]
      exact s4
  | succ r ih =>
    intro i K R hi hE f1 f2 h1 h2
    obtain ⟨g1, rfl⟩ : ∃ g, f1 = g + 1 := ⟨f1 - 1, by omega⟩
    obtain ⟨g2, rfl⟩ : ∃ g, f2 = g + 1 := ⟨f2 - 1, by omega⟩
    obtain ⟨hK, hK1, hR, hd, hs⟩ := id hE
    have him : i < m := by omega
    obtain ⟨p1, p2, p3⟩ := hp i him
    have hdl := dep_le p i
    have e3 : K 3 t = nI m := by rw [hK 3 (by decide) (by decide)]; exact s5
    have erow : K (rwG t) i = if (p i).1 = 0 then nI (p i).2 else -nI (p i).2 := by
      rw [hK (rwG t) (by unfold rwG; omega) (by unfold rwG; omega)]
      exact p3
    have hR1 : R 1 = R0 1 := hR 1 (by decide)
    have q1 : R 1 (62 + 200 * t + 2 * i) = nI (p i).1 := by rw [hR1]; exact p1
    have q2 : R 1 (63 + 200 * t + 2 * i) = nI (p i).2 := by rw [hR1]; exact p2
    have q3 : R 1 (60 + 200 * t) = nI m := by rw [hR1]; exact s4
    rcases hst i him with ⟨k1, k2⟩ | ⟨k1, k2⟩ | ⟨k1, k2, k3⟩ | ⟨k1, k2, k3⟩
    · have hd1 : dep p (i + 1) = dep p i + 1 := if_neg (by omega)
      rw [if_pos k1] at erow
      rw [k1] at q1
      have hnext := hE.put (x := nI (p i).2) (Nat.le_refl _) hd1 (K' := up (up K 20 (dep p i) (nI (p i).2)) 1 5 (nI (dep p i + 1))) (fun a h1 h2 => by rw [u_ne h1, u_ne h2]) (fun j hj => by rw [u_oth hj, u_ne (by decide)]) (by rw [u_at]) (fun j => by rw [u_ne (by decide), u_if]; simp only [true_and])
      obtain ⟨v, K', R', r1, r2, r3⟩ := ih (i + 1) _ _ (by omega) hnext g1 g2 (by omega) (by omega)
      refine ⟨v, K', R', (g_num ht hm him e3 erow k2 hd (by omega)).trans r1, ?_, r3⟩
      rw [hd1] at r2
      exact (w_num ht hm him q3 q1 q2 (by omega)).trans r2
    · have hd1 : dep p (i + 1) = dep p i + 1 := if_neg (by omega)
      have hL : 97 ≤ (p i).2 ∧ (p i).2 ≤ 122 := by
        rcases k2 with ⟨e, -⟩ | ⟨e, -⟩ | ⟨e, -⟩ | ⟨e, -⟩ | ⟨e, -⟩ <;> omega
      rw [if_neg (by omega)] at erow
      rw [k1] at q1
      have hnext := hE.put (x := vv (p i).2) (Nat.le_refl _) hd1 (K' := up (up K 20 (dep p i) (vv (p i).2)) 1 5 (nI (dep p i + 1))) (fun a h1 h2 => by rw [u_ne h1, u_ne h2]) (fun j hj => by rw [u_oth hj, u_ne (by decide)]) (by rw [u_at]) (fun j => by rw [u_ne (by decide), u_if]; simp only [true_and])
      obtain ⟨v, K', R', r1, r2, r3⟩ := ih (i + 1) _ _ (by omega) hnext g1 g2 (by omega) (by omega)
      refine ⟨v, K', R', (g_name ht hm him e3 erow hL.1 hL.2 (hn _ k2 K hK hK1) hd (by omega)).trans r1, ?_, r3⟩
      rw [hd1] at r2
      have := w_name (R := R) (k := fun a1 a2 a3 K => L_X9_worked_4 g2 a1 a2 a3 K) (d := dep p i) ht hm him q3 q1 q2 (by omega) (by omega)
      rw [hR 16 (by decide), hv _ k2] at this
      exact this.trans r2
    · have hd1 : dep p (i + 1) = dep p i := by
        show (if (p i).1 = 2 then _ else _) = _
        rw [if_pos k1, if_pos k2]
      obtain ⟨d, hdd⟩ : ∃ d, dep p i = d + 1 := ⟨dep p i - 1, by omega⟩
      rw [if_neg (by omega), k2] at erow
      rw [k1] at q1
      rw [k2] at q2
      rw [hdd] at hd hs hd1 ⊢
      have hnext := hE.put (d := d) (x := if K 20 d = nI 0 then nI 1 else nI 0) (by omega) hd1 (K' := up (up (up K 1 5 (nI d)) 20 d (if K 20 d = nI 0 then nI 1 else nI 0)) 1 5 (nI (d + 1))) (fun a h1 h2 => by rw [u_ne h1, u_ne h2, u_ne h1]) (fun j hj => by rw [u_oth hj, u_ne (by decide), u_oth hj]) (by rw [u_at]) (fun j => by rw [u_ne (by decide), u_if, u_ne (by decide)]; simp only [true_and])
      obtain ⟨v, K', R', r1, r2, r3⟩ := ih (i + 1) _ _ (by omega) hnext g1 g2 (by omega) (by omega)
      refine ⟨v, K', R', (g_not ht hm him e3 erow hd (by omega)).trans r1, ?_, r3⟩
      rw [hd1, hs d (by omega)] at r2
      exact (w_not ht hm him q3 q1 q2 (by omega)).trans r2
    · have h33 : (p i).2 ≠ 33 := by rcases k2 with e | e | e | e | e | e | e | e | e <;> omega
      have hlt : 0 < (p i).2 ∧ (p i).2 < 1000 ∧ ((p i).2 < 97 ∨ 122 < (p i).2) := by rcases k2 with e | e | e | e | e | e | e | e | e <;> omega
      have hd1 : dep p (i + 1) = dep p i - 1 := by
        show (if (p i).1 = 2 then _ else _) = _
        rw [if_pos k1, if_neg h33]
      obtain ⟨d, hdd⟩ : ∃ d, dep p i = d + 2 := ⟨dep p i - 2, by omega⟩
      obtain ⟨x, hx1, hx2⟩ := e_joined k2 (K 20 d) (K 20 (d + 1))
      rw [if_neg (by omega)] at erow
      rw [k1] at q1
      have hd1' : dep p (i + 1) = d + 1 := by omega
      rw [hdd] at hd hs ⊢
      have hnext := hE.put (d := d) (x := x) (by omega) hd1' (K' := up (up (up (up K 1 5 (nI (d + 1))) 1 5 (nI d)) 20 d x) 1 5 (nI (d + 1))) (fun a h1 h2 => by rw [u_ne h1, u_ne h2, u_ne h1, u_ne h1]) (fun j hj => by rw [u_oth hj, u_ne (by decide), u_oth hj, u_oth hj]) (by rw [u_at]) (fun j => by rw [u_ne (by decide), u_if, u_ne (by decide), u_ne (by decide)]; simp only [true_and])
      obtain ⟨v, K', R', r1, r2, r3⟩ := ih (i + 1) _ _ (by omega) hnext g1 g2 (by omega) (by omega)
      refine ⟨v, K', R', (g_sign ht hm him e3 erow hlt.1 hlt.2.2 hlt.2.1 h33 hd (by omega) hx1).trans r1, ?_, r3⟩
      rw [hd1'] at r2
      rw [hs d (by omega), hs (d + 1) (by omega)] at hx2
      exact (w_sign ht hm him q3 q1 q2 hlt.2.1 h33 (by omega) hx2).trans r2
/-- a TEXT on both sides -/
theorem b_text {q t c key m : Nat} {p : Nat → Nat × Nat} {K R : Mem} {vv : Nat → Int32} (ht : t < 14) (hT : TextP K (R 1) t key m p) (hn : ∀ L, names key L → ∀ K2 : Mem, (∀ a, a ≠ 1 → a ≠ 20 → K2 a = K a) → (∀ j, j ≠ 5 → K2 1 j = K 1 j) → C_X5_named q K2 (nI L) (nI c) = some (vv L)) (hv : ∀ L, names key L → R 16 L = vv L) :
    ∃ (v : Int32) (K' R' : Mem), C_X5_gives q (nI t) (nI c) K = some (v, K') ∧ C_X9_worked (nI t) R = some (v, R') ∧ (∀ a, a ≠ 1 → a ≠ 20 → K' a = K a) ∧ (∀ j, j ≠ 5 → K' 1 j = K 1 j) ∧ (∀ a, a ≠ 17 → R' a = R a) := by
  have hm := hT.2.1
  have hF := FU_big
  obtain ⟨v, K', R', e1, e2, e3, e4, e5⟩ := ev_loop (q := q) (c := c) (K0 := K) (R0 := R) ht hT hn hv m 0 (up K 1 5 (nI 0)) R (by omega) ⟨fun a h1 h2 => u_ne h1, fun j hj => u_oth hj, fun a _ => rfl, by rw [u_at]; rfl, fun j hj => absurd hj (Nat.not_lt_zero _)⟩ FU FU (by omega) (by omega)
  refine ⟨v, K', R', ?_, e2, e3, e4, e5⟩
  unfold C_X5_gives F_X5_gives_0
  simp (disch := omega) only [nm_eq, gd_t, bd_s, bd2_s, lit, jn_add, pk_mul, inb_t, tn_nI, jn_lt, jn_le, jn_eq, Nat.not_lt_zero, ht, if_true, if_false]
  exact e1
