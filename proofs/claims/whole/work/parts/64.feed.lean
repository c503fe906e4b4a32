/-! the tape fed -/
def FdK (K K' : Mem) : Prop := ∀ a, a ≠ 46 → a ≠ 47 → K' a = K a
def FdR (R R' : Mem) : Prop := (∀ a, a ≠ 0 → a ≠ 15 → R' a = R a) ∧ ∀ i, i ≠ 16 → R' 0 i = R 0 i
def TpL (K R : Mem) (l : Nat) : Prop := R 0 16 = nI l ∧ K 46 1 = nI l ∧ ∀ i, i < l → K 47 i = R 15 i ∧ ∃ b, b < 256 ∧ R 15 i = nI b
theorem byte_bv (x : BitVec 32) {s : Nat} (hs : s ≤ 24) : (x >>> s) &&& 255#32 = (x.sshiftRight s) &&& 255#32 := by
  apply BitVec.eq_of_getLsbD_eq
  intro i hi
  rw [BitVec.getLsbD_and, BitVec.getLsbD_and, BitVec.getLsbD_ushiftRight, BitVec.getLsbD_sshiftRight]
  have h255 : ∀ i : Fin 32, 8 ≤ i.val → (255#32).getLsbD i.val = false := by decide
  by_cases h8 : i < 8
  · have h1 : ¬ 32 ≤ i := by omega
    have h2 : s + i < 32 := by omega
    simp [h1, h2]
  · have := h255 ⟨i, hi⟩ (by show 8 ≤ i; omega)
    rw [show (255#32).getLsbD i = false from this, Bool.and_false, Bool.and_false]
theorem byte_eq (x : Int32) {j : Nat} (hj : j < 4) : jushr x (nI (24 - 8 * j)) &&& 255 = jshr x (nI (24 - 8 * j)) &&& 255 := by
  apply Int32.toBitVec_inj.mp
  obtain rfl | rfl | rfl | rfl : j = 0 ∨ j = 1 ∨ j = 2 ∨ j = 3 := by omega
  · exact byte_bv x.toBitVec (s := 24) (by omega)
  · exact byte_bv x.toBitVec (s := 16) (by omega)
  · exact byte_bv x.toBitVec (s := 8) (by omega)
  · exact byte_bv x.toBitVec (s := 0) (by omega)
theorem feed4 {a b c x : Int32} {o : Nat} (ho : (o = 0 ∧ x = a) ∨ (o = 4 ∧ x = b) ∨ (o = 8 ∧ x = c)) : ∀ (r j : Nat) (K R : Mem) (l : Nat), j + r = 4 → l + r ≤ 96 → TpL K R l → ∀ f1 f2, r < f1 → ∃ K' R', L_X4_add_3 f1 x (nI 24 - nI (8 * j)) K = some K' ∧ L_X9_feed_18 (f2 + r) a b c (nI (o + j)) R = L_X9_feed_18 f2 a b c (nI (o + 4)) R' ∧ TpL K' R' (l + r) ∧ FdK K K' ∧ FdR R R'
  | 0, j, K, R, l, hj, hl, ht, f1, f2, hf1 => by
    obtain ⟨g1, rfl⟩ : ∃ g, f1 = g + 1 := ⟨f1 - 1, by omega⟩
    obtain rfl : j = 4 := by omega
    refine ⟨K, R, ?_, rfl, ht, fun _ _ _ => rfl, fun _ _ _ => rfl, fun _ _ => rfl⟩
    have hc : nI 24 - nI (8 * 4) < 0 := by decide
    show F_X4_add_3 _ _ _ _ = _
    unfold F_X4_add_3
    rw [if_pos hc]
  | r + 1, j, K, R, l, hj, hl, ht, f1, f2, hf1 => by
    obtain ⟨g1, rfl⟩ : ∃ g, f1 = g + 1 := ⟨f1 - 1, by omega⟩
    obtain ⟨t1, t2, t3⟩ := ht
    have hs : nI 24 - nI (8 * j) = nI (24 - 8 * j) := jn_sub (by omega)
    obtain ⟨y, hy, ey⟩ := pk_andE (jshr x (nI (24 - 8 * j))) (m := 255) 8 (by decide)
    have t' : TpL (up (up K 47 l (nI y)) 46 1 (nI (l + 1))) (up (up R 15 l (nI y)) 0 16 (nI (l + 1))) (l + 1) := by
      refine ⟨u_at, u_at, fun i hi => ?_⟩
      rw [u_ne (a := 47) (by decide), u_ne (a := 15) (by decide)]
      by_cases e : i = l
      · subst e
        rw [u_at, u_at]
        exact ⟨rfl, y, hy, rfl⟩
      · rw [u_oth e, u_oth e]
        exact t3 i (by omega)
    obtain ⟨K', R', c1, r1, tp, fk, fr⟩ := feed4 ho r (j + 1) _ _ (l + 1) (by omega) (by omega) t' g1 f2 (by omega)
    have hnext : nI (24 - 8 * j) + -8 = nI 24 - nI (8 * (j + 1)) := by
      obtain rfl | rfl | rfl | rfl : j = 0 ∨ j = 1 ∨ j = 2 ∨ j = 3 := by omega
      · decide
      · decide
      · decide
      · decide
    have k46 : up K 47 l (nI y) 46 = K 46 := u_ne (by decide)
    have r0 : up R 15 l (nI y) 0 = R 0 := u_ne (by decide)
    refine ⟨K', R', ?_, ?_, by rw [show l + (r + 1) = l + 1 + r by omega]; exact tp, fun a h1 h2 => ?_, fun a h1 h2 => ?_, fun i hi => ?_⟩
    · rw [hs]
      refine (if_neg (show ¬ nI (24 - 8 * j) < 0 from jnlt (b := 0) (by omega) (by omega))).trans ?_
      rw [t2, if_neg (show ¬ (96 : Int32) ≤ nI l from jnle (a := 96) (by omega) (by omega)), inb_t (by omega) (by omega), gd_t, tn_nI (by omega), byte_eq x (by omega), ey, nm_eq, k46, t2, show (1 : Int32) = nI 1 from rfl, jn_add, nm_eq, nm_eq, hnext]
      exact c1
    · refine Eq.trans ?_ r1
      rw [show f2 + (r + 1) = (f2 + r) + 1 by omega]
      have h12 : ¬ (12 : Int32) ≤ nI (o + j) := jnle (a := 12) (by omega) (by omega)
      have hrem : jrem (nI (o + j)) 4 = nI j := by
        rw [show (4 : Int32) = nI 4 from rfl, jrem_nat (by omega) (by omega) (by omega)]
        rcases ho with ⟨rfl, -⟩ | ⟨rfl, -⟩ | ⟨rfl, -⟩ <;> rw [show (_ : Nat) % 4 = j by omega]
      have h47 : ∀ t0, t0 = x → F_X9_feed_47 (fun a1 a2 a3 a4 K => L_X9_feed_18 (f2 + r) a1 a2 a3 a4 K) a b c (nI (o + j)) t0 R = L_X9_feed_18 (f2 + r) a b c (nI (o + (j + 1))) (up (up R 15 l (nI y)) 0 16 (nI (l + 1))) := by
        rintro t0 rfl
        unfold F_X9_feed_47
        rw [t1, inb_t (by omega) (by omega), gd_t, tn_nI (by omega), hrem, show (24 : Int32) = nI 24 from rfl, show (8 : Int32) = nI 8 from rfl, pk_mul, hs, ey, nm_eq, r0, t1, show (1 : Int32) = nI 1 from rfl, jn_add, nm_eq, nm_eq, jn_add]
        rfl
      show F_X9_feed_18 _ _ _ _ _ _ = _
      unfold F_X9_feed_18
      rw [if_neg h12]
      rcases ho with ⟨rfl, rfl⟩ | ⟨rfl, rfl⟩ | ⟨rfl, rfl⟩
      · rw [if_neg (show ¬ (4 : Int32) ≤ nI (0 + j) from jnle (a := 4) (by omega) (by omega))]
        exact h47 _ rfl
      · rw [if_pos (show (4 : Int32) ≤ nI (4 + j) from jle (a := 4) (by omega) (by omega)), if_neg (show ¬ (8 : Int32) ≤ nI (4 + j) from jnle (a := 8) (by omega) (by omega))]
        exact h47 _ rfl
      · rw [if_pos (show (4 : Int32) ≤ nI (8 + j) from jle (a := 4) (by omega) (by omega)), if_pos (show (8 : Int32) ≤ nI (8 + j) from jle (a := 8) (by omega) (by omega))]
        exact h47 _ rfl
    · rw [fk a h1 h2, u_ne h1, u_ne h2]
    · rw [fr.1 a h1 h2, u_ne h1, u_ne h2]
    · rw [fr.2 i hi, u_oth hi, r0]
theorem s_feed : Sim3 Rel A8_feed A9_feed := by
  intro a b c K R h
  have hF := FU_big
  obtain ⟨l, hl, e1, e2, e3⟩ := h.tape
  unfold A8_feed A9_feed C_X8_feed F_X8_feed_0 C_X9_feed F_X9_feed_0 C_X4_add F_X4_add_0
  rw [e1, e2, show (12 : Int32) = nI 12 from rfl, jn_add, show (96 : Int32) = nI 96 from rfl]
  by_cases q : l + 12 ≤ 96
  · obtain ⟨G, hG⟩ : ∃ G, FU = G + 1 + 4 + 4 + 4 := ⟨FU - 13, by omega⟩
    obtain ⟨K1, R1, c1, r1, t1, f1, g1⟩ := feed4 (a := a) (b := b) (c := c) (Or.inl ⟨rfl, rfl⟩) 4 0 K R l (by omega) (by omega) ⟨e1, e2, e3⟩ FU (G + 1 + 4 + 4) (by omega)
    obtain ⟨K2, R2, c2, r2, t2, f2, g2⟩ := feed4 (a := a) (b := b) (c := c) (Or.inr (Or.inl ⟨rfl, rfl⟩)) 4 0 K1 R1 (l + 4) (by omega) (by omega) t1 FU (G + 1 + 4) (by omega)
    obtain ⟨K3, R3, c3, r3, t3, f3, g3⟩ := feed4 (a := a) (b := b) (c := c) (Or.inr (Or.inr ⟨rfl, rfl⟩)) 4 0 K2 R2 (l + 4 + 4) (by omega) (by omega) t2 FU (G + 1) (by omega)
    have e24 : nI 24 - nI (8 * 0) = 24 := by decide
    rw [e24] at c1 c2 c3
    have rr : L_X9_feed_18 FU a b c 0 R = some (R3 0 16, R3) := by
      rw [hG]
      refine (r1.trans (r2.trans r3)).trans ?_
      have hc : (12 : Int32) ≤ nI (8 + 4) := by decide
      show F_X9_feed_18 _ _ _ _ _ _ = _
      unfold F_X9_feed_18
      rw [if_pos hc]
    rw [if_pos (jle q (by omega)), if_pos (jle q (by omega)), c1, bd_s, c2, bd_s, c3, bd_s, rr, t3.1, t3.2.1]
    refine ⟨_, _, _, rfl, rfl, h.tp (fun a h1 h2 => by rw [f3 a h1 h2, f2 a h1 h2, f1 a h1 h2]) (fun a h1 h2 => by rw [g3.1 a h1 h2, g2.1 a h1 h2, g1.1 a h1 h2]) (by rw [g3.2 3 (by decide), g2.2 3 (by decide), g1.2 3 (by decide)]) (by rw [g3.2 31 (by decide), g2.2 31 (by decide), g1.2 31 (by decide)]) ⟨l + 4 + 4 + 4, by omega, t3.1, t3.2.1, t3.2.2⟩⟩
  · rw [if_neg (jnle (by omega) (by omega)), if_neg (jnle (by omega) (by omega))]
    exact ⟨_, _, _, rfl, rfl, h⟩
