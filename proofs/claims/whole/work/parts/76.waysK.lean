/-! ways: the class's search -/
/-- nothing but the search's own rows has changed -/
def WK (K K' : Mem) : Prop := ∀ a, a ≠ 43 → a ≠ 44 → a ≠ 45 → K' a = K a
theorem WK.rf {K : Mem} : WK K K := fun _ _ _ _ => rfl
theorem WK.tr {K K1 K2 : Mem} (h : WK K K1) (h2 : WK K1 K2) : WK K K2 := fun a x y z => (h2 a x y z).trans (h a x y z)
theorem WK.u {K K' : Mem} (h : WK K K') {c i : Nat} {v : Int32} (hc : c = 43 ∨ c = 44 ∨ c = 45) : WK K (up K' c i v) := fun a x y z => by
  rw [u_ne (by omega)]
  exact h a x y z
section WAYSK
variable {K : Mem} {n : Nat} {k F U : Nat → Nat}
theorem e_near (hn : n ≤ 12) (h7 : K 21 7 = nI n) (hk : ∀ i, i < n → k i < 6 ∧ K (21 + 1) i = nI (k i)) (hF : ∀ i, i < n → F i < 256 ∧ K 44 i = nI (F i)) {i : Nat} (hi : i < n) : C_X7_near 21 K (nI i) = some (nI (nearN k F n i)) := by
  obtain ⟨f1, f2⟩ := hF i hi
  obtain ⟨k1, k2⟩ := hk i hi
  have tail : ∀ v : Nat, F_X7_near_42 21 K (nI i) (nI v) = some (nI (if n ≤ i + 1 then v else v ||| und (k (i + 1)) (F (i + 1)))) := by
    intro v
    unfold F_X7_near_42
    rw [h7, show nI i + 1 = nI (i + 1) from jn_add i 1]
    by_cases e : n ≤ i + 1
    · rw [if_pos (jle e (by omega)), if_pos e]
    · obtain ⟨g1, g2⟩ := hF (i + 1) (by omega)
      obtain ⟨l1, l2⟩ := hk (i + 1) (by omega)
      rw [if_neg (jnle (by omega) (by omega)), if_neg e, inb_t (by omega) (by omega), gd_t, gd_t, tn_nI (by omega), l2, g2, e_und l1 g1, bd_s, nm_eq, j_or]
  have e1 : (jshl (nI (F i)) 1 ||| jshr (nI (F i)) 1) = nI (2 * F i ||| F i / 2) := e_sh_ ⟨F i, f1⟩
  unfold C_X7_near F_X7_near_0
  rw [inb_t (by omega) (by omega), gd_t, gd_t, tn_nI (by omega), f2, e1, nm_eq]
  unfold nearN nb1
  by_cases e : i = 0
  · rw [if_pos (show nI i ≤ (0 : Int32) by rw [e]; decide), if_pos e]
    exact tail _
  · obtain ⟨g1, g2⟩ := hF (i - 1) (by omega)
    rw [if_neg (show ¬ nI i ≤ (0 : Int32) from jnle (b := 0) (by omega) (by omega)), if_neg e, show nI i - 1 = nI (i - 1) from jn_sub (a := i) (b := 1) (by omega), gd_t, inb_t (by omega) (by omega), gd_t, tn_nI (by omega), k2, g2, e_ovr k1 g1, bd_s, nm_eq, j_or]
    exact tail _
def nxt (k F U : Nat → Nat) (n i : Nat) : Nat := nearN k F n i &&& U i
theorem nxt_lt (hU : ∀ i, i < n → U i < 256 ∧ K 43 i = nI (U i)) {i : Nat} (hi : i < n) : nxt k F U n i < 256 := Nat.and_lt_two_pow (n := 8) _ (hU i hi).1
theorem step_51 (hn : n ≤ 12) {G : Nat → Nat} (hG : ∀ i, i < n → G i < 256) (hUl : ∀ i, i < n → U i < 256) {t : Nat} : ∀ (r i : Nat) (K : Mem), i + r = n → K 21 7 = nI n → (∀ j, j < n → K 45 j = nI (G j)) → (∀ j, j < i → K 44 j = nI (G j) ∧ K 43 j = nI (andn (U j) (G j))) → (∀ j, i ≤ j → j < n → K 43 j = nI (U j)) → ∀ f, r < f → ∃ K', L_X7_step_51 21 f (nI t) (nI i) K = some (nI t, K') ∧ WK K K' ∧ ∀ j, j < n → K' 44 j = nI (G j) ∧ K' 43 j = nI (andn (U j) (G j))
  | 0, i, K, hi, h7, h45, h44, h43, f, hf => by
    obtain ⟨g, rfl⟩ : ∃ g, f = g + 1 := ⟨f - 1, by omega⟩
    refine ⟨K, ?_, WK.rf, fun j hj => h44 j (by omega)⟩
    show F_X7_step_51 _ _ _ _ _ = _
    unfold F_X7_step_51
    rw [h7, if_pos (jle (by omega) (by omega))]
  | r + 1, i, K, hi, h7, h45, h44, h43, f, hf => by
    obtain ⟨g, rfl⟩ : ∃ g, f = g + 1 := ⟨f - 1, by omega⟩
    have hu := hUl i (by omega)
    obtain ⟨K', e1, e2, e3⟩ := step_51 hn hG hUl (t := t) r (i + 1) (up (up K 43 i (nI (andn (U i) (G i)))) 44 i (nI (G i))) (by omega) (by rw [u_ne (by decide), u_ne (by decide)]; exact h7) (fun j hj => by rw [u_ne (by decide), u_ne (by decide)]; exact h45 j hj) (fun j hj => by
      by_cases e : j = i
      · subst e
        rw [u_at, u_ne (by decide), u_at]
        exact ⟨rfl, rfl⟩
      · rw [u_oth e, u_ne (by decide), u_ne (by decide), u_oth e]
        exact h44 j (by omega)) (fun j h1 h2 => by rw [u_ne (by decide), u_oth (by omega)]; exact h43 j (by omega) h2) g (by omega)
    refine ⟨K', ?_, ((WK.rf.u (Or.inl rfl)).u (Or.inr (Or.inl rfl))).tr e2, e3⟩
    show F_X7_step_51 _ _ _ _ _ = _
    unfold F_X7_step_51
    rw [h7, if_neg (jnle (by omega) (by omega)), inb_t (by omega) (by omega), gd_t, gd_t, gd_t, tn_nI (by omega), h43 i (Nat.le_refl _) (by omega), h45 i (by omega), j_andn (by omega), nm_eq, gd_t, gd_t, u_ne (by decide), h45 i (by omega), nm_eq, nm_eq, show nI i + 1 = nI (i + 1) from jn_add i 1]
    exact e1
theorem step_4 (hn : n ≤ 12) (hk : ∀ i, i < n → k i < 6) (hFl : ∀ i, i < n → F i < 256) (hUl : ∀ i, i < n → U i < 256) : ∀ (r i : Nat) (K : Mem), i + r = n → K 21 7 = nI n → (∀ j, j < n → K (21 + 1) j = nI (k j)) → (∀ j, j < n → K 44 j = nI (F j)) → (∀ j, j < n → K 43 j = nI (U j)) → (∀ j, j < i → K 45 j = nI (nxt k F U n j)) → ∀ f, r < f → ∃ K', L_X7_step_4 21 f (nI (sm (nxt k F U n) i)) (nI i) K = some (nI (sm (nxt k F U n) n), K') ∧ WK K K' ∧ ∀ j, j < n → K' 44 j = nI (nxt k F U n j) ∧ K' 43 j = nI (andn (U j) (nxt k F U n j))
  | 0, i, K, hi, h7, hkk, h44, h43, h45, f, hf => by
    obtain ⟨g, rfl⟩ : ∃ g, f = g + 1 := ⟨f - 1, by omega⟩
    have hFU := FU_big
    have ein : i = n := by omega
    obtain ⟨K', e1, e2, e3⟩ := step_51 hn (G := nxt k F U n) (U := U) (fun i hi => Nat.and_lt_two_pow (n := 8) _ (hUl i hi)) hUl (t := sm (nxt k F U n) n) n 0 K (by omega) h7 (fun j hj => h45 j (by omega)) (fun j hj => absurd hj (Nat.not_lt_zero _)) (fun j _ hj => h43 j hj) FU (by omega)
    refine ⟨K', ?_, e2, e3⟩
    show F_X7_step_4 _ _ _ _ _ = _
    unfold F_X7_step_4
    rw [h7, if_pos (jle (by omega) (by omega)), ein]
    exact e1
  | r + 1, i, K, hi, h7, hkk, h44, h43, h45, f, hf => by
    obtain ⟨g, rfl⟩ : ∃ g, f = g + 1 := ⟨f - 1, by omega⟩
    have hin : i < n := by omega
    have hlt : nxt k F U n i < 256 := Nat.and_lt_two_pow (n := 8) _ (hUl i hin)
    obtain ⟨K', e1, e2, e3⟩ := step_4 hn hk hFl hUl r (i + 1) (up K 45 i (nI (nxt k F U n i))) (by omega) (by rw [u_ne (by decide)]; exact h7) (fun j hj => by rw [u_ne (by decide)]; exact hkk j hj) (fun j hj => by rw [u_ne (by decide)]; exact h44 j hj) (fun j hj => by rw [u_ne (by decide)]; exact h43 j hj) (fun j hj => by
      by_cases e : j = i
      · rw [e, u_at]
      · rw [u_oth e]
        exact h45 j (by omega)) g (by omega)
    refine ⟨K', ?_, (WK.rf.u (Or.inr (Or.inr rfl))).tr e2, e3⟩
    have hnear := e_near (K := K) hn h7 (fun i hi => ⟨hk i hi, hkk i hi⟩) (fun i hi => ⟨hFl i hi, h44 i hi⟩) hin
    have hx : nI (nearN k F n i) &&& nI (U i) = nI (nxt k F U n i) := j_and _ _
    show F_X7_step_4 _ _ _ _ _ = _
    unfold F_X7_step_4
    rw [h7, if_neg (jnle (by omega) (by omega)), hnear, bd_s, inb_t (by omega) (by omega), gd_t, gd_t, tn_nI (by omega), h43 i hin, hx, nm_eq, gd_t, u_at, e_bitCount hlt, bd_s, nm_eq, nm_eq, jn_add, show nI i + 1 = nI (i + 1) from jn_add i 1]
    exact e1
theorem e_step (hn : n ≤ 12) (hk : ∀ i, i < n → k i < 6) (hFl : ∀ i, i < n → F i < 256) (hUl : ∀ i, i < n → U i < 256) (h7 : K 21 7 = nI n) (hkk : ∀ j, j < n → K (21 + 1) j = nI (k j)) (h44 : ∀ j, j < n → K 44 j = nI (F j)) (h43 : ∀ j, j < n → K 43 j = nI (U j)) : ∃ K', C_X7_step 21 K = some (nI (sm (nxt k F U n) n), K') ∧ WK K K' ∧ ∀ j, j < n → K' 44 j = nI (nxt k F U n j) ∧ K' 43 j = nI (andn (U j) (nxt k F U n j)) := by
  have hFU := FU_big
  obtain ⟨K', e1, e2, e3⟩ := step_4 hn hk hFl hUl n 0 K (by omega) h7 hkk h44 h43 (fun j hj => absurd hj (Nat.not_lt_zero _)) FU (by omega)
  exact ⟨K', e1, e2, e3⟩
/-- the class stands at level d -/
def AtK (n : Nat) (k : Nat → Nat) (fr un : Nat → Nat → Nat) (K : Mem) (d : Nat) : Prop := K 21 7 = nI n ∧ (∀ j, j < n → K (21 + 1) j = nI (k j)) ∧ (∀ j, j < n → K 44 j = nI (fr d j)) ∧ ∀ j, j < n → K 43 j = nI (un d j)
theorem AtK.step {H : Nat → Nat} {i0 c0 : Nat} {fr un : Nat → Nat → Nat} (S : Srch k H n i0 c0 fr un) {d : Nat} (h : AtK n k fr un K d) : ∃ K', C_X7_step 21 K = some (nI (sm (fr (d + 1)) n), K') ∧ WK K K' ∧ AtK n k fr un K' (d + 1) := by
  have L := S.lt d
  obtain ⟨hn, hi0, hc0, hk, hH, f0, u0, fs, us⟩ := S
  obtain ⟨a1, a2, a3, a4⟩ := h
  obtain ⟨K', e1, e2, e3⟩ := e_step (K := K) hn hk (fun i hi => (L i hi).1) (fun i hi => (L i hi).2) a1 a2 a3 a4
  have ef : nxt k (fr d) (un d) n = fr (d + 1) := funext fun i => (fs d i).symm
  rw [ef] at e1 e3
  refine ⟨K', e1, e2, by rw [e2 21 (by decide) (by decide) (by decide)]; exact a1, fun j hj => by rw [e2 (21 + 1) (by decide) (by decide) (by decide)]; exact a2 j hj, fun j hj => (e3 j hj).1, fun j hj => ?_⟩
  rw [us]
  exact (e3 j hj).2
theorem begin_8 {R : Mem} (hn : n ≤ 12) {i0 c0 : Nat} (hi0 : i0 < n) (hc0 : c0 < 8) : ∀ (r i : Nat) (K : Mem), i + r = n → TS K 21 R n → (∀ j, j < i → K 43 j = nI (hs (kf (R 1)) (lf (R 1)) (j + 1)) ∧ K 44 j = nI 0) → ∀ f, r < f → ∃ K', L_X7_begin_8 21 f (nI i0) (nI c0) (nI (hs (kf (R 1)) (lf (R 1)) i)) (nI i) K = some (nI (pc (hs (kf (R 1)) (lf (R 1)) (i0 + 1) &&& 2 ^ c0)), K') ∧ WK K K' ∧ ∀ j, j < n → K' 44 j = nI (if j = i0 then hs (kf (R 1)) (lf (R 1)) (i0 + 1) &&& 2 ^ c0 else 0) ∧ K' 43 j = nI (if j = i0 then andn (hs (kf (R 1)) (lf (R 1)) (i0 + 1)) (hs (kf (R 1)) (lf (R 1)) (i0 + 1) &&& 2 ^ c0) else hs (kf (R 1)) (lf (R 1)) (j + 1))
  | 0, i, K, hi, ht, h4, f, hf => by
    obtain ⟨g, rfl⟩ : ∃ g, f = g + 1 := ⟨f - 1, by omega⟩
    have hlt : hs (kf (R 1)) (lf (R 1)) (i0 + 1) < 256 := hs_lt (n := n) (fun i hi => (ht.2.kf hi).1) (i0 + 1) (by omega)
    have hpc : hs (kf (R 1)) (lf (R 1)) (i0 + 1) &&& 2 ^ c0 < 256 := Nat.and_lt_two_pow (n := 8) _ (two_pow_lt hc0)
    have esh : jshl 1 (nI c0) = nI (2 ^ c0) := e_shl1 hc0
    refine ⟨up (up K 44 i0 (nI (hs (kf (R 1)) (lf (R 1)) (i0 + 1) &&& 2 ^ c0))) 43 i0 (nI (andn (hs (kf (R 1)) (lf (R 1)) (i0 + 1)) (hs (kf (R 1)) (lf (R 1)) (i0 + 1) &&& 2 ^ c0))), ?_, (WK.rf.u (Or.inr (Or.inl rfl))).u (Or.inl rfl), fun j hj => ?_⟩
    · show F_X7_begin_8 _ _ _ _ _ _ _ = _
      unfold F_X7_begin_8
      rw [ht.1.nn, ht.2.s0, if_pos (jle (by omega) (by omega)), inb_t (by omega) (by omega), gd_t, gd_t, tn_nI (by omega), (h4 i0 (by omega)).1, esh, j_and, nm_eq, gd_t, gd_t, gd_t, u_at, u_ne (by decide), (h4 i0 (by omega)).1, j_andn (by omega), nm_eq, gd_t, u_ne (by decide), u_at, e_bitCount hpc, bd_s]
    · by_cases e : j = i0
      · rw [if_pos e, if_pos e, e, u_at, u_ne (by decide), u_at]
        exact ⟨rfl, rfl⟩
      · rw [if_neg e, if_neg e]
        refine ⟨?_, ?_⟩
        · rw [u_ne (by decide), u_oth e]
          exact (h4 j (by omega)).2
        · rw [u_oth e, u_ne (by decide)]
          exact (h4 j (by omega)).1
  | r + 1, i, K, hi, ht, h4, f, hf => by
    obtain ⟨g, rfl⟩ : ∃ g, f = g + 1 := ⟨f - 1, by omega⟩
    have hin : i < n := by omega
    have hlt := hs_lt (k := kf (R 1)) (l := lf (R 1)) (n := n) (fun i hi => (ht.2.kf hi).1) i (by omega)
    have eh := e_holdingOn ht hin hlt
    have ht2 : TS (up (up K 43 i (nI (hs (kf (R 1)) (lf (R 1)) (i + 1)))) 44 i (nI 0)) 21 R n := ⟨ht.1.same (fun a h1 h2 => by rw [u_ne (by omega), u_ne (by omega)]), ht.2⟩
    obtain ⟨K', e1, e2, e3⟩ := begin_8 hn hi0 hc0 r (i + 1) _ (by omega) ht2 (fun j hj => by
      by_cases e : j = i
      · rw [e, u_at, u_ne (by decide), u_at]
        exact ⟨rfl, rfl⟩
      · refine ⟨?_, ?_⟩
        · rw [u_ne (by decide), u_oth e]
          exact (h4 j (by omega)).1
        · rw [u_oth e, u_ne (by decide)]
          exact (h4 j (by omega)).2) g (by omega)
    refine ⟨K', ?_, ((WK.rf.u (Or.inl rfl)).u (Or.inr (Or.inl rfl))).tr e2, e3⟩
    show F_X7_begin_8 _ _ _ _ _ _ _ = _
    unfold F_X7_begin_8
    rw [ht.1.nn, ht.2.s0, if_neg (jnle (by omega) (by omega)), eh, bd_s, inb_t (by omega) (by omega), gd_t, tn_nI (by omega), nm_eq, gd_t, nm_eq, nm_eq, show nI i + 1 = nI (i + 1) from jn_add i 1]
    exact e1
theorem sm_one {i0 v : Nat} : ∀ n, sm (fun j => if j = i0 then v else 0) n = if i0 < n then pc v else 0
  | 0 => rfl
  | n + 1 => by
    show sm (fun j => if j = i0 then v else 0) n + pc (if n = i0 then v else 0) = _
    rw [sm_one n]
    by_cases e : n = i0
    · rw [if_pos e, if_neg (by omega), if_pos (by omega), Nat.zero_add]
    · rw [if_neg e]
      by_cases e2 : i0 < n
      · rw [if_pos e2, if_pos (by omega)]
        rfl
      · rw [if_neg e2, if_neg (by omega)]
        rfl
theorem e_begin {R : Mem} (ht : TS K 21 R n) {i0 c0 : Nat} {fr un : Nat → Nat → Nat} (S : Srch (kf (R 1)) (fun i => hs (kf (R 1)) (lf (R 1)) (i + 1)) n i0 c0 fr un) : ∃ K', C_X7_begin 21 (nI i0) (nI c0) K = some (nI (sm (fr 0) n), K') ∧ WK K K' ∧ AtK n (kf (R 1)) fr un K' 0 := by
  have hFU := FU_big
  obtain ⟨hn, hi0, hc0, hk, hH, f0, u0, fs, us⟩ := S
  obtain ⟨K', e1, e2, e3⟩ := begin_8 (R := R) hn hi0 hc0 n 0 K (by omega) ht (fun j hj => absurd hj (Nat.not_lt_zero _)) FU (by omega)
  have ef : fr 0 = fun j => if j = i0 then hs (kf (R 1)) (lf (R 1)) (i0 + 1) &&& 2 ^ c0 else 0 := funext f0
  have es : sm (fr 0) n = pc (hs (kf (R 1)) (lf (R 1)) (i0 + 1) &&& 2 ^ c0) := by rw [ef, sm_one, if_pos hi0]
  refine ⟨K', ?_, e2, ?_, ?_, ?_, ?_⟩
  · rw [es]
    exact e1
  · rw [e2 21 (by decide) (by decide) (by decide), ht.1.nn, ht.2.s0]
  · intro j hj
    rw [e2 (21 + 1) (by decide) (by decide) (by decide), ht.1.kd (by omega)]
    exact (ht.2.kf hj).2
  · intro j hj
    rw [f0]
    exact (e3 j hj).1
  · intro j hj
    rw [u0]
    exact (e3 j hj).2
/-- how far, to one loop -/
theorem steps_12 {H : Nat → Nat} {i0 c0 : Nat} {fr un : Nat → Nat → Nat} (S : Srch k H n i0 c0 fr un) {D a b : Nat} (hD : D ≤ 96) (hz : sm (fr D) n = 0) (hp : ∀ e, e < D → 0 < sm (fr e) n) (ha : a < n) (hb : b < 8) : ∀ (r s : Nat) (K : Mem), s + r = D → AtK n k fr un K s → (∀ e, e < s → (fr e a).testBit b = false) → ∀ f, r < f → ∃ v K', L_X7_steps_12 21 f (nI a) (nI b) (nI (sm (fr s) n)) (nI s) K = some (v, K') ∧ C_X9_orNone (dst fr D a b) = some v ∧ WK K K'
  | 0, s, K, hs, hK, hno, f, hf => by
    obtain ⟨g, rfl⟩ : ∃ g, f = g + 1 := ⟨f - 1, by omega⟩
    have es : s = D := by omega
    have hno2 : ∀ e, e ≤ D → (fr e a).testBit b = false := fun e he => by
      by_cases q : e = D
      · rw [q]
        exact (sm_zero (fun i hi => (S.lt D i hi).1)).mp hz a b ha hb
      · exact hno e (by omega)
    refine ⟨-1000000005, K, ?_, ?_, WK.rf⟩
    · show F_X7_steps_12 _ _ _ _ _ _ _ = _
      unfold F_X7_steps_12
      rw [es, hz, if_neg (show ¬ (96 : Int32) < nI D from jnlt (a := 96) (by omega) (by omega)), if_pos (show nI 0 ≤ (0 : Int32) by decide)]
    · rw [Srch.never D hno2]
      rfl
  | r + 1, s, K, hs, hK, hno, f, hf => by
    obtain ⟨g, rfl⟩ : ∃ g, f = g + 1 := ⟨f - 1, by omega⟩
    have hn : n ≤ 12 := S.1
    have hpos := hp s (by omega)
    have hle := sm_le (F := fr s) n
    have hl := (S.lt s a ha).1
    have eb := e_shrand hl hb
    by_cases hbit : (fr s a).testBit b = true
    · refine ⟨nI s, K, ?_, ?_, WK.rf⟩
      · show F_X7_steps_12 _ _ _ _ _ _ _ = _
        unfold F_X7_steps_12
        rw [if_neg (show ¬ (96 : Int32) < nI s from jnlt (a := 96) (by omega) (by omega)), if_neg (show ¬ nI (sm (fr s) n) ≤ (0 : Int32) from jnle (b := 0) (by omega) (by omega)), inb_t (by omega) (by omega), gd_t, tn_nI (by omega), hK.2.2.1 a ha, show (1 : Int32) = nI 1 from rfl, eb, if_pos hbit, if_neg n10]
      · have q := ((S.lv s (by omega) a b ha hb).1.mp hbit)
        have q2 := S.stay ha hb q (by omega) (D - s) (by omega)
        rw [show s + (D - s) = D by omega] at q2
        rw [q2]
        unfold C_X9_orNone F_X9_orNone_0
        rw [if_pos (show (0 : Int32) ≤ nI s from jle (a := 0) (Nat.zero_le _) (by omega))]
    · obtain ⟨K1, e1, e2, e3⟩ := hK.step S
      obtain ⟨v, K', d1, d2, d3⟩ := steps_12 S hD hz hp ha hb r (s + 1) K1 (by omega) e3 (fun e he => by
        by_cases q : e = s
        · rw [q]
          exact Bool.eq_false_iff.mpr hbit
        · exact hno e (by omega)) g (by omega)
      refine ⟨v, K', ?_, d2, e2.tr d3⟩
      show F_X7_steps_12 _ _ _ _ _ _ _ = _
      unfold F_X7_steps_12
      rw [if_neg (show ¬ (96 : Int32) < nI s from jnlt (a := 96) (by omega) (by omega)), if_neg (show ¬ nI (sm (fr s) n) ≤ (0 : Int32) from jnle (b := 0) (by omega) (by omega)), inb_t (by omega) (by omega), gd_t, tn_nI (by omega), hK.2.2.1 a ha, show (1 : Int32) = nI 1 from rfl, eb, if_neg hbit, if_pos z00, e1, bd2_s, nm_eq, jn_add]
      exact d1
theorem reached_16 {H : Nat → Nat} {i0 c0 : Nat} {fr un : Nat → Nat → Nat} (S : Srch k H n i0 c0 fr un) {D : Nat} (hD : D ≤ 96) (hz : sm (fr D) n = 0) (hp : ∀ e, e < D → 0 < sm (fr e) n) : ∀ (r s : Nat) (K : Mem), s + r = D → AtK n k fr un K s → ∀ f, r < f → ∃ K', L_X7_reached_16 21 f (nI (sm (fr s) n)) (nI (tots fr n s)) (nI s) K = some (nI (tots fr n D), K') ∧ WK K K'
  | 0, s, K, hs, hK, f, hf => by
    obtain ⟨g, rfl⟩ : ∃ g, f = g + 1 := ⟨f - 1, by omega⟩
    have es : s = D := by omega
    refine ⟨K, ?_, WK.rf⟩
    show F_X7_reached_16 _ _ _ _ _ _ = _
    unfold F_X7_reached_16
    rw [es, hz, if_neg (show ¬ (96 : Int32) < nI D from jnlt (a := 96) (by omega) (by omega)), if_pos (show nI 0 ≤ (0 : Int32) by decide)]
  | r + 1, s, K, hs, hK, f, hf => by
    obtain ⟨g, rfl⟩ : ∃ g, f = g + 1 := ⟨f - 1, by omega⟩
    have hn : n ≤ 12 := S.1
    have hpos := hp s (by omega)
    have hle := sm_le (F := fr s) n
    obtain ⟨K1, e1, e2, e3⟩ := hK.step S
    obtain ⟨K', d1, d2⟩ := reached_16 S hD hz hp r (s + 1) K1 (by omega) e3 g (by omega)
    refine ⟨K', ?_, e2.tr d2⟩
    show F_X7_reached_16 _ _ _ _ _ _ = _
    unfold F_X7_reached_16
    rw [if_neg (show ¬ (96 : Int32) < nI s from jnlt (a := 96) (by omega) (by omega)), if_neg (show ¬ nI (sm (fr s) n) ≤ (0 : Int32) from jnle (b := 0) (by omega) (by omega)), e1, bd2_s, nm_eq, nm_eq, jn_add, show nI s + 1 = nI (s + 1) from jn_add s 1]
    exact d1
end WAYSK
