/-! the tape read on both sides: the next word or sign -/
def srt (b : Nat) : Nat := if 97 ≤ b ∧ b ≤ 122 then 1 else if 48 ≤ b ∧ b ≤ 57 then 2 else 3
theorem e_sortOf_ : ∀ b : Fin 256, C_X1_sortOf (nI b) = some (nI (srt b)) := by decide +kernel
theorem e_inL_ : ∀ b : Fin 256, C_X9_isIn (Int32.toInt64 (nI b)) 97 122 = some (if srt b = 1 then 1 else 0) := by decide +kernel
theorem e_inD_ : ∀ b : Fin 256, C_X9_isIn (Int32.toInt64 (nI b)) 48 57 = some (if srt b = 2 then 1 else 0) := by decide +kernel
theorem srt_L {b : Nat} (h : srt b = 1) : 97 ≤ b ∧ b ≤ 122 := by
  unfold srt at h
  by_cases q : 97 ≤ b ∧ b ≤ 122
  · exact q
  · rw [if_neg q] at h
    by_cases q2 : 48 ≤ b ∧ b ≤ 57
    · rw [if_pos q2] at h
      omega
    · rw [if_neg q2] at h
      omega
theorem srt_D {b : Nat} (h : srt b = 2) : 48 ≤ b ∧ b ≤ 57 := by
  unfold srt at h
  by_cases q : 97 ≤ b ∧ b ≤ 122
  · rw [if_pos q] at h
    omega
  · rw [if_neg q] at h
    by_cases q2 : 48 ≤ b ∧ b ≤ 57
    · exact q2
    · rw [if_neg q2] at h
      omega
theorem srt_or (b : Nat) : srt b = 1 ∨ srt b = 2 ∨ srt b = 3 := by
  unfold srt
  split
  · exact Or.inl rfl
  · split
    · exact Or.inr (Or.inl rfl)
    · exact Or.inr (Or.inr rfl)
/-- the number that digits spell -/
def dv (B : Nat → Nat) (s : Nat) : Nat → Nat
  | 0 => 0
  | k + 1 => 10 * dv B s k + B (s + k) - 48
theorem dv_lt {B : Nat → Nat} {s : Nat} : ∀ k, (∀ i, i < k → srt (B (s + i)) = 2) → dv B s k < 10 ^ k
  | 0, _ => (by decide : 0 < 10 ^ 0)
  | k + 1, h => by
    have ih := dv_lt k (fun i hi => h i (by omega))
    have h2 := srt_D (h k (by omega))
    show 10 * dv B s k + B (s + k) - 48 < 10 ^ (k + 1)
    rw [Nat.pow_succ]
    omega
/-- the tape, of l bytes -/
def Tp (l : Nat) (B : Nat → Nat) (K R : Mem) : Prop := l ≤ 96 ∧ K 46 1 = nI l ∧ R 0 16 = nI l ∧ ∀ i, i < l → B i < 256 ∧ K 47 i = nI (B i) ∧ R 15 i = nI (B i)
def MK (K K' : Mem) : Prop := ∀ a j, ¬ (a = 48 ∧ 5 ≤ j ∧ j ≤ 7) → K' a j = K a j
def MR (R R' : Mem) : Prop := ∀ a j, ¬ (a = 0 ∧ 17 ≤ j ∧ j ≤ 21) → R' a j = R a j
theorem MK.rf {K : Mem} : MK K K := fun _ _ _ => rfl
theorem MR.rf {K : Mem} : MR K K := fun _ _ _ => rfl
theorem MK.tr {K K1 K2 : Mem} (h : MK K K1) (h2 : MK K1 K2) : MK K K2 := fun a j q => (h2 a j q).trans (h a j q)
theorem MR.tr {K K1 K2 : Mem} (h : MR K K1) (h2 : MR K1 K2) : MR K K2 := fun a j q => (h2 a j q).trans (h a j q)
theorem MK.u {K K' : Mem} (h : MK K K') {i : Nat} {v : Int32} (h1 : 5 ≤ i) (h2 : i ≤ 7) : MK K (up K' 48 i v) := fun a j q => by
  rw [u_if, if_neg (fun e => q (by omega))]
  exact h a j q
theorem MR.u {K K' : Mem} (h : MR K K') {i : Nat} {v : Int32} (h1 : 17 ≤ i) (h2 : i ≤ 21) : MR K (up K' 0 i v) := fun a j q => by
  rw [u_if, if_neg (fun e => q (by omega))]
  exact h a j q
/-- the word or sign at which both stand: its places s to e, what it is -/
def Tok (l : Nat) (B : Nat → Nat) (K R : Mem) (s e so : Nat) : Prop := s ≤ e ∧ e ≤ l ∧ K 48 6 = nI s ∧ K 48 7 = nI e ∧ K 48 5 = nI so ∧ R 0 17 = nI s ∧ R 0 18 = nI e ∧ ((so = 0 ∧ R 0 19 = nI 0) ∨ (so = 1 ∧ s < e ∧ R 0 19 = nI 1 ∧ (∀ i, s ≤ i → i < e → srt (B i) = 1) ∧ R 0 21 = (if e - s = 1 then nI (B s) else nI 0)) ∨ (so = 2 ∧ s < e ∧ (∀ i, s ≤ i → i < e → srt (B i) = 2) ∧ ((e - s ≤ 4 ∧ R 0 19 = nI 2 ∧ R 0 20 = nI (dv B s (e - s))) ∨ (4 < e - s ∧ R 0 19 = nI 4))) ∨ (so = 3 ∧ e = s + 1 ∧ R 0 19 = nI 3 ∧ R 0 21 = nI (B s) ∧ srt (B s) = 3) ∨ (so = 4 ∧ s < e ∧ R 0 19 = nI 4))
/-- behind what was read, where both go on -/
def Pre (l : Nat) (K R : Mem) (e tg : Nat) : Prop := e ≤ l ∧ K 48 7 = nI e ∧ R 0 18 = nI e ∧ ((tg = 1 ∧ 0 < e ∧ ((K 48 5 = nI 1 ∧ R 0 19 = nI 1) ∨ (K 48 5 = nI 2 ∧ R 0 19 = nI 2))) ∨ (tg = 0 ∧ (K 48 5 = nI 0 ∨ K 48 5 = nI 3) ∧ R 0 19 = nI 3))
section TOK
variable {K R : Mem} {l : Nat} {B : Nat → Nat}
theorem Tp.mv (h : Tp l B K R) {K' R' : Mem} (hK : MK K K') (hR : MR R R') : Tp l B K' R' := by
  obtain ⟨h1, h2, h3, h4⟩ := h
  refine ⟨h1, ?_, ?_, fun i hi => ⟨(h4 i hi).1, ?_, ?_⟩⟩
  · rw [hK 46 1 (by omega)]
    exact h2
  · rw [hR 0 16 (by omega)]
    exact h3
  · rw [hK 47 i (by omega)]
    exact (h4 i hi).2.1
  · rw [hR 15 i (by omega)]
    exact (h4 i hi).2.2
theorem Tp.byte (h : Tp l B K R) {i : Nat} (hi : i < l) : C_X1_byteAt K (nI i) = some (nI (B i)) := by
  obtain ⟨h1, h2, h3, h4⟩ := h
  unfold C_X1_byteAt F_X1_byteAt_0
  rw [if_neg (show ¬ nI i < (0 : Int32) from jnlt (b := 0) (by omega) (by omega)), if_neg (show ¬ (96 : Int32) ≤ nI i from jnle (a := 96) (by omega) (by omega)), inb_t (by omega) (by omega), gd_t, tn_nI (by omega), (h4 i hi).2.1]
theorem Tp.sort (h : Tp l B K R) {i : Nat} (hi : i < l) : C_X1_sortOf (nI (B i)) = some (nI (srt (B i))) := e_sortOf_ ⟨B i, (h.2.2.2 i hi).1⟩
theorem Tp.letter (h : Tp l B K R) {i : Nat} (hi : i < l) : C_X9_isLetter R (nI i) = some (if srt (B i) = 1 then nI 1 else nI 0) := by
  obtain ⟨h1, h2, h3, h4⟩ := h
  have e : C_X9_isIn (Int32.toInt64 (nI (B i))) 97 122 = some (if srt (B i) = 1 then 1 else 0) := e_inL_ ⟨B i, (h4 i hi).1⟩
  unfold C_X9_isLetter F_X9_isLetter_0
  rw [h3, if_neg (jnle (by omega) (by omega)), inb_t (by omega) (by omega), gd_t, tn_nI (by omega), (h4 i hi).2.2, e, bd_s]
  by_cases q : srt (B i) = 1
  · rw [if_pos q, if_pos q, if_neg (show ¬ (1 : Int32) = 0 from n10)]
    rfl
  · rw [if_neg q, if_neg q, if_pos (show (0 : Int32) = 0 from rfl)]
    rfl
theorem Tp.digit (h : Tp l B K R) {i : Nat} (hi : i < l) : C_X9_isDigit R (nI i) = some (if srt (B i) = 2 then nI 1 else nI 0) := by
  obtain ⟨h1, h2, h3, h4⟩ := h
  have e : C_X9_isIn (Int32.toInt64 (nI (B i))) 48 57 = some (if srt (B i) = 2 then 1 else 0) := e_inD_ ⟨B i, (h4 i hi).1⟩
  unfold C_X9_isDigit F_X9_isDigit_0
  rw [h3, if_neg (jnle (by omega) (by omega)), inb_t (by omega) (by omega), gd_t, tn_nI (by omega), (h4 i hi).2.2, e, bd_s]
  by_cases q : srt (B i) = 2
  · rw [if_pos q, if_pos q, if_neg (show ¬ (1 : Int32) = 0 from n10)]
    rfl
  · rw [if_neg q, if_neg q, if_pos (show (0 : Int32) = 0 from rfl)]
    rfl
theorem Tp.letterE (h : Tp l B K R) : C_X9_isLetter R (nI l) = some (nI 0) := by
  obtain ⟨h1, h2, h3, h4⟩ := h
  unfold C_X9_isLetter F_X9_isLetter_0
  rw [h3, if_pos (jle (by omega) (by omega))]
  rfl
theorem Tp.digitE (h : Tp l B K R) : C_X9_isDigit R (nI l) = some (nI 0) := by
  obtain ⟨h1, h2, h3, h4⟩ := h
  unfold C_X9_isDigit F_X9_isDigit_0
  rw [h3, if_pos (jle (by omega) (by omega))]
  rfl
theorem skip_ {tg e : Nat} : ∀ (r j : Nat) (K R : Mem), j + r = l → Tp l B K R → K 48 6 = nI j → R 0 18 = nI j → ∀ f1 f2, r < f1 → r < f2 → ∃ K1 R1 j1, L_X1_moveOn_35 f1 (nI tg) (nI e) K = F_X1_moveOn_75 (nI tg) (nI e) K1 ∧ L_X9_nextToken_34 f2 (nI tg) (nI e) R = F_X9_nextToken_72 (nI tg) (nI e) R1 ∧ j ≤ j1 ∧ j1 ≤ l ∧ K1 48 6 = nI j1 ∧ R1 0 18 = nI j1 ∧ MK K K1 ∧ MR R R1
  | 0, j, K, R, hj, hT, h6, h18, f1, f2, hf1, hf2 => by
    obtain ⟨g1, rfl⟩ : ∃ g, f1 = g + 1 := ⟨f1 - 1, by omega⟩
    obtain ⟨g2, rfl⟩ : ∃ g, f2 = g + 1 := ⟨f2 - 1, by omega⟩
    have h96 := hT.1
    refine ⟨K, R, j, ?_, ?_, Nat.le_refl _, by omega, h6, h18, MK.rf, MR.rf⟩
    · show F_X1_moveOn_35 _ _ _ _ = _
      unfold F_X1_moveOn_35
      rw [hT.2.1, h6, if_pos (jle (by omega) (by omega))]
    · show F_X9_nextToken_34 _ _ _ _ = _
      unfold F_X9_nextToken_34
      rw [hT.2.2.1, h18, if_pos (jle (by omega) (by omega))]
  | r + 1, j, K, R, hj, hT, h6, h18, f1, f2, hf1, hf2 => by
    obtain ⟨g1, rfl⟩ : ∃ g, f1 = g + 1 := ⟨f1 - 1, by omega⟩
    obtain ⟨g2, rfl⟩ : ∃ g, f2 = g + 1 := ⟨f2 - 1, by omega⟩
    have h96 := hT.1
    have hb := (hT.2.2.2 j (by omega)).1
    by_cases q : B j = 32
    · have m1 : MK K (up K 48 6 (nI (j + 1))) := MK.rf.u (by omega) (by omega)
      have m2 : MR R (up R 0 18 (nI (j + 1))) := MR.rf.u (by omega) (by omega)
      obtain ⟨K1, R1, j1, e1, e2, e3, e4, e5, e6, e7, e8⟩ := skip_ (tg := tg) (e := e) r (j + 1) (up K 48 6 (nI (j + 1))) (up R 0 18 (nI (j + 1))) (by omega) (hT.mv m1 m2) u_at u_at g1 g2 (by omega) (by omega)
      refine ⟨K1, R1, j1, ?_, ?_, by omega, e4, e5, e6, m1.tr e7, m2.tr e8⟩
      · show F_X1_moveOn_35 _ _ _ _ = _
        unfold F_X1_moveOn_35
        rw [hT.2.1, h6, if_neg (jnle (by omega) (by omega)), hT.byte (by omega), bd_s, if_pos (show nI (B j) = (32 : Int32) by rw [q]; rfl), nm_eq, show nI j + 1 = nI (j + 1) from jn_add j 1]
        exact e1
      · show F_X9_nextToken_34 _ _ _ _ = _
        unfold F_X9_nextToken_34
        rw [hT.2.2.1, h18, if_neg (jnle (by omega) (by omega)), inb_t (by omega) (by omega), gd_t, tn_nI (by omega), (hT.2.2.2 j (by omega)).2.2, if_pos (show nI (B j) = (32 : Int32) by rw [q]; rfl), nm_eq, show nI j + 1 = nI (j + 1) from jn_add j 1]
        exact e2
    · refine ⟨K, R, j, ?_, ?_, Nat.le_refl _, by omega, h6, h18, MK.rf, MR.rf⟩
      · show F_X1_moveOn_35 _ _ _ _ = _
        unfold F_X1_moveOn_35
        rw [hT.2.1, h6, if_neg (jnle (by omega) (by omega)), hT.byte (by omega), bd_s, if_neg (show ¬ nI (B j) = (32 : Int32) from jne (b := 32) q (by omega) (by omega))]
      · show F_X9_nextToken_34 _ _ _ _ = _
        unfold F_X9_nextToken_34
        rw [hT.2.2.1, h18, if_neg (jnle (by omega) (by omega)), inb_t (by omega) (by omega), gd_t, tn_nI (by omega), (hT.2.2.2 j (by omega)).2.2, if_neg (show ¬ nI (B j) = (32 : Int32) from jne (b := 32) q (by omega) (by omega))]
theorem run_word {tg e s : Nat} {t0 : Int32} : ∀ (r j : Nat) (K R : Mem), j + r = l → s < j → Tp l B K R → K 48 6 = nI s → K 48 7 = nI j → K 48 5 = nI 1 → R 0 17 = nI s → R 0 18 = nI j → (∀ i, s ≤ i → i < j → srt (B i) = 1) → ∀ f1 f2, r < f1 → r < f2 → ∃ K1 R1 j1, L_X1_moveOn_137 f1 (nI tg) (nI e) K = F_X1_moveOn_182 (nI tg) (nI e) K1 ∧ L_X9_nextToken_128 f2 t0 R = (if t0 = 0 then F_X9_nextToken_162 1 R1 else F_X9_nextToken_162 4 R1) ∧ j ≤ j1 ∧ j1 ≤ l ∧ K1 48 6 = nI s ∧ K1 48 7 = nI j1 ∧ K1 48 5 = nI 1 ∧ R1 0 17 = nI s ∧ R1 0 18 = nI j1 ∧ (∀ i, s ≤ i → i < j1 → srt (B i) = 1) ∧ MK K K1 ∧ MR R R1
  | 0, j, K, R, hj, hs, hT, h6, h7, h5, h17, h18, hall, f1, f2, hf1, hf2 => by
    obtain ⟨g1, rfl⟩ : ∃ g, f1 = g + 1 := ⟨f1 - 1, by omega⟩
    obtain ⟨g2, rfl⟩ : ∃ g, f2 = g + 1 := ⟨f2 - 1, by omega⟩
    have h96 := hT.1
    refine ⟨K, R, j, ?_, ?_, Nat.le_refl _, by omega, h6, h7, h5, h17, h18, hall, MK.rf, MR.rf⟩
    · show F_X1_moveOn_137 _ _ _ _ = _
      unfold F_X1_moveOn_137
      rw [hT.2.1, h7, if_pos (jle (by omega) (by omega))]
    · show F_X9_nextToken_128 _ _ _ = _
      unfold F_X9_nextToken_128
      rw [h18, show j = l by omega, hT.letterE, bd_s, if_pos z00]
  | r + 1, j, K, R, hj, hs, hT, h6, h7, h5, h17, h18, hall, f1, f2, hf1, hf2 => by
    obtain ⟨g1, rfl⟩ : ∃ g, f1 = g + 1 := ⟨f1 - 1, by omega⟩
    obtain ⟨g2, rfl⟩ : ∃ g, f2 = g + 1 := ⟨f2 - 1, by omega⟩
    have h96 := hT.1
    have hjl : j < l := by omega
    by_cases q : srt (B j) = 1
    · have m1 : MK K (up K 48 7 (nI (j + 1))) := MK.rf.u (by omega) (by omega)
      have m2 : MR R (up R 0 18 (nI (j + 1))) := MR.rf.u (by omega) (by omega)
      obtain ⟨K1, R1, j1, e1, e2, e3, e4, e5, e6, e7, e8, e9, e10, e11, e12⟩ := run_word (tg := tg) (e := e) (s := s) (t0 := t0) r (j + 1) (up K 48 7 (nI (j + 1))) (up R 0 18 (nI (j + 1))) (by omega) (by omega) (hT.mv m1 m2) (by rw [u_oth (by decide)]; exact h6) u_at (by rw [u_oth (by decide)]; exact h5) (by rw [u_oth (by decide)]; exact h17) u_at (fun i h1 h2 => by
        by_cases ei : i = j
        · rw [ei]
          exact q
        · exact hall i h1 (by omega)) g1 g2 (by omega) (by omega)
      refine ⟨K1, R1, j1, ?_, ?_, by omega, e4, e5, e6, e7, e8, e9, e10, m1.tr e11, m2.tr e12⟩
      · show F_X1_moveOn_137 _ _ _ _ = _
        unfold F_X1_moveOn_137
        rw [hT.2.1, h7, if_neg (jnle (by omega) (by omega)), hT.byte hjl, bd_s, hT.sort hjl, bd_s, h5, if_pos (by rw [q]), nm_eq, show nI j + 1 = nI (j + 1) from jn_add j 1]
        exact e1
      · show F_X9_nextToken_128 _ _ _ = _
        unfold F_X9_nextToken_128
        rw [h18, hT.letter hjl, bd_s, if_pos q, if_neg n10, nm_eq, show nI j + 1 = nI (j + 1) from jn_add j 1]
        exact e2
    · refine ⟨K, R, j, ?_, ?_, Nat.le_refl _, by omega, h6, h7, h5, h17, h18, hall, MK.rf, MR.rf⟩
      · have hs3 := srt_or (B j)
        show F_X1_moveOn_137 _ _ _ _ = _
        unfold F_X1_moveOn_137
        rw [hT.2.1, h7, if_neg (jnle (by omega) (by omega)), hT.byte hjl, bd_s, hT.sort hjl, bd_s, h5, if_neg (jne q (by omega) (by omega))]
      · show F_X9_nextToken_128 _ _ _ = _
        unfold F_X9_nextToken_128
        rw [h18, hT.letter hjl, bd_s, if_neg q, if_pos z00]
theorem run_num {tg e s : Nat} {t0 : Int32} : ∀ (r j : Nat) (K R : Mem), j + r = l → s < j → Tp l B K R → K 48 6 = nI s → K 48 7 = nI j → K 48 5 = nI 2 → R 0 17 = nI s → R 0 18 = nI j → R 0 20 = nI (dv B s (if j - s ≤ 4 then j - s else 4)) → (∀ i, s ≤ i → i < j → srt (B i) = 2) → ∀ f1 f2, r < f1 → r < f2 → ∃ K1 R1 j1, L_X1_moveOn_137 f1 (nI tg) (nI e) K = F_X1_moveOn_182 (nI tg) (nI e) K1 ∧ L_X9_nextToken_214 f2 t0 R = (if t0 = 0 then (if nI (j1 - s) ≤ 4 then some (up R1 0 19 2) else some (up R1 0 19 4)) else some (up R1 0 19 4)) ∧ j ≤ j1 ∧ j1 ≤ l ∧ K1 48 6 = nI s ∧ K1 48 7 = nI j1 ∧ K1 48 5 = nI 2 ∧ R1 0 17 = nI s ∧ R1 0 18 = nI j1 ∧ R1 0 20 = nI (dv B s (if j1 - s ≤ 4 then j1 - s else 4)) ∧ (∀ i, s ≤ i → i < j1 → srt (B i) = 2) ∧ MK K K1 ∧ MR R R1
  | 0, j, K, R, hj, hs, hT, h6, h7, h5, h17, h18, h20, hall, f1, f2, hf1, hf2 => by
    obtain ⟨g1, rfl⟩ : ∃ g, f1 = g + 1 := ⟨f1 - 1, by omega⟩
    obtain ⟨g2, rfl⟩ : ∃ g, f2 = g + 1 := ⟨f2 - 1, by omega⟩
    have h96 := hT.1
    refine ⟨K, R, j, ?_, ?_, Nat.le_refl _, by omega, h6, h7, h5, h17, h18, h20, hall, MK.rf, MR.rf⟩
    · show F_X1_moveOn_137 _ _ _ _ = _
      unfold F_X1_moveOn_137
      rw [hT.2.1, h7, if_pos (jle (by omega) (by omega))]
    · show F_X9_nextToken_214 _ _ _ = _
      unfold F_X9_nextToken_214
      rw [h18, h17, jn_sub (by omega), show nI j = nI l by rw [show j = l by omega], hT.digitE, bd_s, if_pos z00]
      simp only [nm_eq]
  | r + 1, j, K, R, hj, hs, hT, h6, h7, h5, h17, h18, h20, hall, f1, f2, hf1, hf2 => by
    obtain ⟨g1, rfl⟩ : ∃ g, f1 = g + 1 := ⟨f1 - 1, by omega⟩
    obtain ⟨g2, rfl⟩ : ∃ g, f2 = g + 1 := ⟨f2 - 1, by omega⟩
    have h96 := hT.1
    have hjl : j < l := by omega
    have hbj := hT.2.2.2 j hjl
    by_cases q : srt (B j) = 2
    · have hd := srt_D q
      have hall2 : ∀ i, s ≤ i → i < j + 1 → srt (B i) = 2 := fun i h1 h2 => by
        by_cases ei : i = j
        · rw [ei]
          exact q
        · exact hall i h1 (by omega)
      have m1 : MK K (up K 48 7 (nI (j + 1))) := MK.rf.u (by omega) (by omega)
      have m2 : ∀ v, MR R (up (up R 0 20 v) 0 18 (nI (j + 1))) := fun v => (MR.rf.u (by omega) (by omega)).u (by omega) (by omega)
      obtain ⟨K1, R1, j1, e1, e2, e3, e4, e5, e6, e7, e8, e9, e10, e11, e12, e13⟩ := run_num (tg := tg) (e := e) (s := s) (t0 := t0) r (j + 1) (up K 48 7 (nI (j + 1))) (up (up R 0 20 (nI (dv B s (if j + 1 - s ≤ 4 then j + 1 - s else 4)))) 0 18 (nI (j + 1))) (by omega) (by omega) (hT.mv m1 (m2 _)) (by rw [u_oth (by decide)]; exact h6) u_at (by rw [u_oth (by decide)]; exact h5) (by rw [u_oth (by decide), u_oth (by decide)]; exact h17) u_at (by rw [u_oth (by decide), u_at]) hall2 g1 g2 (by omega) (by omega)
      refine ⟨K1, R1, j1, ?_, ?_, by omega, e4, e5, e6, e7, e8, e9, e10, e11, m1.tr e12, (m2 _).tr e13⟩
      · show F_X1_moveOn_137 _ _ _ _ = _
        unfold F_X1_moveOn_137
        rw [hT.2.1, h7, if_neg (jnle (by omega) (by omega)), hT.byte hjl, bd_s, hT.sort hjl, bd_s, h5, if_pos (by rw [q]), nm_eq, show nI j + 1 = nI (j + 1) from jn_add j 1]
        exact e1
      · show F_X9_nextToken_214 _ _ _ = _
        unfold F_X9_nextToken_214
        rw [h18, h17, jn_sub (by omega), hT.digit hjl, bd_s, if_pos q, if_neg n10]
        by_cases q4 : 4 ≤ j - s
        · rw [if_pos (show (4 : Int32) ≤ nI (j - s) from jle (a := 4) q4 (by omega)), nm_eq, nm_eq, u_oth (by decide), h18, h20, show nI j + 1 = nI (j + 1) from jn_add j 1]
          have ed : (if j - s ≤ 4 then j - s else 4) = (if j + 1 - s ≤ 4 then j + 1 - s else 4) := by
            rw [if_neg (show ¬ j + 1 - s ≤ 4 by omega)]
            by_cases q5 : j - s ≤ 4
            · rw [if_pos q5]
              omega
            · rw [if_neg q5]
          rw [ed]
          exact e2
        · have ed : dv B s (if j + 1 - s ≤ 4 then j + 1 - s else 4) = 10 * dv B s (j - s) + B j - 48 := by
            rw [if_pos (show j + 1 - s ≤ 4 by omega), show j + 1 - s = (j - s) + 1 by omega]
            show 10 * dv B s (j - s) + B (s + (j - s)) - 48 = _
            rw [show s + (j - s) = j by omega]
          rw [if_neg (show ¬ (4 : Int32) ≤ nI (j - s) from jnle (a := 4) (by omega) (by omega)), inb_t (by omega) (by omega), gd_t, tn_nI (by omega), nm_eq, nm_eq, u_oth (by decide), h18, h20, hbj.2.2, if_pos (show j - s ≤ 4 by omega), show (10 : Int32) = nI 10 from rfl, show (48 : Int32) = nI 48 from rfl, pk_mul, jn_add, jn_sub (by omega), show nI j + 1 = nI (j + 1) from jn_add j 1, ← ed]
          exact e2
    · refine ⟨K, R, j, ?_, ?_, Nat.le_refl _, by omega, h6, h7, h5, h17, h18, h20, hall, MK.rf, MR.rf⟩
      · have hs3 := srt_or (B j)
        show F_X1_moveOn_137 _ _ _ _ = _
        unfold F_X1_moveOn_137
        rw [hT.2.1, h7, if_neg (jnle (by omega) (by omega)), hT.byte hjl, bd_s, hT.sort hjl, bd_s, h5, if_neg (jne q (by omega) (by omega))]
      · show F_X9_nextToken_214 _ _ _ = _
        unfold F_X9_nextToken_214
        rw [h18, h17, jn_sub (by omega), hT.digit hjl, bd_s, if_neg q, if_pos z00]
        simp only [nm_eq]
theorem e_182 {tg e s : Nat} {K : Mem} (htg : tg = 0 ∨ tg = 1) (he : e < 1000) (hs : s < 1000) (h6 : K 48 6 = nI s) : F_X1_moveOn_182 (nI tg) (nI e) K = some (if tg = 1 ∧ e = s then up K 48 5 4 else K) := by
  unfold F_X1_moveOn_182
  rcases htg with rfl | rfl
  · rw [if_pos z00, if_neg (by omega)]
  · rw [if_neg n10, h6]
    by_cases q : e = s
    · rw [if_pos (by rw [q]), nm_eq, if_pos ⟨rfl, q⟩]
    · rw [if_neg (jne (fun x => q x.symm) (by omega) (by omega)), if_neg (fun x => q x.2)]
theorem e_72 {tg e s : Nat} {R : Mem} (htg : tg = 0 ∨ tg = 1) (he : e < 1000) (hs : s < 1000) (h18 : R 0 18 = nI s) : F_X9_nextToken_72 (nI tg) (nI e) R = F_X9_nextToken_89 (if tg = 1 ∧ e = s then 1 else 0) R := by
  unfold F_X9_nextToken_72
  rcases htg with rfl | rfl
  · rw [if_pos z00, if_neg (by omega)]
  · rw [if_neg n10, h18]
    by_cases q : e = s
    · rw [if_pos (by rw [q]), if_pos ⟨rfl, q⟩]
    · rw [if_neg (jne q (by omega) (by omega)), if_neg (fun x => q x.2)]
theorem e_move {e tg : Nat} (hT : Tp l B K R) (hP : Pre l K R e tg) : ∃ K' R' s' e' so', C_X1_moveOn K = some K' ∧ C_X9_nextToken R = some R' ∧ Tok l B K' R' s' e' so' ∧ e ≤ s' ∧ MK K K' ∧ MR R R' := by
  have hFU := FU_big
  have h96 := hT.1
  obtain ⟨p1, p2, p3, p4⟩ := hP
  have htg : tg = 0 ∨ tg = 1 := by
    rcases p4 with ⟨q, -⟩ | ⟨q, -⟩
    · exact Or.inr q
    · exact Or.inl q
  have hK0 : C_X1_moveOn K = L_X1_moveOn_35 FU (nI tg) (nI e) (up K 48 6 (nI e)) := by
    unfold C_X1_moveOn F_X1_moveOn_0 F_X1_moveOn_16
    rw [p2]
    rcases p4 with ⟨rfl, -, (⟨q, -⟩ | ⟨q, -⟩)⟩ | ⟨rfl, (q | q), -⟩
    · rw [q]
      rfl
    · rw [q]
      rfl
    · rw [q]
      rfl
    · rw [q]
      rfl
  have hR0 : C_X9_nextToken R = L_X9_nextToken_34 FU (nI tg) (nI e) R := by
    unfold C_X9_nextToken F_X9_nextToken_0
    rw [p3]
    rcases p4 with ⟨rfl, h0, (⟨-, q⟩ | ⟨-, q⟩)⟩ | ⟨rfl, -, q⟩
    · rw [if_neg (show ¬ nI e ≤ (0 : Int32) from jnle (b := 0) h0 (by omega)), q]
      rfl
    · rw [if_neg (show ¬ nI e ≤ (0 : Int32) from jnle (b := 0) h0 (by omega)), q]
      rfl
    · by_cases h0 : e = 0
      · rw [if_pos (show nI e ≤ (0 : Int32) by rw [h0]; decide)]
        rfl
      · rw [if_neg (show ¬ nI e ≤ (0 : Int32) from jnle (b := 0) (by omega) (by omega)), q]
        rfl
  have m0 : MK K (up K 48 6 (nI e)) := MK.rf.u (by omega) (by omega)
  obtain ⟨K1, R1, j, a1, a2, a3, a4, a5, a6, a7, a8⟩ := skip_ (tg := tg) (e := e) (l - e) e (up K 48 6 (nI e)) R (by omega) (hT.mv m0 MR.rf) u_at p3 FU FU (by omega) (by omega)
  have mK1 := m0.tr a7
  have hT1 := hT.mv mK1 a8
  rw [hK0, hR0, a1, a2, e_72 htg (by omega) (by omega) a6]
  unfold F_X1_moveOn_75 F_X9_nextToken_89
  rw [a5, a6, nm_eq, nm_eq, nm_eq, u_oth (by decide), u_ne (by decide), a5, hT1.2.1, u_at, u_oth (by decide), hT1.2.2.1]
  by_cases hjl : j = l
  · rw [if_neg (jnlt (by omega) (by omega)), if_pos (by rw [hjl]), nm_eq]
    refine ⟨_, _, j, j, 0, rfl, rfl, ⟨Nat.le_refl _, a4, ?_, ?_, ?_, ?_, ?_, Or.inl ⟨rfl, u_at⟩⟩, a3, (mK1.u (by omega) (by omega)).u (by omega) (by omega), (a8.u (by omega) (by omega)).u (by omega) (by omega)⟩
    · rw [u_oth (by decide), u_oth (by decide)]
      exact a5
    · rw [u_oth (by decide), u_at]
    · exact u_at
    · rw [u_oth (by decide), u_at]
    · rw [u_oth (by decide), u_oth (by decide)]
      exact a6
  · have hj : j < l := by omega
    have m2 : MK K (up K1 48 7 (nI j)) := mK1.u (by omega) (by omega)
    have n2 : MR R (up R1 0 17 (nI j)) := a8.u (by omega) (by omega)
    have hT2 := hT.mv m2 n2
    rw [if_pos (jlt hj (by omega)), if_neg (jne hjl (by omega) (by omega)), hT2.byte hj, bd_s, hT2.sort hj, bd_s, hT2.letter hj, bd_s]
    have m3 : MK K (up (up (up K1 48 7 (nI j)) 48 5 (nI (srt (B j)))) 48 7 (nI (j + 1))) := (m2.u (by omega) (by omega)).u (by omega) (by omega)
    have hend : up (up K1 48 7 (nI j)) 48 5 (nI (srt (B j))) 48 7 + 1 = nI (j + 1) := by
      rw [u_oth (by decide), u_at]
      exact jn_add j 1
    rw [nm_eq, hend, nm_eq, u_oth (by decide), u_at]
    rcases srt_or (B j) with q | q | q
    · rw [q] at m3 ⊢
      rw [if_neg (show ¬ nI 1 = (3 : Int32) by decide), if_pos rfl, if_neg n10]
      have n3 : MR R (up (up R1 0 17 (nI j)) 0 18 (nI (j + 1))) := n2.u (by omega) (by omega)
      obtain ⟨K4, R4, e1, b1, b2, b3, b4, b5, b6, b7, b8, b9, b10, b11, b12⟩ := run_word (tg := tg) (e := e) (s := j) (t0 := if tg = 1 ∧ e = j then 1 else 0) (l - (j + 1)) (j + 1) (up (up (up K1 48 7 (nI j)) 48 5 (nI 1)) 48 7 (nI (j + 1))) (up (up R1 0 17 (nI j)) 0 18 (nI (j + 1))) (by omega) (by omega) (hT.mv m3 n3) (by rw [u_oth (by decide), u_oth (by decide), u_oth (by decide)]; exact a5) u_at (by rw [u_oth (by decide), u_at]) (by rw [u_oth (by decide), u_at]) u_at (fun i h1 h2 => by rw [show i = j by omega]; exact q) FU (FU - 1) (by omega) (by omega)
      have step : L_X9_nextToken_128 FU (if tg = 1 ∧ e = j then 1 else 0) (up R1 0 17 (nI j)) = L_X9_nextToken_128 (FU - 1) (if tg = 1 ∧ e = j then 1 else 0) (up (up R1 0 17 (nI j)) 0 18 (nI (j + 1))) := by
        obtain ⟨g, hg⟩ : ∃ g, FU = g + 1 := ⟨FU - 1, by omega⟩
        rw [hg, Nat.add_sub_cancel]
        show F_X9_nextToken_128 _ _ _ = _
        unfold F_X9_nextToken_128
        rw [u_oth (by decide), a6, hT2.letter hj, bd_s, if_pos q, if_neg n10, nm_eq, show nI j + 1 = nI (j + 1) from jn_add j 1]
      rw [step, b1, b2, e_182 htg (by omega) (by omega) b5]
      have e162 : ∀ t : Int32, ∃ R5, F_X9_nextToken_162 t R4 = some R5 ∧ R5 0 17 = nI j ∧ R5 0 18 = nI e1 ∧ R5 0 19 = t ∧ R5 0 21 = (if e1 - j = 1 then nI (B j) else nI 0) ∧ MR R4 R5 := by
        intro t
        have hT4 := hT.mv (m3.tr b11) (n3.tr b12)
        unfold F_X9_nextToken_162
        rw [nm_eq, u_oth (by decide), u_oth (by decide), b8, b9, jn_sub (by omega)]
        by_cases q1 : e1 - j = 1
        · rw [if_pos (show nI (e1 - j) = (1 : Int32) by rw [q1]; rfl), inb_t (by omega) (by omega), gd_t, tn_nI (by omega), u_ne (by decide), (hT4.2.2.2 j hj).2.2, nm_eq, if_pos q1]
          refine ⟨_, rfl, ?_, ?_, ?_, u_at, (MR.rf.u (by omega) (by omega)).u (by omega) (by omega)⟩
          · rw [u_oth (by decide), u_oth (by decide)]
            exact b8
          · rw [u_oth (by decide), u_oth (by decide)]
            exact b9
          · rw [u_oth (by decide), u_at]
        · rw [if_neg (show ¬ nI (e1 - j) = (1 : Int32) from jne (b := 1) q1 (by omega) (by omega)), nm_eq, if_neg q1]
          refine ⟨_, rfl, ?_, ?_, ?_, u_at, (MR.rf.u (by omega) (by omega)).u (by omega) (by omega)⟩
          · rw [u_oth (by decide), u_oth (by decide)]
            exact b8
          · rw [u_oth (by decide), u_oth (by decide)]
            exact b9
          · rw [u_oth (by decide), u_at]
      by_cases ht : tg = 1 ∧ e = j
      · rw [if_pos ht, if_pos ht, if_neg (show ¬ (1 : Int32) = 0 from n10)]
        obtain ⟨R5, c1, c2, c3, c4, c5, c6⟩ := e162 4
        refine ⟨_, R5, j, e1, 4, rfl, c1, ⟨by omega, b4, ?_, ?_, u_at, c2, c3, Or.inr (Or.inr (Or.inr (Or.inr ⟨rfl, by omega, c4⟩)))⟩, a3, (m3.tr b11).u (by omega) (by omega), (n3.tr b12).tr c6⟩
        · rw [u_oth (by decide)]
          exact b5
        · rw [u_oth (by decide)]
          exact b6
      · rw [if_neg ht, if_neg ht, if_pos (show (0 : Int32) = 0 from rfl)]
        obtain ⟨R5, c1, c2, c3, c4, c5, c6⟩ := e162 1
        exact ⟨_, R5, j, e1, 1, rfl, c1, ⟨by omega, b4, b5, b6, b7, c2, c3, Or.inr (Or.inl ⟨rfl, by omega, c4, b10, c5⟩)⟩, a3, m3.tr b11, (n3.tr b12).tr c6⟩
    · rw [q] at m3 ⊢
      rw [if_neg (show ¬ nI 2 = (3 : Int32) by decide), if_neg (show ¬ 2 = 1 by decide), if_pos z00, hT2.digit hj, bd_s, if_pos q, if_neg n10, nm_eq]
      have n3 : MR R (up (up (up (up R1 0 17 (nI j)) 0 20 0) 0 20 (nI (dv B j 1))) 0 18 (nI (j + 1))) := ((n2.u (by omega) (by omega)).u (by omega) (by omega)).u (by omega) (by omega)
      obtain ⟨K4, R4, e1, b1, b2, b3, b4, b5, b6, b7, b8, b9, b9b, b10, b11, b12⟩ := run_num (tg := tg) (e := e) (s := j) (t0 := if tg = 1 ∧ e = j then 1 else 0) (l - (j + 1)) (j + 1) (up (up (up K1 48 7 (nI j)) 48 5 (nI 2)) 48 7 (nI (j + 1))) (up (up (up (up R1 0 17 (nI j)) 0 20 0) 0 20 (nI (dv B j 1))) 0 18 (nI (j + 1))) (by omega) (by omega) (hT.mv m3 n3) (by rw [u_oth (by decide), u_oth (by decide), u_oth (by decide)]; exact a5) u_at (by rw [u_oth (by decide), u_at]) (by rw [u_oth (by decide), u_oth (by decide), u_oth (by decide), u_at]) u_at (by rw [u_oth (by decide), u_at, show (if j + 1 - j ≤ 4 then j + 1 - j else 4) = 1 by rw [if_pos (by omega)]; omega]) (fun i h1 h2 => by rw [show i = j by omega]; exact q) FU (FU - 1) (by omega) (by omega)
      have step : L_X9_nextToken_214 FU (if tg = 1 ∧ e = j then 1 else 0) (up (up R1 0 17 (nI j)) 0 20 0) = L_X9_nextToken_214 (FU - 1) (if tg = 1 ∧ e = j then 1 else 0) (up (up (up (up R1 0 17 (nI j)) 0 20 0) 0 20 (nI (dv B j 1))) 0 18 (nI (j + 1))) := by
        obtain ⟨g, hg⟩ : ∃ g, FU = g + 1 := ⟨FU - 1, by omega⟩
        have n2b : MR R (up (up R1 0 17 (nI j)) 0 20 0) := n2.u (by omega) (by omega)
        have hT3 := hT.mv m2 n2b
        have hd := srt_D q
        have e18 : up (up R1 0 17 (nI j)) 0 20 0 0 18 = nI j := by
          rw [u_oth (by decide), u_oth (by decide)]
          exact a6
        have e17 : up (up R1 0 17 (nI j)) 0 20 0 0 17 = nI j := by rw [u_oth (by decide), u_at]
        have e15 : up (up R1 0 17 (nI j)) 0 20 0 15 j = nI (B j) := (hT3.2.2.2 j hj).2.2
        have ed : 10 * (0 : Int32) + nI (B j) - 48 = nI (dv B j 1) := by
          rw [show (10 : Int32) * 0 = nI 0 by decide, jn_add, show (48 : Int32) = nI 48 from rfl, jn_sub (by omega)]
          show nI (0 + B j - 48) = nI (10 * 0 + B (j + 0) - 48)
          rw [Nat.add_zero]
        rw [hg, Nat.add_sub_cancel]
        show F_X9_nextToken_214 _ _ _ = _
        unfold F_X9_nextToken_214
        rw [e18, e17, jn_sub (by omega), hT3.digit hj, bd_s, if_pos q, if_neg n10, if_neg (show ¬ (4 : Int32) ≤ nI (j - j) from jnle (a := 4) (by omega) (by omega)), inb_t (by omega) (by omega), gd_t, tn_nI (by omega), e15, u_at, ed, nm_eq, nm_eq, u_oth (by decide), e18, show nI j + 1 = nI (j + 1) from jn_add j 1]
      rw [step, b1, b2, e_182 htg (by omega) (by omega) b5]
      by_cases ht : tg = 1 ∧ e = j
      · rw [if_pos ht, if_pos ht, if_neg (show ¬ (1 : Int32) = 0 from n10)]
        refine ⟨_, _, j, e1, 4, rfl, rfl, ⟨by omega, b4, ?_, ?_, u_at, ?_, ?_, Or.inr (Or.inr (Or.inr (Or.inr ⟨rfl, by omega, u_at⟩)))⟩, a3, (m3.tr b11).u (by omega) (by omega), (n3.tr b12).u (by omega) (by omega)⟩
        · rw [u_oth (by decide)]
          exact b5
        · rw [u_oth (by decide)]
          exact b6
        · rw [u_oth (by decide)]
          exact b8
        · rw [u_oth (by decide)]
          exact b9
      · rw [if_neg ht, if_neg ht, if_pos (show (0 : Int32) = 0 from rfl)]
        by_cases q4 : e1 - j ≤ 4
        · rw [if_pos (show nI (e1 - j) ≤ (4 : Int32) from jle (b := 4) q4 (by omega))]
          rw [if_pos q4] at b9b
          refine ⟨_, _, j, e1, 2, rfl, rfl, ⟨by omega, b4, b5, b6, b7, ?_, ?_, Or.inr (Or.inr (Or.inl ⟨rfl, by omega, b10, Or.inl ⟨q4, u_at, ?_⟩⟩))⟩, a3, m3.tr b11, (n3.tr b12).u (by omega) (by omega)⟩
          · rw [u_oth (by decide)]
            exact b8
          · rw [u_oth (by decide)]
            exact b9
          · rw [u_oth (by decide)]
            exact b9b
        · rw [if_neg (show ¬ nI (e1 - j) ≤ (4 : Int32) from jnle (b := 4) (by omega) (by omega))]
          refine ⟨_, _, j, e1, 2, rfl, rfl, ⟨by omega, b4, b5, b6, b7, ?_, ?_, Or.inr (Or.inr (Or.inl ⟨rfl, by omega, b10, Or.inr ⟨by omega, u_at⟩⟩))⟩, a3, m3.tr b11, (n3.tr b12).u (by omega) (by omega)⟩
          · rw [u_oth (by decide)]
            exact b8
          · rw [u_oth (by decide)]
            exact b9
    · rw [q] at m3 ⊢
      rw [if_pos (show nI 3 = (3 : Int32) from rfl), if_neg (show ¬ 3 = 1 by decide), if_pos z00, hT2.digit hj, bd_s, if_neg (show ¬ srt (B j) = 2 by omega), if_pos z00, nm_eq, u_oth (by decide), u_at, inb_t (by omega) (by omega), gd_t, tn_nI (by omega), u_ne (by decide), (hT2.2.2.2 j hj).2.2, nm_eq, nm_eq]
      have n3 : MR R (up (up (up R1 0 17 (nI j)) 0 19 3) 0 21 (nI (B j))) := (n2.u (by omega) (by omega)).u (by omega) (by omega)
      refine ⟨_, _, j, j + 1, 3, rfl, rfl, ⟨by omega, by omega, ?_, u_at, ?_, ?_, ?_, Or.inr (Or.inr (Or.inr (Or.inl ⟨rfl, rfl, ?_, ?_, q⟩)))⟩, a3, m3, n3.u (by omega) (by omega)⟩
      · rw [u_oth (by decide), u_oth (by decide), u_oth (by decide)]
        exact a5
      · rw [u_oth (by decide), u_at]
      · rw [u_oth (by decide), u_oth (by decide), u_oth (by decide), u_at]
      · rw [u_at, u_oth (by decide), u_oth (by decide), u_oth (by decide), a6]
        exact jn_add j 1
      · rw [u_oth (by decide), u_oth (by decide), u_at]
        rfl
      · rw [u_oth (by decide), u_at]
end TOK
