/-! the tape read on both sides: its KEY; the whole TEXT -/
theorem if_nI {α : Type} {a b : Nat} (ha : a < 2147483648) (hb : b < 2147483648) (x y : α) : (if nI a = nI b then x else y) = if a = b then x else y := by
  by_cases h : a = b
  · rw [if_pos (by rw [h]), if_pos h]
  · rw [if_neg (jne h ha hb), if_neg h]
section KEY
variable {K R : Mem} {l A key m op no s e so tn : Nat} {B : Nat → Nat} {p : Nat → Nat × Nat}
theorem Tok.y1 (h : Tok l B K R s e so) (q : so = 1) : R 0 19 = nI 1 ∧ s < e := by
  obtain ⟨h1, h2, h3, h4, h5, h6, h7, h8⟩ := h
  rcases h8 with ⟨q1, -⟩ | ⟨-, q1, q2, -⟩ | ⟨q1, -⟩ | ⟨q1, -⟩ | ⟨q1, -⟩
  · omega
  · exact ⟨q2, q1⟩
  · omega
  · omega
  · omega
theorem Tok.n1 (h : Tok l B K R s e so) (q : so ≠ 1) : ¬ R 0 19 = 1 := by
  obtain ⟨h1, h2, h3, h4, h5, h6, h7, h8⟩ := h
  rcases h8 with ⟨-, q1⟩ | ⟨q1, -⟩ | ⟨-, -, -, (⟨-, q1, -⟩ | ⟨-, q1⟩)⟩ | ⟨-, -, q1, -⟩ | ⟨-, -, q1⟩
  · rw [q1]
    decide
  · exact absurd q1 q
  · rw [q1]
    decide
  · rw [q1]
    decide
  · rw [q1]
    decide
  · rw [q1]
    decide
theorem Tok.end_ (h : Tok l B K R s e so) : so = 0 ↔ R 0 19 = 0 := by
  obtain ⟨h1, h2, h3, h4, h5, h6, h7, h8⟩ := h
  rcases h8 with ⟨q, q1⟩ | ⟨q, -, q1, -⟩ | ⟨q, -, -, (⟨-, q1, -⟩ | ⟨-, q1⟩)⟩ | ⟨q, -, q1, -⟩ | ⟨q, -, q1⟩
  · rw [q1]
    exact ⟨fun _ => rfl, fun _ => q⟩
  · rw [q1]
    exact ⟨fun x => by omega, fun x => absurd x (by decide)⟩
  · rw [q1]
    exact ⟨fun x => by omega, fun x => absurd x (by decide)⟩
  · rw [q1]
    exact ⟨fun x => by omega, fun x => absurd x (by decide)⟩
  · rw [q1]
    exact ⟨fun x => by omega, fun x => absurd x (by decide)⟩
  · rw [q1]
    exact ⟨fun x => by omega, fun x => absurd x (by decide)⟩
theorem wd_step (hT : Tp l B K R) (h6 : K 48 6 = nI s) {iw len j c g : Nat} (hl : strL.getD iw 0 = len) (hj : j < len) (hlen : len ≤ 4) (hjl : s + j < l) (hc : sb iw j = nI c) (hc2 : c < 256) : L_X1_isWord_28 iw K (g + 1) (nI j) = if B (s + j) = c then L_X1_isWord_28 iw K g (nI (j + 1)) else some 0 := by
  have hb := (hT.2.2.2 (s + j) hjl).1
  have h96 := hT.1
  have es : strl iw = nI len := by
    unfold strl
    rw [hl]
    rfl
  show F_X1_isWord_28 _ _ _ _ = _
  unfold F_X1_isWord_28
  rw [es, if_neg (jnle (by omega) (by omega)), h6, jn_add, hT.byte hjl, bd_s, hl, inb_t hj (by omega), gd_t, tn_nI (by omega), hc, if_nI (by omega) (by omega), nm_eq, show nI j + 1 = nI (j + 1) from jn_add j 1]
theorem wd_end {iw len g : Nat} (hl : strL.getD iw 0 = len) (hlen : len ≤ 4) : L_X1_isWord_28 iw K (g + 1) (nI len) = some 1 := by
  have es : strl iw = nI len := by
    unfold strl
    rw [hl]
    rfl
  show F_X1_isWord_28 _ _ _ _ = _
  unfold F_X1_isWord_28
  rw [es, if_pos (jle (Nat.le_refl _) (by omega))]
/-- neither is that word -/
theorem word_no (hTok : Tok l B K R s e so) (hl96 : l ≤ 96) {iw len : Nat} (hl : strL.getD iw 0 = len) (hlen : len ≤ 4) (q : ¬ (so = 1 ∧ e - s = len)) (a b c d : Int32) : C_X1_isWord iw K = some (nI 0) ∧ F_X9_isWordAt_10 R a b c d (nI len) = some (nI 0) := by
  have h5 := hTok.2.2.2.2.1
  have h6 := hTok.2.2.1
  have h7 := hTok.2.2.2.1
  have h17 := hTok.2.2.2.2.2.1
  have h18 := hTok.2.2.2.2.2.2.1
  have hse := hTok.1
  have hel := hTok.2.1
  have hso := hTok.so4
  have es : strl iw = nI len := by
    unfold strl
    rw [hl]
    rfl
  unfold C_X1_isWord F_X1_isWord_0 F_X9_isWordAt_10
  by_cases q1 : so = 1
  · have q2 : e - s ≠ len := fun x => q ⟨q1, x⟩
    rw [h5, q1, if_pos (show nI 1 = (1 : Int32) from rfl), h7, h6, jn_sub hse, es, if_neg (jne q2 (by omega) (by omega)), (hTok.y1 q1).1, if_pos (show nI 1 = (1 : Int32) from rfl), h18, h17, jn_sub hse, if_neg (jne q2 (by omega) (by omega))]
    exact ⟨rfl, rfl⟩
  · rw [h5, if_neg (show ¬ nI so = (1 : Int32) from jne (b := 1) q1 (by omega) (by omega)), if_neg (hTok.n1 q1)]
    exact ⟨rfl, rfl⟩
theorem word4 (hT : Tp l B K R) (hTok : Tok l B K R s e so) {iw a b c d : Nat} (hl : strL.getD iw 0 = 4) (ha : sb iw 0 = nI a) (hb : sb iw 1 = nI b) (hc : sb iw 2 = nI c) (hd : sb iw 3 = nI d) (la : a < 256) (lb : b < 256) (lc : c < 256) (ld : d < 256) (d0 : d ≠ 0) : ∃ r, C_X1_isWord iw K = some r ∧ C_X9_isWordAt R (nI a) (nI b) (nI c) (nI d) = some r ∧ (r = nI 0 ∨ (r = nI 1 ∧ so = 1)) := by
  have hFU := FU_big
  have h96 := hT.1
  have h5 := hTok.2.2.2.2.1
  have h6 := hTok.2.2.1
  have h7 := hTok.2.2.2.1
  have h17 := hTok.2.2.2.2.2.1
  have h18 := hTok.2.2.2.2.2.2.1
  have hse := hTok.1
  have hel := hTok.2.1
  have e10 : C_X9_isWordAt R (nI a) (nI b) (nI c) (nI d) = F_X9_isWordAt_10 R (nI a) (nI b) (nI c) (nI d) (nI 4) := by
    unfold C_X9_isWordAt F_X9_isWordAt_0
    rw [if_neg (show ¬ nI d = (0 : Int32) from jne (b := 0) d0 (by omega) (by omega))]
    rfl
  rw [e10]
  by_cases q : so = 1 ∧ e - s = 4
  · have hb0 := (hT.2.2.2 s (by omega))
    have hb1 := (hT.2.2.2 (s + 1) (by omega))
    have hb2 := (hT.2.2.2 (s + 2) (by omega))
    have hb3 := (hT.2.2.2 (s + 3) (by omega))
    have es : strl iw = nI 4 := by
      unfold strl
      rw [hl]
      rfl
    have eK : C_X1_isWord iw K = if B s = a then (if B (s + 1) = b then (if B (s + 2) = c then (if B (s + 3) = d then some (1 : Int32) else some 0) else some 0) else some 0) else some 0 := by
      obtain ⟨g, hg⟩ : ∃ g, FU = g + 5 := ⟨FU - 5, by omega⟩
      have w0 : L_X1_isWord_28 iw K (g + 5) 0 = if B s = a then L_X1_isWord_28 iw K (g + 4) (nI 1) else some 0 := wd_step (g := g + 4) (j := 0) hT h6 hl (by omega) (by omega) (by omega) ha la
      have w1 : L_X1_isWord_28 iw K (g + 4) (nI 1) = if B (s + 1) = b then L_X1_isWord_28 iw K (g + 3) (nI 2) else some 0 := wd_step (g := g + 3) (j := 1) hT h6 hl (by omega) (by omega) (by omega) hb lb
      have w2 : L_X1_isWord_28 iw K (g + 3) (nI 2) = if B (s + 2) = c then L_X1_isWord_28 iw K (g + 2) (nI 3) else some 0 := wd_step (g := g + 2) (j := 2) hT h6 hl (by omega) (by omega) (by omega) hc lc
      have w3 : L_X1_isWord_28 iw K (g + 2) (nI 3) = if B (s + 3) = d then L_X1_isWord_28 iw K (g + 1) (nI 4) else some 0 := wd_step (g := g + 1) (j := 3) hT h6 hl (by omega) (by omega) (by omega) hd ld
      unfold C_X1_isWord F_X1_isWord_0
      rw [h5, q.1, if_pos (show nI 1 = (1 : Int32) from rfl), h7, h6, jn_sub hse, q.2, es, if_pos rfl, hg, w0, w1, w2, w3, wd_end hl (by omega)]
    have eR : F_X9_isWordAt_10 R (nI a) (nI b) (nI c) (nI d) (nI 4) = if B s = a then (if B (s + 1) = b then (if B (s + 2) = c then (if B (s + 3) = d then some (1 : Int32) else some 0) else some 0) else some 0) else some 0 := by
      unfold F_X9_isWordAt_10
      rw [(hTok.y1 q.1).1, if_pos (show nI 1 = (1 : Int32) from rfl), h18, h17, jn_sub hse, q.2, if_pos rfl, show nI s + 1 = nI (s + 1) from jn_add s 1, show nI s + 2 = nI (s + 2) from jn_add s 2, show nI s + 3 = nI (s + 3) from jn_add s 3, inb_t (by omega) (by omega), gd_t, tn_nI (by omega), hb0.2.2, if_nI (by omega) (by omega), inb_t (by omega) (by omega), gd_t, tn_nI (by omega), hb1.2.2, if_nI (by omega) (by omega), inb_t (by omega) (by omega), gd_t, tn_nI (by omega), hb2.2.2, if_nI (by omega) (by omega), if_neg (show ¬ nI d = (0 : Int32) from jne (b := 0) d0 (by omega) (by omega)), inb_t (by omega) (by omega), gd_t, tn_nI (by omega), hb3.2.2, if_nI (by omega) (by omega)]
    rw [eK, eR]
    split
    · split
      · split
        · split
          · exact ⟨_, rfl, rfl, Or.inr ⟨rfl, q.1⟩⟩
          · exact ⟨_, rfl, rfl, Or.inl rfl⟩
        · exact ⟨_, rfl, rfl, Or.inl rfl⟩
      · exact ⟨_, rfl, rfl, Or.inl rfl⟩
    · exact ⟨_, rfl, rfl, Or.inl rfl⟩
  · obtain ⟨e1, e2⟩ := word_no hTok h96 hl (by omega) q (nI a) (nI b) (nI c) (nI d)
    exact ⟨_, e1, e2, Or.inl rfl⟩
theorem word3 (hT : Tp l B K R) (hTok : Tok l B K R s e so) {iw a b c : Nat} (hl : strL.getD iw 0 = 3) (ha : sb iw 0 = nI a) (hb : sb iw 1 = nI b) (hc : sb iw 2 = nI c) (la : a < 256) (lb : b < 256) (lc : c < 256) : ∃ r, C_X1_isWord iw K = some r ∧ C_X9_isWordAt R (nI a) (nI b) (nI c) 0 = some r ∧ (r = nI 0 ∨ (r = nI 1 ∧ so = 1)) := by
  have hFU := FU_big
  have h96 := hT.1
  have h5 := hTok.2.2.2.2.1
  have h6 := hTok.2.2.1
  have h7 := hTok.2.2.2.1
  have h17 := hTok.2.2.2.2.2.1
  have h18 := hTok.2.2.2.2.2.2.1
  have hse := hTok.1
  have hel := hTok.2.1
  have e10 : C_X9_isWordAt R (nI a) (nI b) (nI c) 0 = F_X9_isWordAt_10 R (nI a) (nI b) (nI c) 0 (nI 3) := by
    unfold C_X9_isWordAt F_X9_isWordAt_0
    rw [if_pos rfl]
    rfl
  rw [e10]
  by_cases q : so = 1 ∧ e - s = 3
  · have hb0 := (hT.2.2.2 s (by omega))
    have hb1 := (hT.2.2.2 (s + 1) (by omega))
    have hb2 := (hT.2.2.2 (s + 2) (by omega))
    have es : strl iw = nI 3 := by
      unfold strl
      rw [hl]
      rfl
    have eK : C_X1_isWord iw K = if B s = a then (if B (s + 1) = b then (if B (s + 2) = c then some (1 : Int32) else some 0) else some 0) else some 0 := by
      obtain ⟨g, hg⟩ : ∃ g, FU = g + 4 := ⟨FU - 4, by omega⟩
      have w0 : L_X1_isWord_28 iw K (g + 4) 0 = if B s = a then L_X1_isWord_28 iw K (g + 3) (nI 1) else some 0 := wd_step (g := g + 3) (j := 0) hT h6 hl (by omega) (by omega) (by omega) ha la
      have w1 : L_X1_isWord_28 iw K (g + 3) (nI 1) = if B (s + 1) = b then L_X1_isWord_28 iw K (g + 2) (nI 2) else some 0 := wd_step (g := g + 2) (j := 1) hT h6 hl (by omega) (by omega) (by omega) hb lb
      have w2 : L_X1_isWord_28 iw K (g + 2) (nI 2) = if B (s + 2) = c then L_X1_isWord_28 iw K (g + 1) (nI 3) else some 0 := wd_step (g := g + 1) (j := 2) hT h6 hl (by omega) (by omega) (by omega) hc lc
      unfold C_X1_isWord F_X1_isWord_0
      rw [h5, q.1, if_pos (show nI 1 = (1 : Int32) from rfl), h7, h6, jn_sub hse, q.2, es, if_pos rfl, hg, w0, w1, w2, wd_end hl (by omega)]
    have eR : F_X9_isWordAt_10 R (nI a) (nI b) (nI c) 0 (nI 3) = if B s = a then (if B (s + 1) = b then (if B (s + 2) = c then some (1 : Int32) else some 0) else some 0) else some 0 := by
      unfold F_X9_isWordAt_10
      rw [(hTok.y1 q.1).1, if_pos (show nI 1 = (1 : Int32) from rfl), h18, h17, jn_sub hse, q.2, if_pos (show nI 3 = nI 3 from rfl), show nI s + 1 = nI (s + 1) from jn_add s 1, show nI s + 2 = nI (s + 2) from jn_add s 2, inb_t (by omega) (by omega), gd_t, tn_nI (by omega), hb0.2.2, if_nI (by omega) (by omega), inb_t (by omega) (by omega), gd_t, tn_nI (by omega), hb1.2.2, if_nI (by omega) (by omega), inb_t (by omega) (by omega), gd_t, tn_nI (by omega), hb2.2.2, if_nI (by omega) (by omega), if_pos (show (0 : Int32) = 0 from rfl)]
    rw [eK, eR]
    split
    · split
      · split
        · exact ⟨_, rfl, rfl, Or.inr ⟨rfl, q.1⟩⟩
        · exact ⟨_, rfl, rfl, Or.inl rfl⟩
      · exact ⟨_, rfl, rfl, Or.inl rfl⟩
    · exact ⟨_, rfl, rfl, Or.inl rfl⟩
  · obtain ⟨e1, e2⟩ := word_no hTok h96 hl (by omega) q (nI a) (nI b) (nI c) 0
    exact ⟨_, e1, e2, Or.inl rfl⟩
theorem key_e (hT : Tp l B K R) (hTok : Tok l B K R s e so) : ∃ r, C_X1_keyHere K = some r ∧ C_X9_key R = some r ∧ (r = -1 ∨ ∃ key, key < 3 ∧ r = nI key ∧ so = 1) := by
  obtain ⟨r0, a0, b0, c0⟩ := word4 hT hTok (iw := 0) (a := 119) (b := 101) (c := 97) (d := 114) rfl rfl rfl rfl rfl (by omega) (by omega) (by omega) (by omega) (by omega)
  obtain ⟨r1, a1, b1, c1⟩ := word3 hT hTok (iw := 1) (a := 102) (b := 101) (c := 101) rfl rfl rfl rfl (by omega) (by omega) (by omega)
  obtain ⟨r2, a2, b2, c2⟩ := word4 hT hTok (iw := 2) (a := 102) (b := 105) (c := 110) (d := 101) rfl rfl rfl rfl rfl (by omega) (by omega) (by omega) (by omega) (by omega)
  have b0' : C_X9_isWordAt R 119 101 97 114 = some r0 := b0
  have b1' : C_X9_isWordAt R 102 101 101 0 = some r1 := b1
  have b2' : C_X9_isWordAt R 102 105 110 101 = some r2 := b2
  unfold C_X1_keyHere F_X1_keyHere_0 C_X9_key F_X9_key_0
  rw [a0, b0', bd_s, bd_s]
  rcases c0 with rfl | ⟨rfl, q⟩
  · rw [if_pos z00, if_pos z00, a1, b1', bd_s, bd_s]
    rcases c1 with rfl | ⟨rfl, q⟩
    · rw [if_pos z00, if_pos z00, a2, b2', bd_s]
      rcases c2 with rfl | ⟨rfl, q⟩
      · rw [if_pos z00]
        exact ⟨_, rfl, rfl, Or.inl rfl⟩
      · rw [if_neg n10]
        exact ⟨_, rfl, rfl, Or.inr ⟨2, by omega, rfl, q⟩⟩
    · rw [if_neg n10, if_neg n10]
      exact ⟨_, rfl, rfl, Or.inr ⟨1, by omega, rfl, q⟩⟩
  · rw [if_neg n10, if_neg n10]
    exact ⟨_, rfl, rfl, Or.inr ⟨0, by omega, rfl, q⟩⟩
/-- the whole tape -/
theorem e_parse (hT : Tp l B K R) (htn : tn ≤ 14) (h1 : R 1 1 = nI tn) (hA' : A = if tn = 14 then 2858 else 62 + 200 * tn) : ∃ K' R', (∀ a j, a ≠ 48 → a ≠ 49 → K' a j = K a j) ∧ (∀ a j, ¬ (a = 1 ∧ A ≤ j ∧ j < A + 192) → ¬ (a = 0 ∧ 17 ≤ j ∧ j ≤ 26) → R' a j = R a j) ∧ ((∃ s, s ≤ 96 ∧ C_X1_faultOfTape K = some (nI s, K') ∧ C_X9_parse R = some (-1, up R' 0 16 0) ∧ R' 0 17 = nI s) ∨ (∃ key m p, key < 3 ∧ C_X1_faultOfTape K = some (-1, K') ∧ C_X9_parse R = some (nI key, up R' 0 16 0) ∧ Em A key m p K' R' ∧ dep p m = 1 ∧ m ≤ 96 ∧ K' 48 4 = nI key)) := by
  have hA : A + 192 ≤ 3058 := by
    by_cases q : tn = 14
    · rw [if_pos q] at hA'
      omega
    · rw [if_neg q] at hA'
      omega
  have hR0 : C_X9_parse R = bd (C_X9_nextToken (up (up (up (up (up (up (up R 0 18 0) 0 19 3) 0 22 0) 0 23 0) 0 24 0) 0 26 0) 0 25 (nI A))) fun K14 => bd (C_X9_key K14) fun r16 => if r16 < 0 then F_X9_parse_81 r16 0 K14 else F_X9_parse_81 r16 1 K14 := by
    have e1 : (up (up (up (up (up (up R 0 18 0) 0 19 3) 0 22 0) 0 23 0) 0 24 0) 0 26 0) 1 1 = nI tn := by
      rw [u_ne (by decide), u_ne (by decide), u_ne (by decide), u_ne (by decide), u_ne (by decide), u_ne (by decide)]
      exact h1
    unfold C_X9_parse F_X9_parse_0
    rw [nm_eq, nm_eq, nm_eq, nm_eq, nm_eq, nm_eq, show inb 1 3058 = true from by decide, gd_t, show Int32.toNatClampNeg 1 = 1 from by decide, e1]
    unfold C_X9_textAt F_X9_textAt_0 F_X9_parse_60
    by_cases q : tn = 14
    · rw [if_pos q] at hA'
      rw [if_pos (show (14 : Int32) ≤ nI tn from jle (a := 14) (by omega) (by omega)), nm_eq, hA']
      rfl
    · rw [if_neg q] at hA'
      rw [if_neg (show ¬ (14 : Int32) ≤ nI tn from jnle (a := 14) (by omega) (by omega)), gd_t, bd_s, nm_eq, show (58 : Int32) + 200 * nI tn + 4 = nI A by rw [show (200 : Int32) = nI 200 from rfl, show (58 : Int32) = nI 58 from rfl, show (4 : Int32) = nI 4 from rfl, pk_mul, jn_add, jn_add, hA', show 58 + 200 * tn + 4 = 62 + 200 * tn by omega]]
  generalize hRI : up (up (up (up (up (up (up R 0 18 0) 0 19 3) 0 22 0) 0 23 0) 0 24 0) 0 26 0) 0 25 (nI A) = RI at hR0
  have g0 : ∀ a j, ¬ (a = 0 ∧ 17 ≤ j ∧ j ≤ 26) → RI a j = R a j := by
    intro a j x
    rw [← hRI, u_if, if_neg (by omega), u_if, if_neg (by omega), u_if, if_neg (by omega), u_if, if_neg (by omega), u_if, if_neg (by omega), u_if, if_neg (by omega), u_if, if_neg (by omega)]
  have i18 : RI 0 18 = nI 0 := by
    rw [← hRI, u_oth (by decide), u_oth (by decide), u_oth (by decide), u_oth (by decide), u_oth (by decide), u_oth (by decide), u_at]
    rfl
  have i19 : RI 0 19 = nI 3 := by
    rw [← hRI, u_oth (by decide), u_oth (by decide), u_oth (by decide), u_oth (by decide), u_oth (by decide), u_at]
    rfl
  have i22 : RI 0 22 = nI 0 := by
    rw [← hRI, u_oth (by decide), u_oth (by decide), u_oth (by decide), u_oth (by decide), u_at]
    rfl
  have i23 : RI 0 23 = nI 0 := by
    rw [← hRI, u_oth (by decide), u_oth (by decide), u_oth (by decide), u_at]
    rfl
  have i24 : RI 0 24 = nI 0 := by
    rw [← hRI, u_oth (by decide), u_oth (by decide), u_at]
    rfl
  have i26 : RI 0 26 = nI 0 := by
    rw [← hRI, u_oth (by decide), u_at]
    rfl
  have i25 : RI 0 25 = nI A := by rw [← hRI, u_at]
  clear hRI
  have hK0 : C_X1_faultOfTape K = bd (C_X1_moveOn (up (up (up (up K 48 2 0) 48 3 0) 48 5 0) 48 7 0)) fun K6 => bd (C_X1_keyHere K6) fun r8 => if 0 ≤ up K6 48 4 r8 48 4 then bd (C_X1_moveOn (up K6 48 4 r8)) fun K12 => bd2 (C_X1_level 0 0 0 K12) fun r15 K14 => if r15 = 0 then some (K14 48 6, K14) else if K14 48 5 = 0 then some (-1, K14) else some (K14 48 6, K14) else some (up K6 48 4 r8 48 6, up K6 48 4 r8) := by
    unfold C_X1_faultOfTape F_X1_faultOfTape_0
    rw [nm_eq, nm_eq, nm_eq, nm_eq]
    simp only [nm_eq]
  generalize hKI : up (up (up (up K 48 2 0) 48 3 0) 48 5 0) 48 7 0 = KI at hK0
  have k0 : ∀ a j, a ≠ 48 → KI a j = K a j := by
    intro a j x
    rw [← hKI, u_ne x, u_ne x, u_ne x, u_ne x]
  have j2 : KI 48 2 = nI 0 := by
    rw [← hKI, u_oth (by decide), u_oth (by decide), u_oth (by decide), u_at]
    rfl
  have j3 : KI 48 3 = nI 0 := by
    rw [← hKI, u_oth (by decide), u_oth (by decide), u_at]
    rfl
  have j5 : KI 48 5 = nI 0 := by
    rw [← hKI, u_oth (by decide), u_at]
    rfl
  have j7 : KI 48 7 = nI 0 := by
    rw [← hKI, u_at]
    rfl
  clear hKI
  have hTI : Tp l B KI RI := by
    obtain ⟨t1, t2, t3, t4⟩ := hT
    refine ⟨t1, ?_, ?_, fun i hi => ⟨(t4 i hi).1, ?_, ?_⟩⟩
    · rw [k0 46 1 (by decide)]
      exact t2
    · rw [g0 0 16 (by omega)]
      exact t3
    · rw [k0 47 i (by decide)]
      exact (t4 i hi).2.1
    · rw [g0 15 i (by omega)]
      exact (t4 i hi).2.2
  obtain ⟨K1, R1, s1, e1, so1, a1, a2, a3, a4, a5, a6⟩ := e_move (e := 0) (tg := 0) hTI ⟨Nat.zero_le _, j7, i18, Or.inr ⟨rfl, Or.inl j5, i19⟩⟩
  have hT1 := hTI.mv a5 a6
  have hs1 : s1 ≤ 96 := by
    have := a3.1
    have := a3.2.1
    have := hT.1
    omega
  obtain ⟨r, b1, b2, b3⟩ := key_e hT1 a3
  have kf1 : ∀ a j, a ≠ 48 → a ≠ 49 → K1 a j = K a j := fun a j x y => (a5 a j (by omega)).trans (k0 a j x)
  have rf1 : ∀ a j, ¬ (a = 1 ∧ A ≤ j ∧ j < A + 192) → ¬ (a = 0 ∧ 17 ≤ j ∧ j ≤ 26) → R1 a j = R a j := fun a j x y => (a6 a j (by omega)).trans (g0 a j y)
  rw [hK0, hR0, a1, bd_s, a2, bd_s, b1, bd_s, b2, bd_s, u_at, u_oth (by decide)]
  rcases b3 with rfl | ⟨key, hk, rfl, q1⟩
  · refine ⟨up K1 48 4 (-1), R1, fun a j x y => by rw [u_ne x]; exact kf1 a j x y, rf1, Or.inl ⟨s1, hs1, ?_, ?_, a3.2.2.2.2.2.1⟩⟩
    · rw [if_neg neg1_lt, a3.2.2.1]
    · rw [if_pos (show (-1 : Int32) < 0 by decide)]
      rfl
  · rw [if_pos (show (0 : Int32) ≤ nI key from jle (a := 0) (Nat.zero_le _) (by omega)), if_neg (show ¬ nI key < (0 : Int32) from jnlt (b := 0) (Nat.zero_le _) (by omega))]
    unfold F_X9_parse_81
    rw [if_neg (show ¬ (1 : Int32) = 0 from n10)]
    obtain ⟨tg, hp⟩ := a3.pre (Or.inl q1)
    have mid : Mid l B A key 0 0 (up K1 48 4 (nI key)) R1 (fun _ => (0, 0)) 0 e1 := by
      refine ⟨?_, ⟨tg, ?_⟩, ⟨?_, ?_, ?_, ?_, fun i hi => absurd hi (Nat.not_lt_zero _), fun i hi => absurd hi (Nat.not_lt_zero _)⟩, Nat.zero_le _, u_at, ?_, ?_⟩
      · obtain ⟨t1, t2, t3, t4⟩ := hT1
        refine ⟨t1, ?_, t3, fun i hi => ⟨(t4 i hi).1, ?_, (t4 i hi).2.2⟩⟩
        · rw [u_ne (by decide)]
          exact t2
        · rw [u_ne (by decide)]
          exact (t4 i hi).2.1
      · unfold Pre at hp ⊢
        rw [u_oth (by decide), u_oth (by decide)]
        exact hp
      · rw [u_oth (by decide), a5 48 2 (by omega)]
        exact j2
      · rw [a6 0 24 (by omega)]
        exact i24
      · rw [a6 0 25 (by omega)]
        exact i25
      · rw [u_oth (by decide), a5 48 3 (by omega), a6 0 26 (by omega), j3, i26]
      · rw [a6 0 22 (by omega)]
        exact i22
      · rw [a6 0 23 (by omega)]
        exact i23
    obtain ⟨K2, R2, s2, e2, so2, c1, c2, c3, c4, c5, c6⟩ := mid_move mid
    obtain ⟨K3, R3, d1, d2, d3⟩ := lg_top hk hA 128 128 (by omega) (by omega) K2 R2 (fun _ => (0, 0)) 0 s2 e2 so2 c3
    have kf3 : ∀ a j, a ≠ 48 → a ≠ 49 → K3 a j = K a j := fun a j x y => (d1 a j y (by omega)).trans ((c5 a j y (by omega)).trans (by rw [u_ne x]; exact kf1 a j x y))
    have rf3 : ∀ a j, ¬ (a = 1 ∧ A ≤ j ∧ j < A + 192) → ¬ (a = 0 ∧ 17 ≤ j ∧ j ≤ 26) → R3 a j = R a j := fun a j x y => (d2 a j x (by omega)).trans ((c6 a j x (by omega)).trans (rf1 a j x y))
    rw [c1, bd_s, c2, bd_s]
    rcases d3 with ⟨f1, f2, s', f3, f4, f5⟩ | ⟨f1, f2, p', m', s', e', so', f3, f4, f5, f6⟩
    · have f1' : C_X1_level 0 0 0 K2 = some (nI 0, K3) := f1
      have f2' : C_X9_either (nI key) R2 = some (nI 0, R3) := f2
      refine ⟨K3, R3, kf3, rf3, Or.inl ⟨s', f3, ?_, ?_, f5⟩⟩
      · rw [f1', bd2_s, if_pos z00, f4]
      · rw [f2', bd2_s, if_pos z00]
        rfl
    · have f1' : C_X1_level 0 0 0 K2 = some (nI 1, K3) := f1
      have f2' : C_X9_either (nI key) R2 = some (nI 1, R3) := f2
      have hsl := f3.sl
      have hend := f3.2.1.end_
      have h5 := f3.2.1.2.2.2.2.1
      have h4 := f3.2.1.so4
      rw [f1', bd2_s, if_neg n10, f2', bd2_s, if_neg n10, h5]
      by_cases q0 : so' = 0
      · refine ⟨K3, R3, kf3, rf3, Or.inr ⟨key, m', p', hk, ?_, ?_, f3.2.2.1, f4, by have := f3.2.2.2.1; omega, f3.2.2.2.2.1⟩⟩
        · rw [if_pos (show nI so' = (0 : Int32) by rw [q0]; rfl)]
        · rw [if_pos (hend.mp q0)]
          unfold F_X9_parse_110
          rw [nm_eq, if_neg (show ¬ (1 : Int32) = 0 from n10)]
      · refine ⟨K3, R3, kf3, rf3, Or.inl ⟨s', hsl, ?_, ?_, f3.2.1.2.2.2.2.2.1⟩⟩
        · rw [if_neg (show ¬ nI so' = (0 : Int32) from jne (b := 0) q0 (by omega) (by omega)), f3.2.1.2.2.1]
        · rw [if_neg (fun x => q0 (hend.mpr x))]
          rfl
end KEY
