/-! small sets of loops as naturals below 256 -/
theorem j_and (a b : Nat) : nI a &&& nI b = nI (a &&& b) := fa_and a b
theorem j_or (a b : Nat) : nI a ||| nI b = nI (a ||| b) := by
  apply Int32.toBitVec_inj.mp
  show BitVec.ofNat 32 a ||| BitVec.ofNat 32 b = BitVec.ofNat 32 (a ||| b)
  exact BitVec.ofNat_or.symm
theorem j_xor (a b : Nat) : nI a ^^^ nI b = nI (a ^^^ b) := by
  apply Int32.toBitVec_inj.mp
  show BitVec.ofNat 32 a ^^^ BitVec.ofNat 32 b = BitVec.ofNat 32 (a ^^^ b)
  exact BitVec.ofNat_xor.symm
def andn (a b : Nat) : Nat := Nat.bitwise (fun x y => x && !y) a b
theorem andn_bit (a b i : Nat) : (andn a b).testBit i = (a.testBit i && !b.testBit i) := by
  unfold andn
  rw [Nat.testBit_bitwise rfl]
theorem bit_lt {a n : Nat} (h : ∀ i, n ≤ i → a.testBit i = false) : a < 2 ^ n := Nat.lt_pow_two_of_testBit _ h
theorem bit_hi {a n i : Nat} (h : a < 2 ^ n) (hi : n ≤ i) : a.testBit i = false := Nat.testBit_lt_two_pow (Nat.lt_of_lt_of_le h (Nat.pow_le_pow_right (by decide) hi))
theorem andn_lt {a b n : Nat} (h : a < 2 ^ n) : andn a b < 2 ^ n := bit_lt (fun i hi => by rw [andn_bit, bit_hi h hi]; rfl)
theorem j_andn {a b : Nat} (ha : a < 4294967296) : nI a &&& (nI b ^^^ -1) = nI (andn a b) := by
  apply Int32.toBitVec_inj.mp
  show BitVec.ofNat 32 a &&& (BitVec.ofNat 32 b ^^^ (-1 : Int32).toBitVec) = BitVec.ofNat 32 (andn a b)
  rw [show (-1 : Int32).toBitVec = BitVec.allOnes 32 from by decide]
  apply BitVec.eq_of_getLsbD_eq
  intro i hi
  rw [BitVec.getLsbD_and, BitVec.getLsbD_xor, BitVec.getLsbD_ofNat, BitVec.getLsbD_ofNat, BitVec.getLsbD_ofNat, BitVec.getLsbD_allOnes, andn_bit]
  simp only [hi, decide_true, Bool.true_and, Bool.xor_true]
/-- how many loops -/
def pc (l : Nat) : Nat := l % 2 + l / 2 % 2 + l / 4 % 2 + l / 8 % 2 + l / 16 % 2 + l / 32 % 2 + l / 64 % 2 + l / 128 % 2
theorem pc_le (l : Nat) : pc l ≤ 8 := by
  unfold pc
  omega
theorem e_bitCount_ : ∀ l : Fin 256, C_J6_bitCount_0f7a4 (nI l) = some (nI (pc l)) := by decide +kernel
theorem e_bitCount {l : Nat} (h : l < 256) : C_J6_bitCount_0f7a4 (nI l) = some (nI (pc l)) := e_bitCount_ ⟨l, h⟩
theorem e_bits_ : ∀ l : Fin 256, L_X9_bits_4 9 0 (nI l) = some (nI (pc l)) := by decide +kernel
theorem bits_fuel {v : Int32} : ∀ (n : Nat) (a x : Int32), L_X9_bits_4 n a x = some v → ∀ k, L_X9_bits_4 (n + k) a x = some v
  | 0, _, _, h, _ => by cases h
  | n + 1, a, x, h, k => by
    rw [show n + 1 + k = (n + k) + 1 by omega]
    change F_X9_bits_4 (fun a1 a2 => L_X9_bits_4 n a1 a2) a x = some v at h
    show F_X9_bits_4 (fun a1 a2 => L_X9_bits_4 (n + k) a1 a2) a x = some v
    unfold F_X9_bits_4 at h ⊢
    split
    · rename_i q
      rw [if_pos q] at h
      exact h
    · rename_i q
      rw [if_neg q] at h
      exact bits_fuel n _ _ h k
theorem e_bits {l : Nat} (h : l < 256) : C_X9_bits (nI l) = some (nI (pc l)) := by
  have h2 := bits_fuel 9 _ _ (e_bits_ ⟨l, h⟩) (FU - 9)
  rw [show 9 + (FU - 9) = FU from by have := FU_big; omega] at h2
  exact h2
theorem e_shl1_ : ∀ c : Fin 8, jshl 1 (nI c) = nI (2 ^ c.val) := by decide +kernel
theorem e_shl1 {c : Nat} (h : c < 8) : jshl (nI 1) (nI c) = nI (2 ^ c) := e_shl1_ ⟨c, h⟩
theorem e_among_ : ∀ l : Fin 256, ∀ c : Fin 8, C_X9_isAmong (nI l) (nI c) = some (if l.val.testBit c then 1 else 0) := by decide +kernel
theorem e_among {l c : Nat} (hl : l < 256) (h : c < 8) : C_X9_isAmong (nI l) (nI c) = some (if l.testBit c then nI 1 else nI 0) := e_among_ ⟨l, hl⟩ ⟨c, h⟩
theorem e_shrand_ : ∀ l : Fin 256, ∀ c : Fin 8, (jshr (nI l) (nI c) &&& 1) = if l.val.testBit c then 1 else 0 := by decide +kernel
theorem e_shrand {l c : Nat} (hl : l < 256) (h : c < 8) : (jshr (nI l) (nI c) &&& nI 1) = if l.testBit c then nI 1 else nI 0 := e_shrand_ ⟨l, hl⟩ ⟨c, h⟩
theorem and_pow {l c : Nat} : l &&& 2 ^ c = if l.testBit c then 2 ^ c else 0 := by
  apply Nat.eq_of_testBit_eq
  intro i
  rw [Nat.testBit_and, Nat.testBit_two_pow]
  by_cases e : c = i
  · subst e
    cases h : l.testBit c <;> simp [h]
  · cases h : l.testBit c <;> simp [e, Nat.testBit_two_pow]
theorem two_pow_lt {c : Nat} (h : c < 8) : 2 ^ c < 256 := by
  have : 2 ^ c ≤ 2 ^ 7 := Nat.pow_le_pow_right (by decide) (by omega)
  omega
theorem or_pow_lt {l c : Nat} (hl : l < 256) (h : c < 8) : l ||| 2 ^ c < 256 := Nat.or_lt_two_pow (n := 8) hl (two_pow_lt h)
theorem xor_or {l c : Nat} (h : l.testBit c = false) : l ^^^ 2 ^ c = l ||| 2 ^ c := by
  apply Nat.eq_of_testBit_eq
  intro i
  rw [Nat.testBit_xor, Nat.testBit_or, Nat.testBit_two_pow]
  by_cases e : c = i
  · subst e
    rw [h]
    simp
  · simp [e]
theorem xor_andn {l c : Nat} (h : l.testBit c = true) : l ^^^ 2 ^ c = andn l (2 ^ c) := by
  apply Nat.eq_of_testBit_eq
  intro i
  rw [Nat.testBit_xor, andn_bit, Nat.testBit_two_pow]
  by_cases e : c = i
  · subst e
    rw [h]
    simp
  · simp [e]
/-! what a loop hangs on; what a row bears -/
def hang (k c : Nat) : Nat := if k = 2 ∨ k = 4 then 2 ^ c ||| 2 ^ ((c + 1) % 8) else if k = 3 then 2 ^ (c ^^^ 1) else if k = 5 then 0 else 2 ^ c
def bo (k s : Nat) : Nat := if k = 2 ∨ k = 4 then s &&& (s / 2 ||| s % 2 * 128) else if k = 3 then ((s &&& 85) * 2 ||| (s &&& 170) / 2) else if k = 5 then 255 else s
theorem e_oneBack_ : ∀ s : Fin 256, C_X0_oneBack (nI s) = some (nI (s.val / 2 ||| s.val % 2 * 128)) := by decide +kernel
theorem e_crossed_ : ∀ s : Fin 256, C_X0_crossed (nI s) = some (nI ((s.val &&& 85) * 2 ||| (s.val &&& 170) / 2)) := by decide +kernel
theorem e_borne_ : ∀ k : Fin 6, ∀ s : Fin 256, C_X0_borne (nI k) (nI s) = some (nI (bo k s)) ∧ bo k s < 256 := by decide +kernel
theorem hang_lt_ : ∀ k : Fin 6, ∀ c : Fin 8, hang k c < 256 := by decide +kernel
theorem e_borne {k s : Nat} (hk : k < 6) (hs : s < 256) : C_X0_borne (nI k) (nI s) = some (nI (bo k s)) := (e_borne_ ⟨k, hk⟩ ⟨s, hs⟩).1
theorem bo_lt {k s : Nat} (hk : k < 6) (hs : s < 256) : bo k s < 256 := (e_borne_ ⟨k, hk⟩ ⟨s, hs⟩).2
theorem hang_lt {k c : Nat} (hk : k < 6) (hc : c < 8) : hang k c < 256 := hang_lt_ ⟨k, hk⟩ ⟨c, hc⟩
theorem bo_bit_ : ∀ k : Fin 6, ∀ s : Fin 256, ∀ c : Fin 8, (bo k s).testBit c = decide (nI (hang k c) &&& (nI s ^^^ -1) = 0) := by decide +kernel
theorem bo_bit {k s c : Nat} (hk : k < 6) (hs : s < 256) (hc : c < 8) : (bo k s).testBit c = decide (nI (hang k c) &&& (nI s ^^^ -1) = 0) := bo_bit_ ⟨k, hk⟩ ⟨s, hs⟩ ⟨c, hc⟩
/-- what a row holds: its loops that hang on held ones and are not lost -/
def hold (k l s : Nat) : Nat := andn (bo k s) l
theorem hold_lt {k l s : Nat} (hk : k < 6) (hs : s < 256) : hold k l s < 256 := andn_lt (n := 8) (bo_lt hk hs)
theorem pc_step_ : ∀ h : Fin 256, ∀ c : Fin 8, pc (h.val % 2 ^ (c.val + 1)) = pc (h.val % 2 ^ c.val) + (if h.val.testBit c then 1 else 0) := by decide +kernel
theorem pc_step {h c : Nat} (hh : h < 256) (hc : c < 8) : pc (h % 2 ^ (c + 1)) = pc (h % 2 ^ c) + (if h.testBit c then 1 else 0) := pc_step_ ⟨h, hh⟩ ⟨c, hc⟩
theorem mod_step {h c : Nat} : h % 2 ^ (c + 1) = h % 2 ^ c ||| (if h.testBit c then 2 ^ c else 0) := by
  apply Nat.eq_of_testBit_eq
  intro i
  rw [Nat.testBit_or, Nat.testBit_mod_two_pow, Nat.testBit_mod_two_pow]
  by_cases e : i = c
  · subst e
    cases q : h.testBit i <;> simp [q, Nat.testBit_two_pow_self]
  · have e2 : ¬ c = i := fun h => e h.symm
    have e3 : (decide (i < c + 1)) = decide (i < c) := by
      congr 1
      exact propext ⟨fun _ => by omega, fun _ => by omega⟩
    rw [e3]
    cases q : h.testBit c <;> simp [Nat.testBit_two_pow, e2]
