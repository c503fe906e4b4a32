/-! ways: what a step reaches, told by bits; the levels of a search -/
def ovr (k m : Nat) : Nat := Int32.toNatClampNeg ((C_X0_over (nI k) (nI m)).getD 0)
theorem e_ovr_ : ∀ k : Fin 6, ∀ m : Fin 256, C_X0_over (nI k) (nI m) = some (nI (ovr k m)) ∧ ovr k m < 256 := by decide +kernel
theorem ovr_step_ : ∀ k : Fin 6, ∀ m : Fin 256, ∀ c : Fin 8, ovr k (m.val % 2 ^ (c.val + 1)) = ovr k (m.val % 2 ^ c.val) ||| (if m.val.testBit c then ovr k (2 ^ c.val) else 0) := by decide +kernel
theorem ovr_one_ : ∀ k : Fin 6, ∀ c : Fin 8, ∀ b : Fin 8, (ovr k (2 ^ c.val)).testBit b = (hang k b).testBit c := by decide +kernel
theorem ovr_zero_ : ∀ k : Fin 6, ovr k 0 = 0 := by decide +kernel
theorem e_ovr {k m : Nat} (hk : k < 6) (hm : m < 256) : C_X0_over (nI k) (nI m) = some (nI (ovr k m)) := (e_ovr_ ⟨k, hk⟩ ⟨m, hm⟩).1
theorem ovr_lt {k m : Nat} (hk : k < 6) (hm : m < 256) : ovr k m < 256 := (e_ovr_ ⟨k, hk⟩ ⟨m, hm⟩).2
theorem bits_of {g : Nat → Nat} {m b : Nat} {p : Nat → Nat} (g0 : g 0 = 0) (gs : ∀ c, c < 8 → g (m % 2 ^ (c + 1)) = g (m % 2 ^ c) ||| (if m.testBit c = true then p c else 0)) : ∀ c, c ≤ 8 → ((g (m % 2 ^ c)).testBit b = true ↔ ∃ e, e < c ∧ m.testBit e = true ∧ (p e).testBit b = true)
  | 0, _ => by
    rw [show m % 2 ^ 0 = 0 from Nat.mod_one _, g0, Nat.zero_testBit]
    exact ⟨fun h => (Bool.false_ne_true h).elim, fun ⟨e, h, _⟩ => absurd h (Nat.not_lt_zero _)⟩
  | c + 1, hc => by
    have ih := bits_of (b := b) g0 gs c (by omega)
    rw [gs c (by omega), Nat.testBit_or, Bool.or_eq_true, ih]
    constructor
    · rintro (⟨e, h1, h2⟩ | h)
      · exact ⟨e, by omega, h2⟩
      · cases hb : m.testBit c
        · rw [hb, if_neg Bool.false_ne_true, Nat.zero_testBit] at h
          exact absurd h Bool.false_ne_true
        · rw [hb, if_pos rfl] at h
          exact ⟨c, by omega, hb, h⟩
    · rintro ⟨e, h1, h2, h3⟩
      by_cases he : e = c
      · rw [he] at h2 h3
        rw [h2, if_pos rfl]
        exact Or.inr h3
      · exact Or.inl ⟨e, by omega, h2, h3⟩
theorem und_bit {k m b : Nat} (hk : k < 6) (hm : m < 256) : (und k m).testBit b = true ↔ ∃ e, e < 8 ∧ m.testBit e = true ∧ (hang k e).testBit b = true := by
  have h := bits_of (g := und k) (m := m) (b := b) (p := fun e => hang k e) (und_zero hk) (fun c hc => und_step hk hm hc) 8 (Nat.le_refl _)
  rw [Nat.mod_eq_of_lt (show m < 2 ^ 8 from hm)] at h
  exact h
theorem ovr_bit {k m b : Nat} (hk : k < 6) (hm : m < 256) (hb : b < 8) : (ovr k m).testBit b = true ↔ ∃ e, e < 8 ∧ m.testBit e = true ∧ (hang k b).testBit e = true := by
  have h := bits_of (g := ovr k) (m := m) (b := b) (p := fun e => ovr k (2 ^ e)) (ovr_zero_ ⟨k, hk⟩) (fun c hc => ovr_step_ ⟨k, hk⟩ ⟨m, hm⟩ ⟨c, hc⟩) 8 (Nat.le_refl _)
  rw [Nat.mod_eq_of_lt (show m < 2 ^ 8 from hm)] at h
  rw [h]
  constructor
  · rintro ⟨e, h1, h2, h3⟩
    exact ⟨e, h1, h2, (ovr_one_ ⟨k, hk⟩ ⟨e, h1⟩ ⟨b, hb⟩).symm.trans h3⟩
  · rintro ⟨e, h1, h2, h3⟩
    exact ⟨e, h1, h2, (ovr_one_ ⟨k, hk⟩ ⟨e, h1⟩ ⟨b, hb⟩).trans h3⟩
theorem e_sh_ : ∀ f : Fin 256, (jshl (nI f) (nI 1) ||| jshr (nI f) (nI 1)) = nI (2 * f.val ||| f.val / 2) := by decide +kernel
theorem sh_bit_ : ∀ f : Fin 256, ∀ c : Fin 8, (2 * f.val ||| f.val / 2).testBit c = ((decide (0 < c.val) && f.val.testBit (c.val - 1)) || (decide (c.val < 7) && f.val.testBit (c.val + 1))) := by decide +kernel
theorem sh_bit {f c : Nat} (hf : f < 256) (hc : c < 8) : (2 * f ||| f / 2).testBit c = true ↔ ∃ b, b < 8 ∧ f.testBit b = true ∧ (c + 1 = b ∨ c = b + 1) := by
  rw [sh_bit_ ⟨f, hf⟩ ⟨c, hc⟩]
  simp only [Bool.or_eq_true, Bool.and_eq_true, decide_eq_true_eq]
  constructor
  · rintro (⟨h1, h2⟩ | ⟨h1, h2⟩)
    · exact ⟨c - 1, by omega, h2, Or.inr (by omega)⟩
    · exact ⟨c + 1, by omega, h2, Or.inl rfl⟩
  · rintro ⟨b, h1, h2, (h3 | h3)⟩
    · right
      rw [h3]
      exact ⟨by omega, h2⟩
    · left
      rw [show c - 1 = b by omega]
      exact ⟨by omega, h2⟩
/-- where one gets by a step from loop b of row a: to loop c of row i -/
def adj (k : Nat → Nat) (a b i c : Nat) : Prop := (a = i ∧ (c + 1 = b ∨ c = b + 1)) ∨ (a = i + 1 ∧ (hang (k a) b).testBit c = true) ∨ (i = a + 1 ∧ (hang (k i) c).testBit b = true)
def nb1 (k F : Nat → Nat) (i : Nat) : Nat := if i = 0 then (2 * F i ||| F i / 2) else (2 * F i ||| F i / 2) ||| ovr (k i) (F (i - 1))
def nearN (k F : Nat → Nat) (n i : Nat) : Nat := if n ≤ i + 1 then nb1 k F i else nb1 k F i ||| und (k (i + 1)) (F (i + 1))
theorem near_bit {k F : Nat → Nat} {n i c : Nat} (hk : ∀ i, i < n → k i < 6) (hF : ∀ i, i < n → F i < 256) (hi : i < n) (hc : c < 8) : (nearN k F n i).testBit c = true ↔ ∃ a b, a < n ∧ b < 8 ∧ (F a).testBit b = true ∧ adj k a b i c := by
  have key : (nearN k F n i).testBit c = true ↔ (2 * F i ||| F i / 2).testBit c = true ∨ (i ≠ 0 ∧ (ovr (k i) (F (i - 1))).testBit c = true) ∨ (i + 1 < n ∧ (und (k (i + 1)) (F (i + 1))).testBit c = true) := by
    unfold nearN nb1
    by_cases e1 : n ≤ i + 1
    · rw [if_pos e1]
      by_cases e0 : i = 0
      · rw [if_pos e0]
        exact ⟨Or.inl, fun h => h.elim id (fun h => h.elim (fun h => absurd e0 h.1) (fun h => absurd h.1 (by omega)))⟩
      · rw [if_neg e0, Nat.testBit_or, Bool.or_eq_true]
        exact ⟨fun h => h.elim Or.inl (fun h => Or.inr (Or.inl ⟨e0, h⟩)), fun h => h.elim Or.inl (fun h => h.elim (fun h => Or.inr h.2) (fun h => absurd h.1 (by omega)))⟩
    · rw [if_neg e1, Nat.testBit_or, Bool.or_eq_true]
      by_cases e0 : i = 0
      · rw [if_pos e0]
        exact ⟨fun h => h.elim Or.inl (fun h => Or.inr (Or.inr ⟨by omega, h⟩)), fun h => h.elim Or.inl (fun h => h.elim (fun h => absurd e0 h.1) (fun h => Or.inr h.2))⟩
      · rw [if_neg e0, Nat.testBit_or, Bool.or_eq_true]
        exact ⟨fun h => h.elim (fun h => h.elim Or.inl (fun h => Or.inr (Or.inl ⟨e0, h⟩))) (fun h => Or.inr (Or.inr ⟨by omega, h⟩)), fun h => h.elim (fun h => Or.inl (Or.inl h)) (fun h => h.elim (fun h => Or.inl (Or.inr h.2)) (fun h => Or.inr h.2))⟩
  have sh := sh_bit (hF i hi) hc
  have ov : i ≠ 0 → ((ovr (k i) (F (i - 1))).testBit c = true ↔ ∃ e, e < 8 ∧ (F (i - 1)).testBit e = true ∧ (hang (k i) c).testBit e = true) := fun e0 => ovr_bit (hk i hi) (hF (i - 1) (by omega)) hc
  have un : i + 1 < n → ((und (k (i + 1)) (F (i + 1))).testBit c = true ↔ ∃ e, e < 8 ∧ (F (i + 1)).testBit e = true ∧ (hang (k (i + 1)) e).testBit c = true) := fun e1 => und_bit (hk (i + 1) e1) (hF (i + 1) e1)
  rw [key]
  constructor
  · rintro (h | ⟨e0, h⟩ | ⟨e1, h⟩)
    · obtain ⟨b, hb, h1, h2⟩ := sh.mp h
      exact ⟨i, b, hi, hb, h1, Or.inl ⟨rfl, h2⟩⟩
    · obtain ⟨e, he, h1, h2⟩ := (ov e0).mp h
      exact ⟨i - 1, e, by omega, he, h1, Or.inr (Or.inr ⟨by omega, h2⟩)⟩
    · obtain ⟨e, he, h1, h2⟩ := (un e1).mp h
      exact ⟨i + 1, e, e1, he, h1, Or.inr (Or.inl ⟨rfl, h2⟩)⟩
  · rintro ⟨a, b, ha, hb, h1, (⟨e, h2⟩ | ⟨e, h2⟩ | ⟨e, h2⟩)⟩
    · rw [e] at h1
      exact Or.inl (sh.mpr ⟨b, hb, h1, h2⟩)
    · rw [e] at h1 h2 ha
      exact Or.inr (Or.inr ⟨ha, (un ha).mpr ⟨b, hb, h1, h2⟩⟩)
    · have ea : a = i - 1 := by omega
      rw [ea] at h1
      exact Or.inr (Or.inl ⟨by omega, (ov (by omega)).mpr ⟨b, hb, h1, h2⟩⟩)
/-! counts -/
def sm (F : Nat → Nat) : Nat → Nat
  | 0 => 0
  | i + 1 => sm F i + pc (F i)
theorem cnt_add {p q r : Nat → Bool} : ∀ m, (∀ j, j < m → r j = (p j || q j) ∧ (p j && q j) = false) → fa_cnt r m = fa_cnt p m + fa_cnt q m
  | 0, _ => rfl
  | m + 1, h => by
    have ih := cnt_add m (fun j hj => h j (by omega))
    obtain ⟨e1, e2⟩ := h m (by omega)
    show fa_cnt r m + (if r m = true then 1 else 0) = fa_cnt p m + (if p m = true then 1 else 0) + (fa_cnt q m + (if q m = true then 1 else 0))
    have e3 : (if (p m || q m) = true then (1 : Nat) else 0) = (if p m = true then 1 else 0) + (if q m = true then 1 else 0) := by
      cases hp : p m <;> cases hq : q m
      · rfl
      · rfl
      · rfl
      · rw [hp, hq] at e2
        exact absurd e2 (by decide)
    rw [ih, e1, e3]
    omega
theorem cnt_zero {p : Nat → Bool} : ∀ m, (∀ j, j < m → p j = false) → fa_cnt p m = 0
  | 0, _ => rfl
  | m + 1, h => by
    show fa_cnt p m + (if p m = true then 1 else 0) = 0
    rw [cnt_zero m (fun j hj => h j (by omega)), h m (by omega)]
    rfl
theorem cnt_pos {p : Nat → Bool} {j : Nat} (hp : p j = true) : ∀ m, j < m → 0 < fa_cnt p m
  | 0, h => absurd h (Nat.not_lt_zero _)
  | m + 1, h => by
    show 0 < fa_cnt p m + (if p m = true then 1 else 0)
    by_cases e : j = m
    · rw [← e, hp]
      simp
    · have := cnt_pos hp m (by omega)
      omega
theorem cnt_tail {p : Nat → Bool} {m : Nat} : ∀ r, (∀ j, m ≤ j → j < m + r → p j = false) → fa_cnt p (m + r) = fa_cnt p m
  | 0, _ => rfl
  | r + 1, h => by
    show fa_cnt p (m + r) + (if p (m + r) = true then 1 else 0) = _
    rw [cnt_tail r (fun j h1 h2 => h j h1 (by omega)), h (m + r) (by omega) (by omega)]
    rfl
theorem pc_sum_ : ∀ f : Fin 256, pc f = (if f.val.testBit 0 = true then 1 else 0) + (if f.val.testBit 1 = true then 1 else 0) + (if f.val.testBit 2 = true then 1 else 0) + (if f.val.testBit 3 = true then 1 else 0) + (if f.val.testBit 4 = true then 1 else 0) + (if f.val.testBit 5 = true then 1 else 0) + (if f.val.testBit 6 = true then 1 else 0) + (if f.val.testBit 7 = true then 1 else 0) := by decide +kernel
theorem pc_sum {f : Nat} (h : f < 256) : pc f = (if f.testBit 0 = true then 1 else 0) + (if f.testBit 1 = true then 1 else 0) + (if f.testBit 2 = true then 1 else 0) + (if f.testBit 3 = true then 1 else 0) + (if f.testBit 4 = true then 1 else 0) + (if f.testBit 5 = true then 1 else 0) + (if f.testBit 6 = true then 1 else 0) + (if f.testBit 7 = true then 1 else 0) := pc_sum_ ⟨f, h⟩
theorem cnt8 {p : Nat → Bool} {m : Nat} : fa_cnt p (m + 8) = fa_cnt p m + ((if p m = true then 1 else 0) + (if p (m + 1) = true then 1 else 0) + (if p (m + 2) = true then 1 else 0) + (if p (m + 3) = true then 1 else 0) + (if p (m + 4) = true then 1 else 0) + (if p (m + 5) = true then 1 else 0) + (if p (m + 6) = true then 1 else 0) + (if p (m + 7) = true then 1 else 0)) := by
  show fa_cnt p m + (if p m = true then 1 else 0) + (if p (m + 1) = true then 1 else 0) + (if p (m + 2) = true then 1 else 0) + (if p (m + 3) = true then 1 else 0) + (if p (m + 4) = true then 1 else 0) + (if p (m + 5) = true then 1 else 0) + (if p (m + 6) = true then 1 else 0) + (if p (m + 7) = true then 1 else 0) = _
  omega
theorem sm_cnt {F : Nat → Nat} : ∀ n, (∀ i, i < n → F i < 256) → sm F n = fa_cnt (fun j => (F (j / 8)).testBit (j % 8)) (8 * n)
  | 0, _ => rfl
  | n + 1, h => by
    have ih := sm_cnt n (fun i hi => h i (by omega))
    have e : ∀ c, c < 8 → (F ((8 * n + c) / 8)).testBit ((8 * n + c) % 8) = (F n).testBit c := fun c hc => by rw [show (8 * n + c) / 8 = n by omega, show (8 * n + c) % 8 = c by omega]
    have e0 : (F ((8 * n) / 8)).testBit ((8 * n) % 8) = (F n).testBit 0 := e 0 (by omega)
    rw [show 8 * (n + 1) = 8 * n + 8 by omega, cnt8, e0, e 1 (by omega), e 2 (by omega), e 3 (by omega), e 4 (by omega), e 5 (by omega), e 6 (by omega), e 7 (by omega), ← ih, ← pc_sum (h n (by omega))]
    rfl
theorem sm_zero {F : Nat → Nat} {n : Nat} (h : ∀ i, i < n → F i < 256) : sm F n = 0 ↔ ∀ i c, i < n → c < 8 → (F i).testBit c = false := by
  rw [sm_cnt n h]
  constructor
  · intro e i c hi hc
    cases hb : (F i).testBit c
    · rfl
    · have := cnt_pos (p := fun j => (F (j / 8)).testBit (j % 8)) (j := 8 * i + c) (by show (F ((8 * i + c) / 8)).testBit ((8 * i + c) % 8) = true; rw [show (8 * i + c) / 8 = i by omega, show (8 * i + c) % 8 = c by omega]; exact hb) (8 * n) (by omega)
      omega
  · intro e
    exact cnt_zero _ (fun j hj => e (j / 8) (j % 8) (by omega) (by omega))
theorem sm_le {F : Nat → Nat} : ∀ n, sm F n ≤ 8 * n
  | 0 => Nat.le_refl _
  | n + 1 => by
    have := sm_le (F := F) n
    have := pc_le (F n)
    show sm F n + pc (F n) ≤ _
    omega
/-! the levels -/
def lvl (k H : Nat → Nat) (n i0 c0 : Nat) : Nat → Nat → Nat × Nat
  | 0, i => ((if i = i0 then H i0 &&& 2 ^ c0 else 0), (if i = i0 then andn (H i0) (H i0 &&& 2 ^ c0) else H i))
  | d + 1, i => (nearN k (fun j => (lvl k H n i0 c0 d j).1) n i &&& (lvl k H n i0 c0 d i).2, andn (lvl k H n i0 c0 d i).2 (nearN k (fun j => (lvl k H n i0 c0 d j).1) n i &&& (lvl k H n i0 c0 d i).2))
def Srch (k H : Nat → Nat) (n i0 c0 : Nat) (fr un : Nat → Nat → Nat) : Prop := n ≤ 12 ∧ i0 < n ∧ c0 < 8 ∧ (∀ i, i < n → k i < 6) ∧ (∀ i, i < n → H i < 256) ∧ (∀ i, fr 0 i = if i = i0 then H i0 &&& 2 ^ c0 else 0) ∧ (∀ i, un 0 i = if i = i0 then andn (H i0) (H i0 &&& 2 ^ c0) else H i) ∧ (∀ d i, fr (d + 1) i = nearN k (fr d) n i &&& un d i) ∧ ∀ d i, un (d + 1) i = andn (un d i) (fr (d + 1) i)
theorem srch_ex {k H : Nat → Nat} {n i0 c0 : Nat} (hn : n ≤ 12) (hi : i0 < n) (hc : c0 < 8) (hk : ∀ i, i < n → k i < 6) (hH : ∀ i, i < n → H i < 256) : ∃ fr un, Srch k H n i0 c0 fr un := ⟨fun d i => (lvl k H n i0 c0 d i).1, fun d i => (lvl k H n i0 c0 d i).2, hn, hi, hc, hk, hH, fun _ => rfl, fun _ => rfl, fun _ _ => rfl, fun _ _ => rfl⟩
/-- how far, behind d levels -/
def dst (fr : Nat → Nat → Nat) : Nat → Nat → Nat → Int32
  | 0, i, c => if (fr 0 i).testBit c = true then nI 0 else -1
  | d + 1, i, c => if (fr (d + 1) i).testBit c = true then nI (d + 1) else dst fr d i c
theorem dst_0 {fr : Nat → Nat → Nat} {i c : Nat} : dst fr 0 i c = if (fr 0 i).testBit c = true then nI 0 else -1 := rfl
theorem dst_s {fr : Nat → Nat → Nat} {d i c : Nat} : dst fr (d + 1) i c = if (fr (d + 1) i).testBit c = true then nI (d + 1) else dst fr d i c := rfl
theorem neg1_lt : ¬ (0 : Int32) ≤ -1 := by decide
theorem pos_ne {e : Nat} (he : e < 2147483648) : ¬ nI e = (-1 : Int32) := by
  intro q
  have h : (0 : Int32) ≤ nI e := jle (a := 0) (Nat.zero_le _) he
  rw [q] at h
  exact neg1_lt h
section SRCH
variable {k H : Nat → Nat} {n i0 c0 : Nat} {fr un : Nat → Nat → Nat}
theorem Srch.lt (S : Srch k H n i0 c0 fr un) : ∀ d i, i < n → fr d i < 256 ∧ un d i < 256
  | 0, i, hi => by
    obtain ⟨hn, hi0, hc0, hk, hH, f0, u0, fs, us⟩ := S
    rw [f0, u0]
    by_cases e : i = i0
    · rw [if_pos e, if_pos e]
      exact ⟨Nat.and_lt_two_pow (n := 8) _ (two_pow_lt hc0), andn_lt (n := 8) (hH i0 hi0)⟩
    · rw [if_neg e, if_neg e]
      exact ⟨by decide, hH i hi⟩
  | d + 1, i, hi => by
    have ih := Srch.lt S d i hi
    obtain ⟨hn, hi0, hc0, hk, hH, f0, u0, fs, us⟩ := S
    rw [us, fs]
    exact ⟨Nat.and_lt_two_pow (n := 8) _ ih.2, andn_lt (n := 8) ih.2⟩
theorem Srch.lv (S : Srch k H n i0 c0 fr un) : ∀ d, d < 1000 → ∀ i c, i < n → c < 8 → ((fr d i).testBit c = true ↔ dst fr d i c = nI d) ∧ ((un d i).testBit c = true ↔ (H i).testBit c = true ∧ dst fr d i c = -1) ∧ (dst fr d i c = -1 ∨ ∃ e, e ≤ d ∧ dst fr d i c = nI e)
  | 0, _, i, c, hi, hc => by
    obtain ⟨hn, hi0, hc0, hk, hH, f0, u0, fs, us⟩ := S
    have u : (un 0 i).testBit c = ((H i).testBit c && !(fr 0 i).testBit c) := by
      rw [f0, u0]
      by_cases e : i = i0
      · rw [if_pos e, if_pos e, andn_bit, e]
      · rw [if_neg e, if_neg e, Nat.zero_testBit]
        simp
    rw [dst_0, u]
    cases hb : (fr 0 i).testBit c
    · rw [if_neg Bool.false_ne_true]
      refine ⟨⟨fun h => absurd h Bool.false_ne_true, fun h => absurd h.symm (pos_ne (by omega))⟩, ?_, Or.inl rfl⟩
      simp
    · rw [if_pos rfl]
      refine ⟨⟨fun _ => rfl, fun _ => rfl⟩, ⟨fun h => ?_, fun h => absurd h.2 (pos_ne (by omega))⟩, Or.inr ⟨0, Nat.le_refl _, rfl⟩⟩
      simp at h
  | d + 1, hd, i, c, hi, hc => by
    obtain ⟨i1, i2, i3⟩ := Srch.lv S d (by omega) i c hi hc
    obtain ⟨hn, hi0, hc0, hk, hH, f0, u0, fs, us⟩ := S
    have hfu : (fr (d + 1) i).testBit c = true → (un d i).testBit c = true := by
      intro h
      rw [fs, Nat.testBit_and, Bool.and_eq_true] at h
      exact h.2
    have u : (un (d + 1) i).testBit c = ((un d i).testBit c && !(fr (d + 1) i).testBit c) := by rw [us, andn_bit]
    rw [dst_s, u]
    cases hb : (fr (d + 1) i).testBit c
    · rw [if_neg Bool.false_ne_true]
      refine ⟨⟨fun h => absurd h Bool.false_ne_true, fun h => ?_⟩, ?_, ?_⟩
      · rcases i3 with q | ⟨e, he, q⟩
        · rw [q] at h
          exact absurd h.symm (pos_ne (by omega))
        · rw [q] at h
          exact absurd h (jne (by omega) (by omega) (by omega))
      · rw [Bool.not_false, Bool.and_true]
        exact i2
      · rcases i3 with q | ⟨e, he, q⟩
        · exact Or.inl q
        · exact Or.inr ⟨e, by omega, q⟩
    · rw [if_pos rfl]
      refine ⟨⟨fun _ => rfl, fun _ => rfl⟩, ⟨fun h => ?_, fun h => absurd h.2 (pos_ne (by omega))⟩, Or.inr ⟨d + 1, Nat.le_refl _, rfl⟩⟩
      rw [Bool.not_true, Bool.and_false] at h
      exact absurd h Bool.false_ne_true
/-- a loop come to is new -/
theorem Srch.new (S : Srch k H n i0 c0 fr un) {d : Nat} (hd : d < 999) {i c : Nat} (hi : i < n) (hc : c < 8) : (fr (d + 1) i).testBit c = true ↔ ((H i).testBit c = true ∧ dst fr d i c = -1) ∧ ∃ a b, a < n ∧ b < 8 ∧ dst fr d a b = nI d ∧ adj k a b i c := by
  have A := Srch.lv S d (by omega)
  have L := Srch.lt S d
  obtain ⟨hn, hi0, hc0, hk, hH, f0, u0, fs, us⟩ := S
  rw [fs, Nat.testBit_and, Bool.and_eq_true, near_bit hk (fun i hi => (L i hi).1) hi hc, (A i c hi hc).2.1]
  constructor
  · rintro ⟨⟨a, b, ha, hb, h1, h2⟩, h3⟩
    exact ⟨h3, a, b, ha, hb, (A a b ha hb).1.mp h1, h2⟩
  · rintro ⟨h3, a, b, ha, hb, h1, h2⟩
    exact ⟨⟨a, b, ha, hb, (A a b ha hb).1.mpr h1, h2⟩, h3⟩
theorem Srch.stay (S : Srch k H n i0 c0 fr un) {i c d e : Nat} (hi : i < n) (hc : c < 8) (h : dst fr d i c = nI e) (he : e < 1000) : ∀ r, d + r < 1000 → dst fr (d + r) i c = nI e
  | 0, _ => h
  | r + 1, hr => by
    have ih := Srch.stay S hi hc h he r (by omega)
    show (if (fr (d + r + 1) i).testBit c = true then nI (d + r + 1) else dst fr (d + r) i c) = nI e
    rw [if_neg, ih]
    intro q
    have q2 := ((S.new (by omega) hi hc).mp q).1.2
    rw [ih] at q2
    exact pos_ne (by omega) q2
theorem Srch.never {i c : Nat} : ∀ d, (∀ e, e ≤ d → (fr e i).testBit c = false) → dst fr d i c = -1
  | 0, h => by
    show (if (fr 0 i).testBit c = true then nI 0 else -1) = (-1 : Int32)
    rw [h 0 (Nat.le_refl _)]
    rfl
  | d + 1, h => by
    show (if (fr (d + 1) i).testBit c = true then nI (d + 1) else dst fr d i c) = (-1 : Int32)
    rw [h (d + 1) (Nat.le_refl _), if_neg Bool.false_ne_true]
    exact Srch.never d (fun e he => h e (by omega))
/-- how many loops come to, up to level d -/
def tots (fr : Nat → Nat → Nat) (n : Nat) : Nat → Nat
  | 0 => sm (fr 0) n
  | d + 1 => tots fr n d + sm (fr (d + 1)) n
theorem pos_dec {e : Nat} (he : e < 2147483648) : decide ((0 : Int32) ≤ nI e) = true := decide_eq_true (jle (a := 0) (Nat.zero_le _) he)
theorem neg_dec : decide ((0 : Int32) ≤ -1) = false := by decide
theorem Srch.cnt (S : Srch k H n i0 c0 fr un) : ∀ d, d < 999 → fa_cnt (fun j => decide (0 ≤ dst fr d (j / 8) (j % 8))) (8 * n) = tots fr n d
  | 0, _ => by
    show _ = sm (fr 0) n
    rw [sm_cnt n (fun i hi => (S.lt 0 i hi).1)]
    refine fa_cnt_cong (fun j hj => ?_)
    show decide (0 ≤ dst fr 0 (j / 8) (j % 8)) = (fr 0 (j / 8)).testBit (j % 8)
    rw [dst_0]
    cases hb : (fr 0 (j / 8)).testBit (j % 8)
    · rw [if_neg Bool.false_ne_true]
      exact neg_dec
    · rw [if_pos rfl]
      exact pos_dec (by omega)
  | d + 1, hd => by
    show _ = tots fr n d + sm (fr (d + 1)) n
    rw [sm_cnt n (fun i hi => (S.lt (d + 1) i hi).1), ← Srch.cnt S d (by omega)]
    refine cnt_add _ (fun j hj => ?_)
    have hw := S.new (d := d) (by omega) (i := j / 8) (c := j % 8) (by omega) (by omega)
    show decide (0 ≤ (if (fr (d + 1) (j / 8)).testBit (j % 8) = true then nI (d + 1) else dst fr d (j / 8) (j % 8))) = (decide (0 ≤ dst fr d (j / 8) (j % 8)) || (fr (d + 1) (j / 8)).testBit (j % 8)) ∧ (decide (0 ≤ dst fr d (j / 8) (j % 8)) && (fr (d + 1) (j / 8)).testBit (j % 8)) = false
    cases hb : (fr (d + 1) (j / 8)).testBit (j % 8)
    · rw [if_neg Bool.false_ne_true, Bool.or_false, Bool.and_false]
      exact ⟨rfl, rfl⟩
    · have q := (hw.mp hb).1.2
      rw [if_pos rfl, q, neg_dec, pos_dec (by omega)]
      exact ⟨rfl, rfl⟩
theorem Srch.cnt_le (S : Srch k H n i0 c0 fr un) {d : Nat} (hd : d < 999) : tots fr n d ≤ 8 * n := by
  rw [← S.cnt d hd]
  exact fa_cnt_le _ _
theorem tots_ge : ∀ d, (∀ e, e ≤ d → 0 < sm (fr e) n) → d + 1 ≤ tots fr n d
  | 0, h => h 0 (Nat.le_refl _)
  | d + 1, h => by
    have := tots_ge d (fun e he => h e (by omega))
    have := h (d + 1) (Nat.le_refl _)
    show _ ≤ tots fr n d + sm (fr (d + 1)) n
    omega
/-- the first level that is empty -/
theorem Srch.last (S : Srch k H n i0 c0 fr un) : ∃ D, D ≤ 96 ∧ sm (fr D) n = 0 ∧ ∀ e, e < D → 0 < sm (fr e) n := by
  have hn : n ≤ 12 := S.1
  refine ⟨fa_first (fun d => decide (sm (fr d) n = 0)) 97, ?_, ?_, ?_⟩
  · have h1 := fa_first_le (fun d => decide (sm (fr d) n = 0)) 97
    by_cases e : fa_first (fun d => decide (sm (fr d) n = 0)) 97 = 97
    · have h2 := tots_ge (fr := fr) (n := n) 96 (fun e he => by
        have h3 := fa_first_no (fun d => decide (sm (fr d) n = 0)) 97 e (by omega)
        have h4 := of_decide_eq_false h3
        omega)
      have h5 := S.cnt_le (d := 96) (by omega)
      omega
    · omega
  · have h1 := fa_first_le (fun d => decide (sm (fr d) n = 0)) 97
    by_cases e : fa_first (fun d => decide (sm (fr d) n = 0)) 97 = 97
    · have h2 := tots_ge (fr := fr) (n := n) 96 (fun e he => by
        have h3 := fa_first_no (fun d => decide (sm (fr d) n = 0)) 97 e (by omega)
        have h4 := of_decide_eq_false h3
        omega)
      have h5 := S.cnt_le (d := 96) (by omega)
      omega
    · exact of_decide_eq_true (fa_first_yes (fun d => decide (sm (fr d) n = 0)) 97 (by omega))
  · intro e he
    have h3 := fa_first_no (fun d => decide (sm (fr d) n = 0)) 97 e he
    have h4 := of_decide_eq_false h3
    omega
end SRCH
