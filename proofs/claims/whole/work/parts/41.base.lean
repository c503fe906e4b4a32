/-! pure base: small naturals as ints, the lifted programs' parts -/
theorem jn_add (a b : Nat) : nI a + nI b = nI (a + b) := (Int32.ofNat_add a b).symm
theorem jn_toInt {a : Nat} (h : a < 2147483648) : (nI a).toInt = (a : Int) := Int32.toInt_ofNat_of_lt (by omega)
theorem jn_lt {a b : Nat} (ha : a < 2147483648) (hb : b < 2147483648) : (nI a < nI b) = (a < b) := by
  rw [eq_iff_iff, Int32.lt_iff_toInt_lt, jn_toInt ha, jn_toInt hb]
  omega
theorem jn_le {a b : Nat} (ha : a < 2147483648) (hb : b < 2147483648) : (nI a ≤ nI b) = (a ≤ b) := by
  rw [eq_iff_iff, Int32.le_iff_toInt_le, jn_toInt ha, jn_toInt hb]
  omega
theorem jn_eq {a b : Nat} (ha : a < 2147483648) (hb : b < 2147483648) : (nI a = nI b) = (a = b) := by
  rw [eq_iff_iff, ← Int32.toInt_inj, jn_toInt ha, jn_toInt hb]
  omega
theorem tn_nI {a : Nat} (h : a < 2147483648) : Int32.toNatClampNeg (nI a) = a := by
  show (nI a).toInt.toNat = a
  rw [jn_toInt h]
  omega
theorem lit (n : Nat) : (OfNat.ofNat n : Int32) = nI (OfNat.ofNat n) := congrArg (fun k : Nat => Int32.ofNat k) (rfl : n = n)
theorem inb_t {a n : Nat} (h : a < n) (ha : a < 2147483648) : inb (nI a) n = true := by
  simp only [inb, Bool.and_eq_true, decide_eq_true_eq]
  refine ⟨?_, by rw [tn_nI ha]; exact h⟩
  rw [lit, jn_le (by omega) ha]
  omega
theorem jlt {a b : Nat} (h : a < b) (hb : b < 2147483648) : nI a < nI b := by
  rw [jn_lt (by omega) hb]
  exact h
theorem jnlt {a b : Nat} (h : b ≤ a) (ha : a < 2147483648) : ¬ nI a < nI b := by
  rw [jn_lt ha (by omega)]
  omega
theorem jle {a b : Nat} (h : a ≤ b) (hb : b < 2147483648) : nI a ≤ nI b := by
  rw [jn_le (by omega) hb]
  exact h
theorem jnle {a b : Nat} (h : b < a) (ha : a < 2147483648) : ¬ nI a ≤ nI b := by
  rw [jn_le ha (by omega)]
  omega
theorem jne {a b : Nat} (h : a ≠ b) (ha : a < 2147483648) (hb : b < 2147483648) : ¬ nI a = nI b := by
  rw [jn_eq ha hb]
  exact h
theorem nm_eq {α β : Type} (v : α) (f : α → Option β) : nm v f = f v := congrArg (fun g : α → Option β => g v) (rfl : f = f)
theorem gd_t {β : Type} (x : Option β) : gd true x = x := congrArg (fun y : Option β => y) (rfl : x = x)
theorem bd_s {α β : Type} (a : α) (f : α → Option β) : bd (some a) f = f a := congrArg (fun g : α → Option β => g a) (rfl : f = f)
theorem bd2_s {α γ β : Type} (a : α) (b : γ) (f : α → γ → Option β) : bd2 (some (a, b)) f = f a b := congrArg (fun g : α → γ → Option β => g a b) (rfl : f = f)
theorem jn_sub {a b : Nat} (h : b ≤ a) : nI a - nI b = nI (a - b) := pk_sub h
theorem jn_addm {a b : Nat} (h : b ≤ a) : nI a + -nI b = nI (a - b) := by
  rw [← Int32.sub_eq_add_neg, jn_sub h]
/-- an index: below n, or none -/
def ix (x : Int32) (n : Nat) : Prop := ∃ j, j < n ∧ x = nI j
theorem ix_cases (x : Int32) {n : Nat} (hn : n < 2147483648) : (x < 0 ∨ nI n ≤ x) ∨ ix x n := by
  rcases pk_ix x (n := n) (by omega) with h | h | h
  · exact Or.inl (Or.inl h)
  · exact Or.inl (Or.inr h)
  · exact Or.inr h
theorem not_ix {x : Int32} {n : Nat} (hn : n < 2147483648) (h : ¬ ix x n) : x < 0 ∨ nI n ≤ x := by
  rcases ix_cases x hn with q | q
  · exact q
  · exact absurd q h
theorem ix_not {x : Int32} {n : Nat} (hn : n < 2147483648) (h : x < 0 ∨ nI n ≤ x) : ¬ ix x n := by
  rintro ⟨j, hj, rfl⟩
  rcases h with h | h
  · rw [lit, jn_lt (by omega) (by omega)] at h
    omega
  · rw [jn_le (by omega) (by omega)] at h
    omega
theorem ix_iff {x : Int32} {n : Nat} (hn : n < 2147483648) : ix x n ↔ (0 ≤ x ∧ x < nI n) := by
  constructor
  · rintro ⟨j, hj, rfl⟩
    rw [lit, jn_le (by omega) (by omega), jn_lt (by omega) (by omega)]
    omega
  · rintro ⟨h1, h2⟩
    rcases ix_cases x hn with (q | q) | q
    · exact absurd h1 (Int32.not_le.mpr q)
    · exact absurd h2 (Int32.not_lt.mpr q)
    · exact q
/-! the checks of both sides -/
theorem e_isIn {a b c : Int32} : C_X9_isIn (Int32.toInt64 a) (Int32.toInt64 b) (Int32.toInt64 c) = some (if b ≤ a ∧ a ≤ c then 1 else 0) := by
  unfold C_X9_isIn F_X9_isIn_0
  have h1 : (lg_cmp (Int32.toInt64 a) (Int32.toInt64 b) < 0) ↔ ¬ b ≤ a := by
    rw [← Int32.not_le, lg_cmp_ge, fa_wide_le]
  have h2 : (0 < lg_cmp (Int32.toInt64 a) (Int32.toInt64 c)) ↔ ¬ a ≤ c := by
    have e : lg_cmp (Int32.toInt64 a) (Int32.toInt64 c) = if c < a then 1 else if a = c then 0 else -1 := by
      unfold lg_cmp
      simp only [gt_iff_lt, fa_wide_lt, fa_wide_eq]
    rw [e, Int32.not_le]
    by_cases q : c < a
    · rw [if_pos q]
      exact ⟨fun _ => q, fun _ => by decide⟩
    · rw [if_neg q]
      refine ⟨fun h => ?_, fun h => absurd h q⟩
      by_cases q2 : a = c
      · rw [if_pos q2] at h
        exact absurd h (by decide)
      · rw [if_neg q2] at h
        exact absurd h (by decide)
  by_cases q1 : b ≤ a
  · rw [if_neg (by rw [h1]; exact fun h => h q1)]
    by_cases q2 : a ≤ c
    · rw [if_neg (by rw [h2]; exact fun h => h q2), if_pos ⟨q1, q2⟩]
    · rw [if_pos (by rw [h2]; exact q2), if_neg (fun h => q2 h.2)]
  · rw [if_pos (by rw [h1]; exact q1), if_neg (fun h => q1 h.1)]
theorem wide_lit (n : Nat) (h : n < 2147483648) : (OfNat.ofNat n : Int64) = Int32.toInt64 (nI n) := by
  rw [fa_litL]
  unfold lN nI
  rw [← Int64.toInt_inj, Int32.toInt_toInt64]
  rw [Int32.toInt_ofNat_of_lt (by omega), Int64.toInt_ofNat_of_lt (by omega)]
theorem e_isIn_ix {a : Int32} {lo hi : Nat} (h : hi < 2147483647) : (nI lo ≤ a ∧ a ≤ nI hi ↔ ∃ j, lo ≤ j ∧ j ≤ hi ∧ a = nI j) ∨ hi < lo := by
  by_cases hlo : hi < lo
  · exact Or.inr hlo
  refine Or.inl ⟨fun ⟨h1, h2⟩ => ?_, ?_⟩
  · rcases ix_cases a (n := hi + 1) (by omega) with (q | q) | ⟨j, hj, rfl⟩
    · have : nI 0 ≤ nI lo := by rw [jn_le (by omega) (by omega)]; omega
      exact absurd (Int32.le_trans this h1) (Int32.not_le.mpr q)
    · have h3 : nI (hi + 1) ≤ nI hi := Int32.le_trans q h2
      rw [jn_le (by omega) (by omega)] at h3
      omega
    · rw [jn_le (by omega) (by omega)] at h1
      exact ⟨j, h1, by omega, rfl⟩
  · rintro ⟨j, h1, h2, rfl⟩
    rw [jn_le (by omega) (by omega), jn_le (by omega) (by omega)]
    exact ⟨h1, h2⟩
