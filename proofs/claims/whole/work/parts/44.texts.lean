/-! what a TEXT gives: the class's row of codes, the reference's steps -/
theorem FU_big : 4000 < FU := by decide
def names (key L : Nat) : Prop := (L = 103 ∧ (key = 0 ∨ key = 2)) ∨ (L = 119 ∧ (key = 0 ∨ key = 2)) ∨ (L = 110 ∧ key = 0) ∨ (L = 114 ∧ key = 1) ∨ (L = 109 ∧ key = 1)
def bsign (s : Nat) : Prop := s = 38 ∨ s = 42 ∨ s = 43 ∨ s = 45 ∨ s = 47 ∨ s = 60 ∨ s = 61 ∨ s = 62 ∨ s = 124
def dep (p : Nat → Nat × Nat) : Nat → Nat
  | 0 => 0
  | i + 1 => if (p i).1 = 2 then (if (p i).2 = 33 then dep p i else dep p i - 1) else dep p i + 1
/-- a step that stands well behind others -/
def stepOk (key : Nat) (p : Nat → Nat × Nat) (i : Nat) : Prop := ((p i).1 = 0 ∧ (p i).2 ≤ 9999) ∨ ((p i).1 = 1 ∧ names key (p i).2) ∨ ((p i).1 = 2 ∧ (p i).2 = 33 ∧ 1 ≤ dep p i) ∨ ((p i).1 = 2 ∧ bsign (p i).2 ∧ 2 ≤ dep p i)
def TextP (K : Mem) (S : Nat → Int32) (t key m : Nat) (p : Nat → Nat × Nat) : Prop := key < 3 ∧ m ≤ 96 ∧ dep p m = 1 ∧ (∀ i, i < m → stepOk key p i) ∧ S (58 + 200 * t) = nI key ∧ K 4 t = nI key ∧ K 5 t = S (59 + 200 * t) ∧ S (60 + 200 * t) = nI m ∧ K 3 t = nI m ∧ ∀ i, i < m → S (62 + 200 * t + 2 * i) = nI (p i).1 ∧ S (63 + 200 * t + 2 * i) = nI (p i).2 ∧ K (rwG t) i = if (p i).1 = 0 then nI (p i).2 else -nI (p i).2
theorem dep_le (p : Nat → Nat × Nat) : ∀ i, dep p i ≤ i
  | 0 => Nat.le_refl _
  | i + 1 => by
    have := dep_le p i
    unfold dep
    split
    · split <;> omega
    · omega
theorem div_m1 (a : Int32) : a / (-1) = -a := by
  apply Int32.toInt_inj.mp
  rw [Int32.toInt_div, show (-1 : Int32).toInt = -1 from rfl, Int.tdiv_neg, Int.tdiv_one, Int32.toInt_neg]
theorem e_truth (a : Int32) : C_X5_truth a = some (if a = 0 then 0 else 1) := by
  unfold C_X5_truth F_X5_truth_0
  split <;> rfl
theorem e_joined {s : Nat} (hs : bsign s) (a b : Int32) : ∃ v, C_X5_joined (nI s) a b = some v ∧ C_X9_joined (nI s) a b = some v := by
  unfold C_X5_joined F_X5_joined_0 C_X9_joined F_X9_joined_0
  rcases hs with rfl | rfl | rfl | rfl | rfl | rfl | rfl | rfl | rfl
  all_goals simp (disch := omega) only [lit, jn_eq, e_truth, bd_s, if_true, if_false, Nat.reduceEqDiff, F_X9_joined_197]
  · by_cases h1 : a = nI 0
    · simp only [h1, if_true]
      exact ⟨_, rfl, rfl⟩
    · simp only [h1, if_false]
      by_cases h2 : b = nI 0
      · simp only [h2, if_true]
        exact ⟨_, rfl, rfl⟩
      · simp only [h2, if_false]
        exact ⟨_, rfl, rfl⟩
  · exact ⟨_, rfl, rfl⟩
  · exact ⟨_, rfl, rfl⟩
  · exact ⟨_, rfl, rfl⟩
  · by_cases h1 : b = nI 0
    · simp only [h1, if_true]
      exact ⟨_, rfl, rfl⟩
    · have hz : nz b = true := by
        show (!decide (b = nI 0)) = true
        rw [decide_eq_false h1]
        rfl
      simp only [h1, if_false, hz, gd_t]
      by_cases h2 : b = -nI 1
      · subst h2
        rw [if_pos rfl, show a / -nI 1 = -a from div_m1 a]
        exact ⟨_, rfl, rfl⟩
      · rw [if_neg h2]
        exact ⟨_, rfl, rfl⟩
  · by_cases h1 : b ≤ a
    · simp only [h1, if_true, Int32.not_lt.mpr h1, if_false]
      exact ⟨_, rfl, rfl⟩
    · simp only [h1, if_false, Int32.not_le.mp h1, if_true]
      exact ⟨_, rfl, rfl⟩
  · by_cases h1 : a = b
    · simp only [h1, if_true]
      exact ⟨_, rfl, rfl⟩
    · simp only [h1, if_false]
      exact ⟨_, rfl, rfl⟩
  · by_cases h1 : a ≤ b
    · simp only [h1, if_true]
      exact ⟨_, rfl, rfl⟩
    · simp only [h1, if_false]
      exact ⟨_, rfl, rfl⟩
  · by_cases h1 : a = nI 0
    · simp only [h1, if_true]
      by_cases h2 : b = nI 0
      · simp only [h2, if_true]
        exact ⟨_, rfl, rfl⟩
      · simp only [h2, if_false]
        exact ⟨_, rfl, rfl⟩
    · simp only [h1, if_false]
      exact ⟨_, rfl, rfl⟩
theorem e_push {K : Mem} {d : Nat} (hd : K 1 5 = nI d) (h : d < 96) (v : Int32) : C_X5_push v K = some (up (up K 20 d v) 1 5 (nI (d + 1))) := by
  unfold C_X5_push F_X5_push_0
  rw [hd]
  have h1 : (up K 20 d v) 1 5 = nI d := by
    rw [u_ne (by decide)]
    exact hd
  simp (disch := omega) only [nm_eq, gd_t, bd_s, bd2_s, lit, jn_add, pk_mul, inb_t, tn_nI, jn_lt, jn_le, jn_eq, Nat.not_lt_zero, if_false, h1]
  rw [if_neg (by omega)]
theorem e_pop {K : Mem} {d : Nat} (hd : K 1 5 = nI (d + 1)) (h : d < 96) : C_X5_pop K = some (K 20 d, up K 1 5 (nI d)) := by
  unfold C_X5_pop F_X5_pop_0
  rw [hd]
  simp only [nm_eq, u_at, lit]
  rw [if_neg (jnle (by omega) (by omega)), if_pos (jle (by omega) (by omega)), show nI (d + 1) - nI 1 = nI d from by rw [jn_sub (by omega)]; rfl, inb_t (by omega) (by omega), gd_t, tn_nI (by omega), u_ne (by decide)]
theorem fb_bmod' {z : Int} (h1 : -2147483648 ≤ z) (h2 : z < 2147483648) : z.bmod (2 ^ 32) = z := Int.bmod_eq_of_le (by omega) (by omega)
theorem neg_lt {s : Nat} (h1 : 0 < s) (h2 : s < 1000) : -nI s < 0 := by
  rw [Int32.lt_iff_toInt_lt, Int32.toInt_neg, jn_toInt (by omega), fb_bmod' (by omega) (by omega)]
  show -(s : Int) < 0
  omega
