/-! the shapes: which cells the class has, and which the reference -/
def rwG (j : Nat) : Nat := 6 + j
def shG (j : Nat) : Nat := 51 + 2 * j
def slG (j : Nat) : Nat := 60 + 3 * j
def shsK : List Shp := [.inl (7, [some 1, some 21, some 28, some 35, some 42, some 46, some 48, some 50, some 59, some 75, none, none]),
  .inl (4, [some 2, some 3, some 4, some 5, some 20, none]),
  .inr (.inr (.array .int, 14, rwG)),
  .inr (.inl 14),
  .inr (.inl 14),
  .inr (.inl 14),
  .inr (.inl 96),
  .inr (.inl 96),
  .inr (.inl 96),
  .inr (.inl 96),
  .inr (.inl 96),
  .inr (.inl 96),
  .inr (.inl 96),
  .inr (.inl 96),
  .inr (.inl 96),
  .inr (.inl 96),
  .inr (.inl 96),
  .inr (.inl 96),
  .inr (.inl 96),
  .inr (.inl 96),
  .inr (.inl 96),
  .inl (5, [some 22, some 23, some 24, some 25, some 26, some 27, some 1, none, none, none, none, none, none, none]),
  .inr (.inl 12),
  .inr (.inl 12),
  .inr (.inl 12),
  .inr (.inl 12),
  .inr (.inl 3),
  .inr (.inl 3),
  .inl (5, [some 29, some 30, some 31, some 32, some 33, some 34, some 1, none, none, none, none, none, none, none]),
  .inr (.inl 12),
  .inr (.inl 12),
  .inr (.inl 12),
  .inr (.inl 12),
  .inr (.inl 3),
  .inr (.inl 3),
  .inl (5, [some 36, some 37, some 38, some 39, some 40, some 41, some 1, none, none, none, none, none, none, none]),
  .inr (.inl 12),
  .inr (.inl 12),
  .inr (.inl 12),
  .inr (.inl 12),
  .inr (.inl 3),
  .inr (.inl 3),
  .inl (6, [some 43, some 44, some 45]),
  .inr (.inl 12),
  .inr (.inl 12),
  .inr (.inl 12),
  .inl (3, [some 47, none]),
  .inr (.inl 96),
  .inl (0, [some 46, some 49, none, none, none, none, none, none]),
  .inr (.inl 96),
  .inr (.inr (.object RX2, 4, shG)),
  .inl (1, [some 52, none, none]),
  .inr (.inl 24),
  .inl (1, [some 54, none, none]),
  .inr (.inl 24),
  .inl (1, [some 56, none, none]),
  .inr (.inl 24),
  .inl (1, [some 58, none, none]),
  .inr (.inl 24),
  .inr (.inr (.object RX3, 5, slG)),
  .inl (2, [some 61, none, none, none, none]),
  .inl (1, [some 62, none, none]),
  .inr (.inl 24),
  .inl (2, [some 64, none, none, none, none]),
  .inl (1, [some 65, none, none]),
  .inr (.inl 24),
  .inl (2, [some 67, none, none, none, none]),
  .inl (1, [some 68, none, none]),
  .inr (.inl 24),
  .inl (2, [some 70, none, none, none, none]),
  .inl (1, [some 71, none, none]),
  .inr (.inl 24),
  .inl (2, [some 73, none, none, none, none]),
  .inl (1, [some 74, none, none]),
  .inr (.inl 24),
  .inr (.inl 60)]
def shsR : List Shp := [.inl (8, [some 1, some 2, some 3, none, some 4, some 5, some 6, some 7, some 8, some 9, some 10, some 11, some 12, some 13, some 14, some 15, none, none, none, none, none, none, none, none, none, none, none, some 16, some 17, some 18, some 19, none, some 20]),
  .inr (.inl 3058),
  .inr (.inl 3058),
  .inr (.inl 3058),
  .inr (.inl 4),
  .inr (.inl 4),
  .inr (.inl 96),
  .inr (.inl 5),
  .inr (.inl 5),
  .inr (.inl 5),
  .inr (.inl 5),
  .inr (.inl 120),
  .inr (.inl 12),
  .inr (.inl 96),
  .inr (.inl 58),
  .inr (.inl 96),
  .inr (.inl 128),
  .inr (.inl 100),
  .inr (.inl 24),
  .inr (.inl 60),
  .inr (.inl 60)]
theorem sk_0 : shsK[0]? = some (.inl (7, [some 1, some 21, some 28, some 35, some 42, some 46, some 48, some 50, some 59, some 75, none, none])) := rfl
theorem sk_1 : shsK[1]? = some (.inl (4, [some 2, some 3, some 4, some 5, some 20, none])) := rfl
theorem sk_2 : shsK[2]? = some (.inr (.inr (.array .int, 14, rwG))) := rfl
theorem sk_3 : shsK[3]? = some (.inr (.inl 14)) := rfl
theorem sk_4 : shsK[4]? = some (.inr (.inl 14)) := rfl
theorem sk_5 : shsK[5]? = some (.inr (.inl 14)) := rfl
theorem sk_6 : shsK[6]? = some (.inr (.inl 96)) := rfl
theorem sk_7 : shsK[7]? = some (.inr (.inl 96)) := rfl
theorem sk_8 : shsK[8]? = some (.inr (.inl 96)) := rfl
theorem sk_9 : shsK[9]? = some (.inr (.inl 96)) := rfl
theorem sk_10 : shsK[10]? = some (.inr (.inl 96)) := rfl
theorem sk_11 : shsK[11]? = some (.inr (.inl 96)) := rfl
theorem sk_12 : shsK[12]? = some (.inr (.inl 96)) := rfl
theorem sk_13 : shsK[13]? = some (.inr (.inl 96)) := rfl
theorem sk_14 : shsK[14]? = some (.inr (.inl 96)) := rfl
theorem sk_15 : shsK[15]? = some (.inr (.inl 96)) := rfl
theorem sk_16 : shsK[16]? = some (.inr (.inl 96)) := rfl
theorem sk_17 : shsK[17]? = some (.inr (.inl 96)) := rfl
theorem sk_18 : shsK[18]? = some (.inr (.inl 96)) := rfl
theorem sk_19 : shsK[19]? = some (.inr (.inl 96)) := rfl
theorem sk_20 : shsK[20]? = some (.inr (.inl 96)) := rfl
theorem sk_21 : shsK[21]? = some (.inl (5, [some 22, some 23, some 24, some 25, some 26, some 27, some 1, none, none, none, none, none, none, none])) := rfl
theorem sk_22 : shsK[22]? = some (.inr (.inl 12)) := rfl
theorem sk_23 : shsK[23]? = some (.inr (.inl 12)) := rfl
theorem sk_24 : shsK[24]? = some (.inr (.inl 12)) := rfl
theorem sk_25 : shsK[25]? = some (.inr (.inl 12)) := rfl
theorem sk_26 : shsK[26]? = some (.inr (.inl 3)) := rfl
theorem sk_27 : shsK[27]? = some (.inr (.inl 3)) := rfl
theorem sk_28 : shsK[28]? = some (.inl (5, [some 29, some 30, some 31, some 32, some 33, some 34, some 1, none, none, none, none, none, none, none])) := rfl
theorem sk_29 : shsK[29]? = some (.inr (.inl 12)) := rfl
theorem sk_30 : shsK[30]? = some (.inr (.inl 12)) := rfl
theorem sk_31 : shsK[31]? = some (.inr (.inl 12)) := rfl
theorem sk_32 : shsK[32]? = some (.inr (.inl 12)) := rfl
theorem sk_33 : shsK[33]? = some (.inr (.inl 3)) := rfl
theorem sk_34 : shsK[34]? = some (.inr (.inl 3)) := rfl
theorem sk_35 : shsK[35]? = some (.inl (5, [some 36, some 37, some 38, some 39, some 40, some 41, some 1, none, none, none, none, none, none, none])) := rfl
theorem sk_36 : shsK[36]? = some (.inr (.inl 12)) := rfl
theorem sk_37 : shsK[37]? = some (.inr (.inl 12)) := rfl
theorem sk_38 : shsK[38]? = some (.inr (.inl 12)) := rfl
theorem sk_39 : shsK[39]? = some (.inr (.inl 12)) := rfl
theorem sk_40 : shsK[40]? = some (.inr (.inl 3)) := rfl
theorem sk_41 : shsK[41]? = some (.inr (.inl 3)) := rfl
theorem sk_42 : shsK[42]? = some (.inl (6, [some 43, some 44, some 45])) := rfl
theorem sk_43 : shsK[43]? = some (.inr (.inl 12)) := rfl
theorem sk_44 : shsK[44]? = some (.inr (.inl 12)) := rfl
theorem sk_45 : shsK[45]? = some (.inr (.inl 12)) := rfl
theorem sk_46 : shsK[46]? = some (.inl (3, [some 47, none])) := rfl
theorem sk_47 : shsK[47]? = some (.inr (.inl 96)) := rfl
theorem sk_48 : shsK[48]? = some (.inl (0, [some 46, some 49, none, none, none, none, none, none])) := rfl
theorem sk_49 : shsK[49]? = some (.inr (.inl 96)) := rfl
theorem sk_50 : shsK[50]? = some (.inr (.inr (.object RX2, 4, shG))) := rfl
theorem sk_51 : shsK[51]? = some (.inl (1, [some 52, none, none])) := rfl
theorem sk_52 : shsK[52]? = some (.inr (.inl 24)) := rfl
theorem sk_53 : shsK[53]? = some (.inl (1, [some 54, none, none])) := rfl
theorem sk_54 : shsK[54]? = some (.inr (.inl 24)) := rfl
theorem sk_55 : shsK[55]? = some (.inl (1, [some 56, none, none])) := rfl
theorem sk_56 : shsK[56]? = some (.inr (.inl 24)) := rfl
theorem sk_57 : shsK[57]? = some (.inl (1, [some 58, none, none])) := rfl
theorem sk_58 : shsK[58]? = some (.inr (.inl 24)) := rfl
theorem sk_59 : shsK[59]? = some (.inr (.inr (.object RX3, 5, slG))) := rfl
theorem sk_60 : shsK[60]? = some (.inl (2, [some 61, none, none, none, none])) := rfl
theorem sk_61 : shsK[61]? = some (.inl (1, [some 62, none, none])) := rfl
theorem sk_62 : shsK[62]? = some (.inr (.inl 24)) := rfl
theorem sk_63 : shsK[63]? = some (.inl (2, [some 64, none, none, none, none])) := rfl
theorem sk_64 : shsK[64]? = some (.inl (1, [some 65, none, none])) := rfl
theorem sk_65 : shsK[65]? = some (.inr (.inl 24)) := rfl
theorem sk_66 : shsK[66]? = some (.inl (2, [some 67, none, none, none, none])) := rfl
theorem sk_67 : shsK[67]? = some (.inl (1, [some 68, none, none])) := rfl
theorem sk_68 : shsK[68]? = some (.inr (.inl 24)) := rfl
theorem sk_69 : shsK[69]? = some (.inl (2, [some 70, none, none, none, none])) := rfl
theorem sk_70 : shsK[70]? = some (.inl (1, [some 71, none, none])) := rfl
theorem sk_71 : shsK[71]? = some (.inr (.inl 24)) := rfl
theorem sk_72 : shsK[72]? = some (.inl (2, [some 73, none, none, none, none])) := rfl
theorem sk_73 : shsK[73]? = some (.inl (1, [some 74, none, none])) := rfl
theorem sk_74 : shsK[74]? = some (.inr (.inl 24)) := rfl
theorem sk_75 : shsK[75]? = some (.inr (.inl 60)) := rfl
theorem sr_0 : shsR[0]? = some (.inl (8, [some 1, some 2, some 3, none, some 4, some 5, some 6, some 7, some 8, some 9, some 10, some 11, some 12, some 13, some 14, some 15, none, none, none, none, none, none, none, none, none, none, none, some 16, some 17, some 18, some 19, none, some 20])) := rfl
theorem sr_1 : shsR[1]? = some (.inr (.inl 3058)) := rfl
theorem sr_2 : shsR[2]? = some (.inr (.inl 3058)) := rfl
theorem sr_3 : shsR[3]? = some (.inr (.inl 3058)) := rfl
theorem sr_4 : shsR[4]? = some (.inr (.inl 4)) := rfl
theorem sr_5 : shsR[5]? = some (.inr (.inl 4)) := rfl
theorem sr_6 : shsR[6]? = some (.inr (.inl 96)) := rfl
theorem sr_7 : shsR[7]? = some (.inr (.inl 5)) := rfl
theorem sr_8 : shsR[8]? = some (.inr (.inl 5)) := rfl
theorem sr_9 : shsR[9]? = some (.inr (.inl 5)) := rfl
theorem sr_10 : shsR[10]? = some (.inr (.inl 5)) := rfl
theorem sr_11 : shsR[11]? = some (.inr (.inl 120)) := rfl
theorem sr_12 : shsR[12]? = some (.inr (.inl 12)) := rfl
theorem sr_13 : shsR[13]? = some (.inr (.inl 96)) := rfl
theorem sr_14 : shsR[14]? = some (.inr (.inl 58)) := rfl
theorem sr_15 : shsR[15]? = some (.inr (.inl 96)) := rfl
theorem sr_16 : shsR[16]? = some (.inr (.inl 128)) := rfl
theorem sr_17 : shsR[17]? = some (.inr (.inl 100)) := rfl
theorem sr_18 : shsR[18]? = some (.inr (.inl 24)) := rfl
theorem sr_19 : shsR[19]? = some (.inr (.inl 60)) := rfl
theorem sr_20 : shsR[20]? = some (.inr (.inl 60)) := rfl
def isTown (q : Nat) : Prop := q = 21 ∨ q = 28 ∨ q = 35
theorem isTown_21 : isTown 21 := Or.inl rfl
theorem isTown_28 : isTown 28 := Or.inr (Or.inl rfl)
theorem isTown_35 : isTown 35 := Or.inr (Or.inr rfl)
theorem tk_0 {q : Nat} (h : isTown q) : shsK[q]? = some (.inl (5, [some (q + 1), some (q + 2), some (q + 3), some (q + 4), some (q + 5), some (q + 6), some 1, none, none, none, none, none, none, none])) := by rcases h with rfl | rfl | rfl <;> rfl
theorem tk_1 {q : Nat} (h : isTown q) : shsK[q + 1]? = some (.inr (.inl 12)) := by rcases h with rfl | rfl | rfl <;> rfl
theorem tk_2 {q : Nat} (h : isTown q) : shsK[q + 2]? = some (.inr (.inl 12)) := by rcases h with rfl | rfl | rfl <;> rfl
theorem tk_3 {q : Nat} (h : isTown q) : shsK[q + 3]? = some (.inr (.inl 12)) := by rcases h with rfl | rfl | rfl <;> rfl
theorem tk_4 {q : Nat} (h : isTown q) : shsK[q + 4]? = some (.inr (.inl 12)) := by rcases h with rfl | rfl | rfl <;> rfl
theorem tk_5 {q : Nat} (h : isTown q) : shsK[q + 5]? = some (.inr (.inl 3)) := by rcases h with rfl | rfl | rfl <;> rfl
theorem tk_6 {q : Nat} (h : isTown q) : shsK[q + 6]? = some (.inr (.inl 3)) := by rcases h with rfl | rfl | rfl <;> rfl
theorem below4 {P : Nat → Prop} (h0 : P 0) (h1 : P 1) (h2 : P 2) (h3 : P 3) {j : Nat} (h : j < 4) : P j := by
  match j, h with
  | 0, _ => exact h0
  | 1, _ => exact h1
  | 2, _ => exact h2
  | 3, _ => exact h3
theorem below5 {P : Nat → Prop} (h0 : P 0) (h1 : P 1) (h2 : P 2) (h3 : P 3) (h4 : P 4) {j : Nat} (h : j < 5) : P j := by
  match j, h with
  | 0, _ => exact h0
  | 1, _ => exact h1
  | 2, _ => exact h2
  | 3, _ => exact h3
  | 4, _ => exact h4
def isSheet (q : Nat) : Prop := (∃ j, j < 4 ∧ q = shG j) ∨ ∃ j, j < 5 ∧ q = slG j + 1
def isSlot (q : Nat) : Prop := ∃ j, j < 5 ∧ q = slG j
def isRow (q : Nat) : Prop := ∃ j, j < 14 ∧ q = rwG j
def isBig (q : Nat) : Prop := q = 1 ∨ q = 2 ∨ q = 3
theorem isBig_1 : isBig 1 := Or.inl rfl
theorem isBig_2 : isBig 2 := Or.inr (Or.inl rfl)
theorem isBig_3 : isBig 3 := Or.inr (Or.inr rfl)
theorem big_0 {q : Nat} (h : isBig q) : shsR[q]? = some (.inr (.inl 3058)) := by rcases h with rfl | rfl | rfl <;> rfl
theorem isSheet_of {i : Int32} (h : inb i 4 = true) : isSheet (shG i.toNatClampNeg) := Or.inl ⟨_, inb_lt h, rfl⟩
theorem isSlot_of {i : Int32} (h : inb i 5 = true) : isSlot (slG i.toNatClampNeg) := ⟨_, inb_lt h, rfl⟩
theorem isRow_of {i : Int32} (h : inb i 14 = true) : isRow (rwG i.toNatClampNeg) := ⟨_, inb_lt h, rfl⟩
theorem slot_sheet {q : Nat} (h : isSlot q) : isSheet (q + 1) := by
  obtain ⟨j, h, rfl⟩ := h
  exact Or.inr ⟨j, h, rfl⟩
theorem shk_0 {q : Nat} (h : isSheet q) : shsK[q]? = some (.inl (1, [some (q + 1), none, none])) := by
  rcases h with ⟨j, h, rfl⟩ | ⟨j, h, rfl⟩
  · revert j
    intro j h
    exact below4 (P := fun j => shsK[shG j]? = some (.inl (1, [some (shG j + 1), none, none]))) rfl rfl rfl rfl h
  · exact below5 (P := fun j => shsK[slG j + 1]? = some (.inl (1, [some (slG j + 1 + 1), none, none]))) rfl rfl rfl rfl rfl h
theorem shk_1 {q : Nat} (h : isSheet q) : shsK[q + 1]? = some (.inr (.inl 24)) := by
  rcases h with ⟨j, h, rfl⟩ | ⟨j, h, rfl⟩
  · exact below4 (P := fun j => shsK[shG j + 1]? = some (.inr (.inl 24))) rfl rfl rfl rfl h
  · exact below5 (P := fun j => shsK[slG j + 1 + 1]? = some (.inr (.inl 24))) rfl rfl rfl rfl rfl h
theorem slk_0 {q : Nat} (h : isSlot q) : shsK[q]? = some (.inl (2, [some (q + 1), none, none, none, none])) := by
  obtain ⟨j, h, rfl⟩ := h
  exact below5 (P := fun j => shsK[slG j]? = some (.inl (2, [some (slG j + 1), none, none, none, none]))) rfl rfl rfl rfl rfl h
theorem row_0 {q : Nat} (h : isRow q) : shsK[q]? = some (.inr (.inl 96)) := by
  obtain ⟨j, h, rfl⟩ := h
  unfold rwG
  match j, h with
  | 0, _ => rfl
  | 1, _ => rfl
  | 2, _ => rfl
  | 3, _ => rfl
  | 4, _ => rfl
  | 5, _ => rfl
  | 6, _ => rfl
  | 7, _ => rfl
  | 8, _ => rfl
  | 9, _ => rfl
  | 10, _ => rfl
  | 11, _ => rfl
  | 12, _ => rfl
  | 13, _ => rfl
theorem ff_X5_11 : FOk RX5 11 4 0 := ⟨_, _, _, rfl, by decide, inX5, m_34⟩
theorem ff_X5_16 : FOk RX5 16 4 1 := ⟨_, _, _, rfl, by decide, inX5, m_35⟩
theorem ff_X5_20 : FOk RX5 20 4 2 := ⟨_, _, _, rfl, by decide, inX5, m_36⟩
theorem ff_X8_228 : FOk RX8 228 4 2 := ⟨_, _, _, rfl, by decide, inX5, m_37⟩
theorem ff_X5_23 : FOk RX5 23 4 3 := ⟨_, _, _, rfl, by decide, inX5, m_38⟩
theorem ff_X8_230 : FOk RX8 230 4 3 := ⟨_, _, _, rfl, by decide, inX5, m_39⟩
theorem ff_X5_26 : FOk RX5 26 4 4 := ⟨_, _, _, rfl, by decide, inX5, m_40⟩
theorem ff_X5_48 : FOk RX5 48 4 5 := ⟨_, _, _, rfl, by decide, inX5, m_41⟩
theorem fp_X5_48 : FPut RX5 48 4 5 .int := ⟨_, _, _, tyX5, rfl, by decide, inX5, m_41, tyX5_ok, nmX5, rfl, by decide +kernel⟩
theorem ff_X6_9 : FOk RX6 9 5 0 := ⟨_, _, _, rfl, by decide, inX6, m_62⟩
theorem ff_X8_98 : FOk RX8 98 5 0 := ⟨_, _, _, rfl, by decide, inX6, m_63⟩
theorem ff_X7_50 : FOk RX7 50 5 0 := ⟨_, _, _, rfl, by decide, inX6, m_64⟩
theorem ff_X6_15 : FOk RX6 15 5 1 := ⟨_, _, _, rfl, by decide, inX6, m_65⟩
theorem ff_X8_101 : FOk RX8 101 5 1 := ⟨_, _, _, rfl, by decide, inX6, m_66⟩
theorem ff_X5_75 : FOk RX5 75 5 1 := ⟨_, _, _, rfl, by decide, inX6, m_67⟩
theorem ff_X6_18 : FOk RX6 18 5 2 := ⟨_, _, _, rfl, by decide, inX6, m_68⟩
theorem ff_X8_104 : FOk RX8 104 5 2 := ⟨_, _, _, rfl, by decide, inX6, m_69⟩
theorem ff_X5_80 : FOk RX5 80 5 2 := ⟨_, _, _, rfl, by decide, inX6, m_70⟩
theorem ff_X6_21 : FOk RX6 21 5 3 := ⟨_, _, _, rfl, by decide, inX6, m_71⟩
theorem ff_X8_107 : FOk RX8 107 5 3 := ⟨_, _, _, rfl, by decide, inX6, m_72⟩
theorem ff_X6_24 : FOk RX6 24 5 4 := ⟨_, _, _, rfl, by decide, inX6, m_73⟩
theorem ff_X8_137 : FOk RX8 137 5 4 := ⟨_, _, _, rfl, by decide, inX6, m_74⟩
theorem ff_X6_27 : FOk RX6 27 5 5 := ⟨_, _, _, rfl, by decide, inX6, m_75⟩
theorem ff_X8_201 : FOk RX8 201 5 5 := ⟨_, _, _, rfl, by decide, inX6, m_76⟩
theorem ff_X6_34 : FOk RX6 34 5 6 := ⟨_, _, _, rfl, by decide, inX6, m_77⟩
theorem ff_X8_91 : FOk RX8 91 5 7 := ⟨_, _, _, rfl, by decide, inX6, m_78⟩
theorem fp_X8_91 : FPut RX8 91 5 7 .int := ⟨_, _, _, tyX6, rfl, by decide, inX6, m_78, tyX6_ok, nmX6, rfl, by decide +kernel⟩
theorem ff_X6_44 : FOk RX6 44 5 7 := ⟨_, _, _, rfl, by decide, inX6, m_79⟩
theorem fp_X6_44 : FPut RX6 44 5 7 .int := ⟨_, _, _, tyX6, rfl, by decide, inX6, m_79, tyX6_ok, nmX6, rfl, by decide +kernel⟩
theorem ff_X7_30 : FOk RX7 30 5 7 := ⟨_, _, _, rfl, by decide, inX6, m_80⟩
theorem fp_X7_30 : FPut RX7 30 5 7 .int := ⟨_, _, _, tyX6, rfl, by decide, inX6, m_80, tyX6_ok, nmX6, rfl, by decide +kernel⟩
theorem ff_X6_47 : FOk RX6 47 5 8 := ⟨_, _, _, rfl, by decide, inX6, m_81⟩
theorem fp_X6_47 : FPut RX6 47 5 8 .int := ⟨_, _, _, tyX6, rfl, by decide, inX6, m_81, tyX6_ok, nmX6, rfl, by decide +kernel⟩
theorem ff_X8_155 : FOk RX8 155 5 8 := ⟨_, _, _, rfl, by decide, inX6, m_82⟩
theorem fp_X8_155 : FPut RX8 155 5 8 .int := ⟨_, _, _, tyX6, rfl, by decide, inX6, m_82, tyX6_ok, nmX6, rfl, by decide +kernel⟩
theorem ff_X6_50 : FOk RX6 50 5 9 := ⟨_, _, _, rfl, by decide, inX6, m_83⟩
theorem fp_X6_50 : FPut RX6 50 5 9 .int := ⟨_, _, _, tyX6, rfl, by decide, inX6, m_83, tyX6_ok, nmX6, rfl, by decide +kernel⟩
theorem ff_X5_86 : FOk RX5 86 5 9 := ⟨_, _, _, rfl, by decide, inX6, m_84⟩
theorem fp_X5_86 : FPut RX5 86 5 9 .int := ⟨_, _, _, tyX6, rfl, by decide, inX6, m_84, tyX6_ok, nmX6, rfl, by decide +kernel⟩
theorem ff_X8_146 : FOk RX8 146 5 9 := ⟨_, _, _, rfl, by decide, inX6, m_85⟩
theorem fp_X8_146 : FPut RX8 146 5 9 .int := ⟨_, _, _, tyX6, rfl, by decide, inX6, m_85, tyX6_ok, nmX6, rfl, by decide +kernel⟩
theorem ff_X6_53 : FOk RX6 53 5 10 := ⟨_, _, _, rfl, by decide, inX6, m_86⟩
theorem fp_X6_53 : FPut RX6 53 5 10 .int := ⟨_, _, _, tyX6, rfl, by decide, inX6, m_86, tyX6_ok, nmX6, rfl, by decide +kernel⟩
theorem ff_X5_89 : FOk RX5 89 5 10 := ⟨_, _, _, rfl, by decide, inX6, m_87⟩
theorem fp_X5_89 : FPut RX5 89 5 10 .int := ⟨_, _, _, tyX6, rfl, by decide, inX6, m_87, tyX6_ok, nmX6, rfl, by decide +kernel⟩
theorem ff_X8_158 : FOk RX8 158 5 10 := ⟨_, _, _, rfl, by decide, inX6, m_88⟩
theorem fp_X8_158 : FPut RX8 158 5 10 .int := ⟨_, _, _, tyX6, rfl, by decide, inX6, m_88, tyX6_ok, nmX6, rfl, by decide +kernel⟩
theorem ff_X6_56 : FOk RX6 56 5 11 := ⟨_, _, _, rfl, by decide, inX6, m_89⟩
theorem fp_X6_56 : FPut RX6 56 5 11 .int := ⟨_, _, _, tyX6, rfl, by decide, inX6, m_89, tyX6_ok, nmX6, rfl, by decide +kernel⟩
theorem ff_X5_83 : FOk RX5 83 5 11 := ⟨_, _, _, rfl, by decide, inX6, m_90⟩
theorem fp_X5_83 : FPut RX5 83 5 11 .int := ⟨_, _, _, tyX6, rfl, by decide, inX6, m_90, tyX6_ok, nmX6, rfl, by decide +kernel⟩
theorem ff_X8_149 : FOk RX8 149 5 11 := ⟨_, _, _, rfl, by decide, inX6, m_91⟩
theorem fp_X8_149 : FPut RX8 149 5 11 .int := ⟨_, _, _, tyX6, rfl, by decide, inX6, m_91, tyX6_ok, nmX6, rfl, by decide +kernel⟩
theorem ff_X6_30 : FOk RX6 30 5 12 := ⟨_, _, _, rfl, by decide, inX6, m_92⟩
theorem fp_X6_30 : FPut RX6 30 5 12 .int := ⟨_, _, _, tyX6, rfl, by decide, inX6, m_92, tyX6_ok, nmX6, rfl, by decide +kernel⟩
theorem ff_X8_143 : FOk RX8 143 5 12 := ⟨_, _, _, rfl, by decide, inX6, m_93⟩
theorem fp_X8_143 : FPut RX8 143 5 12 .int := ⟨_, _, _, tyX6, rfl, by decide, inX6, m_93, tyX6_ok, nmX6, rfl, by decide +kernel⟩
theorem ff_X6_59 : FOk RX6 59 5 13 := ⟨_, _, _, rfl, by decide, inX6, m_94⟩
theorem fp_X6_59 : FPut RX6 59 5 13 .int := ⟨_, _, _, tyX6, rfl, by decide, inX6, m_94, tyX6_ok, nmX6, rfl, by decide +kernel⟩
theorem ff_X8_216 : FOk RX8 216 5 13 := ⟨_, _, _, rfl, by decide, inX6, m_95⟩
theorem fp_X8_216 : FPut RX8 216 5 13 .int := ⟨_, _, _, tyX6, rfl, by decide, inX6, m_95, tyX6_ok, nmX6, rfl, by decide +kernel⟩
theorem ff_X7_9 : FOk RX7 9 6 0 := ⟨_, _, _, rfl, by decide, inX7, m_131⟩
theorem ff_X7_15 : FOk RX7 15 6 1 := ⟨_, _, _, rfl, by decide, inX7, m_132⟩
theorem ff_X7_18 : FOk RX7 18 6 2 := ⟨_, _, _, rfl, by decide, inX7, m_133⟩
theorem ff_X4_9 : FOk RX4 9 3 0 := ⟨_, _, _, rfl, by decide, inX4, m_147⟩
theorem ff_X1_61 : FOk RX1 61 3 0 := ⟨_, _, _, rfl, by decide, inX4, m_148⟩
theorem ff_X4_15 : FOk RX4 15 3 1 := ⟨_, _, _, rfl, by decide, inX4, m_149⟩
theorem fp_X4_15 : FPut RX4 15 3 1 .int := ⟨_, _, _, tyX4, rfl, by decide, inX4, m_149, tyX4_ok, nmX4, rfl, by decide +kernel⟩
theorem ff_X1_49 : FOk RX1 49 3 1 := ⟨_, _, _, rfl, by decide, inX4, m_150⟩
theorem fp_X1_49 : FPut RX1 49 3 1 .int := ⟨_, _, _, tyX4, rfl, by decide, inX4, m_150, tyX4_ok, nmX4, rfl, by decide +kernel⟩
theorem ff_X8_208 : FOk RX8 208 3 1 := ⟨_, _, _, rfl, by decide, inX4, m_151⟩
theorem fp_X8_208 : FPut RX8 208 3 1 .int := ⟨_, _, _, tyX4, rfl, by decide, inX4, m_151, tyX4_ok, nmX4, rfl, by decide +kernel⟩
theorem ff_X1_15 : FOk RX1 15 0 0 := ⟨_, _, _, rfl, by decide, inX1, m_163⟩
theorem ff_X1_9 : FOk RX1 9 0 1 := ⟨_, _, _, rfl, by decide, inX1, m_164⟩
theorem ff_X5_29 : FOk RX5 29 0 1 := ⟨_, _, _, rfl, by decide, inX1, m_165⟩
theorem ff_X1_19 : FOk RX1 19 0 2 := ⟨_, _, _, rfl, by decide, inX1, m_166⟩
theorem fp_X1_19 : FPut RX1 19 0 2 .int := ⟨_, _, _, tyX1, rfl, by decide, inX1, m_166, tyX1_ok, nmX1, rfl, by decide +kernel⟩
theorem ff_X5_34 : FOk RX5 34 0 2 := ⟨_, _, _, rfl, by decide, inX1, m_167⟩
theorem fp_X5_34 : FPut RX5 34 0 2 .int := ⟨_, _, _, tyX1, rfl, by decide, inX1, m_167, tyX1_ok, nmX1, rfl, by decide +kernel⟩
theorem ff_X1_23 : FOk RX1 23 0 3 := ⟨_, _, _, rfl, by decide, inX1, m_168⟩
theorem fp_X1_23 : FPut RX1 23 0 3 .int := ⟨_, _, _, tyX1, rfl, by decide, inX1, m_168, tyX1_ok, nmX1, rfl, by decide +kernel⟩
theorem ff_X5_46 : FOk RX5 46 0 3 := ⟨_, _, _, rfl, by decide, inX1, m_169⟩
theorem fp_X5_46 : FPut RX5 46 0 3 .int := ⟨_, _, _, tyX1, rfl, by decide, inX1, m_169, tyX1_ok, nmX1, rfl, by decide +kernel⟩
theorem ff_X1_39 : FOk RX1 39 0 4 := ⟨_, _, _, rfl, by decide, inX1, m_170⟩
theorem fp_X1_39 : FPut RX1 39 0 4 .int := ⟨_, _, _, tyX1, rfl, by decide, inX1, m_170, tyX1_ok, nmX1, rfl, by decide +kernel⟩
theorem ff_X5_44 : FOk RX5 44 0 4 := ⟨_, _, _, rfl, by decide, inX1, m_171⟩
theorem fp_X5_44 : FPut RX5 44 0 4 .int := ⟨_, _, _, tyX1, rfl, by decide, inX1, m_171, tyX1_ok, nmX1, rfl, by decide +kernel⟩
theorem ff_X8_222 : FOk RX8 222 0 4 := ⟨_, _, _, rfl, by decide, inX1, m_172⟩
theorem fp_X8_222 : FPut RX8 222 0 4 .int := ⟨_, _, _, tyX1, rfl, by decide, inX1, m_172, tyX1_ok, nmX1, rfl, by decide +kernel⟩
theorem ff_X1_26 : FOk RX1 26 0 5 := ⟨_, _, _, rfl, by decide, inX1, m_173⟩
theorem fp_X1_26 : FPut RX1 26 0 5 .int := ⟨_, _, _, tyX1, rfl, by decide, inX1, m_173, tyX1_ok, nmX1, rfl, by decide +kernel⟩
theorem ff_X1_42 : FOk RX1 42 0 6 := ⟨_, _, _, rfl, by decide, inX1, m_174⟩
theorem fp_X1_42 : FPut RX1 42 0 6 .int := ⟨_, _, _, tyX1, rfl, by decide, inX1, m_174, tyX1_ok, nmX1, rfl, by decide +kernel⟩
theorem ff_X1_29 : FOk RX1 29 0 7 := ⟨_, _, _, rfl, by decide, inX1, m_175⟩
theorem fp_X1_29 : FPut RX1 29 0 7 .int := ⟨_, _, _, tyX1, rfl, by decide, inX1, m_175, tyX1_ok, nmX1, rfl, by decide +kernel⟩
theorem ff_X2_11 : FOk RX2 11 1 0 := ⟨_, _, _, rfl, by decide, inX2, m_200⟩
theorem ff_X8_245 : FOk RX8 245 1 0 := ⟨_, _, _, rfl, by decide, inX2, m_201⟩
theorem ff_X2_15 : FOk RX2 15 1 1 := ⟨_, _, _, rfl, by decide, inX2, m_202⟩
theorem fp_X2_15 : FPut RX2 15 1 1 .int := ⟨_, _, _, tyX2, rfl, by decide, inX2, m_202, tyX2_ok, nmX2, rfl, by decide +kernel⟩
theorem ff_X8_242 : FOk RX8 242 1 1 := ⟨_, _, _, rfl, by decide, inX2, m_203⟩
theorem fp_X8_242 : FPut RX8 242 1 1 .int := ⟨_, _, _, tyX2, rfl, by decide, inX2, m_203, tyX2_ok, nmX2, rfl, by decide +kernel⟩
theorem ff_X2_19 : FOk RX2 19 1 2 := ⟨_, _, _, rfl, by decide, inX2, m_204⟩
theorem fp_X2_19 : FPut RX2 19 1 2 .int := ⟨_, _, _, tyX2, rfl, by decide, inX2, m_204, tyX2_ok, nmX2, rfl, by decide +kernel⟩
theorem ff_X8_256 : FOk RX8 256 1 2 := ⟨_, _, _, rfl, by decide, inX2, m_205⟩
theorem fp_X8_256 : FPut RX8 256 1 2 .int := ⟨_, _, _, tyX2, rfl, by decide, inX2, m_205, tyX2_ok, nmX2, rfl, by decide +kernel⟩
theorem ff_X3_10 : FOk RX3 10 2 0 := ⟨_, _, _, rfl, by decide, inX3, m_222⟩
theorem ff_X8_288 : FOk RX8 288 2 0 := ⟨_, _, _, rfl, by decide, inX3, m_223⟩
theorem ff_X3_16 : FOk RX3 16 2 1 := ⟨_, _, _, rfl, by decide, inX3, m_224⟩
theorem fp_X3_16 : FPut RX3 16 2 1 .int := ⟨_, _, _, tyX3, rfl, by decide, inX3, m_224, tyX3_ok, nmX3, rfl, by decide +kernel⟩
theorem ff_X8_271 : FOk RX8 271 2 1 := ⟨_, _, _, rfl, by decide, inX3, m_225⟩
theorem fp_X8_271 : FPut RX8 271 2 1 .int := ⟨_, _, _, tyX3, rfl, by decide, inX3, m_225, tyX3_ok, nmX3, rfl, by decide +kernel⟩
theorem ff_X3_20 : FOk RX3 20 2 2 := ⟨_, _, _, rfl, by decide, inX3, m_226⟩
theorem fp_X3_20 : FPut RX3 20 2 2 .int := ⟨_, _, _, tyX3, rfl, by decide, inX3, m_226, tyX3_ok, nmX3, rfl, by decide +kernel⟩
theorem ff_X8_284 : FOk RX8 284 2 2 := ⟨_, _, _, rfl, by decide, inX3, m_227⟩
theorem fp_X8_284 : FPut RX8 284 2 2 .int := ⟨_, _, _, tyX3, rfl, by decide, inX3, m_227, tyX3_ok, nmX3, rfl, by decide +kernel⟩
theorem ff_X3_23 : FOk RX3 23 2 3 := ⟨_, _, _, rfl, by decide, inX3, m_228⟩
theorem fp_X3_23 : FPut RX3 23 2 3 .int := ⟨_, _, _, tyX3, rfl, by decide, inX3, m_228, tyX3_ok, nmX3, rfl, by decide +kernel⟩
theorem ff_X8_286 : FOk RX8 286 2 3 := ⟨_, _, _, rfl, by decide, inX3, m_229⟩
theorem fp_X8_286 : FPut RX8 286 2 3 .int := ⟨_, _, _, tyX3, rfl, by decide, inX3, m_229, tyX3_ok, nmX3, rfl, by decide +kernel⟩
theorem ff_X3_30 : FOk RX3 30 2 4 := ⟨_, _, _, rfl, by decide, inX3, m_230⟩
theorem fp_X3_30 : FPut RX3 30 2 4 .int := ⟨_, _, _, tyX3, rfl, by decide, inX3, m_230, tyX3_ok, nmX3, rfl, by decide +kernel⟩
theorem ff_X8_292 : FOk RX8 292 2 4 := ⟨_, _, _, rfl, by decide, inX3, m_231⟩
theorem fp_X8_292 : FPut RX8 292 2 4 .int := ⟨_, _, _, tyX3, rfl, by decide, inX3, m_231, tyX3_ok, nmX3, rfl, by decide +kernel⟩
theorem ff_X8_10 : FOk RX8 10 7 0 := ⟨_, _, _, rfl, by decide, inX8, m_243⟩
theorem ff_X8_21 : FOk RX8 21 7 1 := ⟨_, _, _, rfl, by decide, inX8, m_244⟩
theorem ff_X8_25 : FOk RX8 25 7 2 := ⟨_, _, _, rfl, by decide, inX8, m_245⟩
theorem ff_X8_28 : FOk RX8 28 7 3 := ⟨_, _, _, rfl, by decide, inX8, m_246⟩
theorem ff_X8_34 : FOk RX8 34 7 4 := ⟨_, _, _, rfl, by decide, inX8, m_247⟩
theorem ff_X8_41 : FOk RX8 41 7 5 := ⟨_, _, _, rfl, by decide, inX8, m_248⟩
theorem ff_X8_50 : FOk RX8 50 7 6 := ⟨_, _, _, rfl, by decide, inX8, m_249⟩
theorem ff_X8_56 : FOk RX8 56 7 7 := ⟨_, _, _, rfl, by decide, inX8, m_250⟩
theorem ff_X8_63 : FOk RX8 63 7 8 := ⟨_, _, _, rfl, by decide, inX8, m_251⟩
theorem ff_X8_68 : FOk RX8 68 7 9 := ⟨_, _, _, rfl, by decide, inX8, m_252⟩
theorem ff_X8_295 : FOk RX8 295 7 10 := ⟨_, _, _, rfl, by decide, inX8, m_253⟩
theorem fp_X8_295 : FPut RX8 295 7 10 .int := ⟨_, _, _, tyX8, rfl, by decide, inX8, m_253, tyX8_ok, nmX8, rfl, by decide +kernel⟩
theorem ff_X8_298 : FOk RX8 298 7 11 := ⟨_, _, _, rfl, by decide, inX8, m_254⟩
theorem fp_X8_298 : FPut RX8 298 7 11 .boolean := ⟨_, _, _, tyX8, rfl, by decide, inX8, m_254, tyX8_ok, nmX8, rfl, by decide +kernel⟩
theorem ff_X9_7 : FOk RX9 7 8 0 := ⟨_, _, _, rfl, by decide, inX9, m_844⟩
theorem ff_X9_13 : FOk RX9 13 8 1 := ⟨_, _, _, rfl, by decide, inX9, m_845⟩
theorem ff_X9_16 : FOk RX9 16 8 2 := ⟨_, _, _, rfl, by decide, inX9, m_846⟩
theorem ff_X9_352 : FOk RX9 352 8 3 := ⟨_, _, _, rfl, by decide, inX9, m_847⟩
theorem fp_X9_352 : FPut RX9 352 8 3 .boolean := ⟨_, _, _, tyX9, rfl, by decide, inX9, m_847, tyX9_ok, nmX9, rfl, by decide +kernel⟩
theorem ff_X9_19 : FOk RX9 19 8 4 := ⟨_, _, _, rfl, by decide, inX9, m_848⟩
theorem ff_X9_22 : FOk RX9 22 8 5 := ⟨_, _, _, rfl, by decide, inX9, m_849⟩
theorem ff_X9_25 : FOk RX9 25 8 6 := ⟨_, _, _, rfl, by decide, inX9, m_850⟩
theorem ff_X9_28 : FOk RX9 28 8 7 := ⟨_, _, _, rfl, by decide, inX9, m_851⟩
theorem ff_X9_31 : FOk RX9 31 8 8 := ⟨_, _, _, rfl, by decide, inX9, m_852⟩
theorem ff_X9_34 : FOk RX9 34 8 9 := ⟨_, _, _, rfl, by decide, inX9, m_853⟩
theorem ff_X9_37 : FOk RX9 37 8 10 := ⟨_, _, _, rfl, by decide, inX9, m_854⟩
theorem ff_X9_40 : FOk RX9 40 8 11 := ⟨_, _, _, rfl, by decide, inX9, m_855⟩
theorem ff_X9_43 : FOk RX9 43 8 12 := ⟨_, _, _, rfl, by decide, inX9, m_856⟩
theorem ff_X9_46 : FOk RX9 46 8 13 := ⟨_, _, _, rfl, by decide, inX9, m_857⟩
theorem ff_X9_49 : FOk RX9 49 8 14 := ⟨_, _, _, rfl, by decide, inX9, m_858⟩
theorem ff_X9_52 : FOk RX9 52 8 15 := ⟨_, _, _, rfl, by decide, inX9, m_859⟩
theorem ff_X9_226 : FOk RX9 226 8 16 := ⟨_, _, _, rfl, by decide, inX9, m_860⟩
theorem fp_X9_226 : FPut RX9 226 8 16 .int := ⟨_, _, _, tyX9, rfl, by decide, inX9, m_860, tyX9_ok, nmX9, rfl, by decide +kernel⟩
theorem ff_X9_244 : FOk RX9 244 8 17 := ⟨_, _, _, rfl, by decide, inX9, m_861⟩
theorem fp_X9_244 : FPut RX9 244 8 17 .int := ⟨_, _, _, tyX9, rfl, by decide, inX9, m_861, tyX9_ok, nmX9, rfl, by decide +kernel⟩
theorem ff_X9_238 : FOk RX9 238 8 18 := ⟨_, _, _, rfl, by decide, inX9, m_862⟩
theorem fp_X9_238 : FPut RX9 238 8 18 .int := ⟨_, _, _, tyX9, rfl, by decide, inX9, m_862, tyX9_ok, nmX9, rfl, by decide +kernel⟩
theorem ff_X9_241 : FOk RX9 241 8 19 := ⟨_, _, _, rfl, by decide, inX9, m_863⟩
theorem fp_X9_241 : FPut RX9 241 8 19 .int := ⟨_, _, _, tyX9, rfl, by decide, inX9, m_863, tyX9_ok, nmX9, rfl, by decide +kernel⟩
theorem ff_X9_256 : FOk RX9 256 8 20 := ⟨_, _, _, rfl, by decide, inX9, m_864⟩
theorem fp_X9_256 : FPut RX9 256 8 20 .int := ⟨_, _, _, tyX9, rfl, by decide, inX9, m_864, tyX9_ok, nmX9, rfl, by decide +kernel⟩
theorem ff_X9_250 : FOk RX9 250 8 21 := ⟨_, _, _, rfl, by decide, inX9, m_865⟩
theorem fp_X9_250 : FPut RX9 250 8 21 .int := ⟨_, _, _, tyX9, rfl, by decide, inX9, m_865, tyX9_ok, nmX9, rfl, by decide +kernel⟩
theorem ff_X9_302 : FOk RX9 302 8 22 := ⟨_, _, _, rfl, by decide, inX9, m_866⟩
theorem fp_X9_302 : FPut RX9 302 8 22 .int := ⟨_, _, _, tyX9, rfl, by decide, inX9, m_866, tyX9_ok, nmX9, rfl, by decide +kernel⟩
theorem ff_X9_299 : FOk RX9 299 8 23 := ⟨_, _, _, rfl, by decide, inX9, m_867⟩
theorem fp_X9_299 : FPut RX9 299 8 23 .int := ⟨_, _, _, tyX9, rfl, by decide, inX9, m_867, tyX9_ok, nmX9, rfl, by decide +kernel⟩
theorem ff_X9_266 : FOk RX9 266 8 24 := ⟨_, _, _, rfl, by decide, inX9, m_868⟩
theorem fp_X9_266 : FPut RX9 266 8 24 .int := ⟨_, _, _, tyX9, rfl, by decide, inX9, m_868, tyX9_ok, nmX9, rfl, by decide +kernel⟩
theorem ff_X9_263 : FOk RX9 263 8 25 := ⟨_, _, _, rfl, by decide, inX9, m_869⟩
theorem fp_X9_263 : FPut RX9 263 8 25 .int := ⟨_, _, _, tyX9, rfl, by decide, inX9, m_869, tyX9_ok, nmX9, rfl, by decide +kernel⟩
theorem ff_X9_293 : FOk RX9 293 8 26 := ⟨_, _, _, rfl, by decide, inX9, m_870⟩
theorem fp_X9_293 : FPut RX9 293 8 26 .int := ⟨_, _, _, tyX9, rfl, by decide, inX9, m_870, tyX9_ok, nmX9, rfl, by decide +kernel⟩
theorem ff_X9_55 : FOk RX9 55 8 27 := ⟨_, _, _, rfl, by decide, inX9, m_871⟩
theorem ff_X9_58 : FOk RX9 58 8 28 := ⟨_, _, _, rfl, by decide, inX9, m_872⟩
theorem ff_X9_61 : FOk RX9 61 8 29 := ⟨_, _, _, rfl, by decide, inX9, m_873⟩
theorem ff_X9_64 : FOk RX9 64 8 30 := ⟨_, _, _, rfl, by decide, inX9, m_874⟩
theorem ff_X9_347 : FOk RX9 347 8 31 := ⟨_, _, _, rfl, by decide, inX9, m_875⟩
theorem fp_X9_347 : FPut RX9 347 8 31 .int := ⟨_, _, _, tyX9, rfl, by decide, inX9, m_875, tyX9_ok, nmX9, rfl, by decide +kernel⟩
theorem ff_X9_67 : FOk RX9 67 8 32 := ⟨_, _, _, rfl, by decide, inX9, m_876⟩
theorem ys_X0_isKind : YS yX0_isKind cX0_isKind 1 (some .boolean) 1 := ⟨⟨by decide +kernel, by decide +kernel, by decide +kernel⟩, m_286, m_10, m_285⟩
theorem ys_X0_isUnder : YS yX0_isUnder cX0_isUnder 4 (some .boolean) 2 := ⟨⟨by decide +kernel, by decide +kernel, by decide +kernel⟩, m_379, m_10, m_378⟩
theorem ys_X0_borne : YS yX0_borne cX0_borne 2 (some .int) 2 := ⟨⟨by decide +kernel, by decide +kernel, by decide +kernel⟩, m_319, m_10, m_318⟩
theorem ys_X0_over : YS yX0_over cX0_over 2 (some .int) 2 := ⟨⟨by decide +kernel, by decide +kernel, by decide +kernel⟩, m_496, m_10, m_495⟩
theorem ys_X0_under : YS yX0_under cX0_under 2 (some .int) 2 := ⟨⟨by decide +kernel, by decide +kernel, by decide +kernel⟩, m_499, m_10, m_498⟩
theorem ys_X0_wears : YS yX0_wears cX0_wears 2 (some .int) 2 := ⟨⟨by decide +kernel, by decide +kernel, by decide +kernel⟩, m_365, m_10, m_364⟩
theorem ys_X0_bears : YS yX0_bears cX0_bears 3 (some .int) 2 := ⟨⟨by decide +kernel, by decide +kernel, by decide +kernel⟩, m_369, m_10, m_368⟩
theorem ys_X0_worth : YS yX0_worth cX0_worth 4 (some .int) 2 := ⟨⟨by decide +kernel, by decide +kernel, by decide +kernel⟩, m_372, m_10, m_371⟩
theorem ys_X0_crossed : YS yX0_crossed cX0_crossed 1 (some .int) 1 := ⟨⟨by decide +kernel, by decide +kernel, by decide +kernel⟩, m_322, m_10, m_321⟩
theorem ys_X0_oneBack : YS yX0_oneBack cX0_oneBack 1 (some .int) 1 := ⟨⟨by decide +kernel, by decide +kernel, by decide +kernel⟩, m_325, m_10, m_324⟩
theorem ys_X0_oneOn : YS yX0_oneOn cX0_oneOn 1 (some .int) 1 := ⟨⟨by decide +kernel, by decide +kernel, by decide +kernel⟩, m_502, m_10, m_501⟩
theorem yv_X1_faultOfTape : YV yX1_faultOfTape cX1_faultOfTape 1 (some .int) 0 := ⟨⟨by decide +kernel, by decide +kernel, by decide +kernel⟩, m_619, m_6, m_617, m_618⟩
theorem yv_X1_moveOn : YV yX1_moveOn cX1_moveOn 3 none 0 := ⟨⟨by decide +kernel, by decide +kernel, by decide +kernel⟩, m_623, m_6, m_622, s_12⟩
theorem yv_X1_byteAt : YV yX1_byteAt cX1_byteAt 2 (some .int) 1 := ⟨⟨by decide +kernel, by decide +kernel, by decide +kernel⟩, m_627, m_6, m_626, s_13⟩
theorem ys_X1_sortOf : YS yX1_sortOf cX1_sortOf 1 (some .int) 1 := ⟨⟨by decide +kernel, by decide +kernel, by decide +kernel⟩, m_630, m_6, m_629⟩
theorem yv_X1_keyHere : YV yX1_keyHere cX1_keyHere 1 (some .int) 0 := ⟨⟨by decide +kernel, by decide +kernel, by decide +kernel⟩, m_634, m_6, m_633, s_14⟩
theorem yv_X1_isWord : YV yX1_isWord cX1_isWord 3 (some .boolean) 1 := ⟨⟨by decide +kernel, by decide +kernel, by decide +kernel⟩, m_639, m_6, m_638, s_15⟩
theorem yv_X1_level : YV yX1_level cX1_level 7 (some .boolean) 3 := ⟨⟨by decide +kernel, by decide +kernel, by decide +kernel⟩, m_693, m_6, m_692, s_16⟩
theorem ys_X1_levelOf : YS yX1_levelOf cX1_levelOf 1 (some .int) 1 := ⟨⟨by decide +kernel, by decide +kernel, by decide +kernel⟩, m_723, m_6, m_722⟩
theorem yv_X1_piece : YV yX1_piece cX1_piece 3 (some .boolean) 2 := ⟨⟨by decide +kernel, by decide +kernel, by decide +kernel⟩, m_697, m_6, m_696, s_17⟩
theorem yv_X1_isSign : YV yX1_isSign cX1_isSign 2 (some .boolean) 1 := ⟨⟨by decide +kernel, by decide +kernel, by decide +kernel⟩, m_720, m_6, m_719, s_22⟩
theorem yv_X1_number : YV yX1_number cX1_number 3 (some .boolean) 0 := ⟨⟨by decide +kernel, by decide +kernel, by decide +kernel⟩, m_701, m_6, m_700, s_18⟩
theorem yv_X1_name : YV yX1_name cX1_name 2 (some .boolean) 0 := ⟨⟨by decide +kernel, by decide +kernel, by decide +kernel⟩, m_713, m_6, m_712, s_21⟩
theorem yv_X1_leaf : YV yX1_leaf cX1_leaf 2 (some .boolean) 1 := ⟨⟨by decide +kernel, by decide +kernel, by decide +kernel⟩, m_705, m_6, m_704, s_19⟩
theorem yv_X1_write : YV yX1_write cX1_write 2 none 1 := ⟨⟨by decide +kernel, by decide +kernel, by decide +kernel⟩, m_709, m_6, m_708, s_20⟩
theorem yv_X2_begin : YV yX2_begin cX2_begin 4 none 2 := ⟨⟨by decide +kernel, by decide +kernel, by decide +kernel⟩, m_749, m_7, m_747, m_748⟩
theorem yv_X2_become : YV yX2_become cX2_become 2 none 1 := ⟨⟨by decide +kernel, by decide +kernel, by decide +kernel⟩, m_796, m_7, m_794, m_795⟩
theorem yv_X2_isMissing : YV yX2_isMissing cX2_isMissing 1 (some .boolean) 0 := ⟨⟨by decide +kernel, by decide +kernel, by decide +kernel⟩, m_573, m_7, m_571, m_572⟩
theorem yv_X2_hasPlace : YV yX2_hasPlace cX2_hasPlace 2 (some .boolean) 1 := ⟨⟨by decide +kernel, by decide +kernel, by decide +kernel⟩, m_586, m_7, m_584, m_585⟩
theorem yv_X2_hasNumber : YV yX2_hasNumber cX2_hasNumber 2 (some .boolean) 1 := ⟨⟨by decide +kernel, by decide +kernel, by decide +kernel⟩, m_582, m_7, m_580, m_581⟩
theorem yv_X2_hasPlaces : YV yX2_hasPlaces cX2_hasPlaces 3 (some .boolean) 2 := ⟨⟨by decide +kernel, by decide +kernel, by decide +kernel⟩, m_775, m_7, m_773, m_774⟩
theorem yv_X3_takeCourse : YV yX3_takeCourse cX3_takeCourse 3 none 2 := ⟨⟨by decide +kernel, by decide +kernel, by decide +kernel⟩, m_788, m_8, m_786, m_787⟩
theorem yv_X3_takeSheet : YV yX3_takeSheet cX3_takeSheet 2 none 1 := ⟨⟨by decide +kernel, by decide +kernel, by decide +kernel⟩, m_792, m_8, m_790, m_791⟩
theorem yv_X3_takeNumber : YV yX3_takeNumber cX3_takeNumber 2 none 1 := ⟨⟨by decide +kernel, by decide +kernel, by decide +kernel⟩, m_801, m_8, m_799, m_800⟩
theorem yv_X4_add : YV yX4_add cX4_add 3 none 1 := ⟨⟨by decide +kernel, by decide +kernel, by decide +kernel⟩, m_607, m_5, m_605, m_606⟩
theorem ys_X5_isName : YS yX5_isName cX5_isName 2 (some .boolean) 2 := ⟨⟨by decide +kernel, by decide +kernel, by decide +kernel⟩, m_716, m_2, m_715⟩
theorem yv_X5_store : YV yX5_store cX5_store 3 none 2 := ⟨⟨by decide +kernel, by decide +kernel, by decide +kernel⟩, m_727, m_2, m_725, m_726⟩
theorem yv_X5_gives : YV yX5_gives cX5_gives 9 (some .int) 3 := ⟨⟨by decide +kernel, by decide +kernel, by decide +kernel⟩, m_333, m_2, m_331, m_332⟩
theorem ys_X5_isLetter : YS yX5_isLetter cX5_isLetter 1 (some .boolean) 1 := ⟨⟨by decide +kernel, by decide +kernel, by decide +kernel⟩, m_340, m_2, m_339⟩
theorem ys_X5_named : YS yX5_named cX5_named 4 (some .int) 3 := ⟨⟨by decide +kernel, by decide +kernel, by decide +kernel⟩, m_343, m_2, m_342⟩
theorem ys_X5_joined : YS yX5_joined cX5_joined 3 (some .int) 3 := ⟨⟨by decide +kernel, by decide +kernel, by decide +kernel⟩, m_353, m_2, m_352⟩
theorem ys_X5_truth : YS yX5_truth cX5_truth 1 (some .int) 1 := ⟨⟨by decide +kernel, by decide +kernel, by decide +kernel⟩, m_350, m_2, m_349⟩
theorem yv_X5_push : YV yX5_push cX5_push 2 none 1 := ⟨⟨by decide +kernel, by decide +kernel, by decide +kernel⟩, m_337, m_2, m_336, s_0⟩
theorem yv_X5_pop : YV yX5_pop cX5_pop 1 (some .int) 0 := ⟨⟨by decide +kernel, by decide +kernel, by decide +kernel⟩, m_347, m_2, m_346, s_1⟩
theorem yv_X6_become : YV yX6_become cX6_become 2 none 1 := ⟨⟨by decide +kernel, by decide +kernel, by decide +kernel⟩, m_538, m_3, m_536, m_537⟩
theorem yv_X6_has : YV yX6_has cX6_has 2 (some .boolean) 1 := ⟨⟨by decide +kernel, by decide +kernel, by decide +kernel⟩, m_308, m_3, m_306, m_307⟩
theorem yv_X6_isFull : YV yX6_isFull cX6_isFull 1 (some .boolean) 0 := ⟨⟨by decide +kernel, by decide +kernel, by decide +kernel⟩, m_294, m_3, m_292, m_293⟩
theorem yv_X6_add : YV yX6_add cX6_add 4 none 3 := ⟨⟨by decide +kernel, by decide +kernel, by decide +kernel⟩, m_299, m_3, m_297, m_298⟩
theorem yv_X6_addText : YV yX6_addText cX6_addText 2 (some .int) 1 := ⟨⟨by decide +kernel, by decide +kernel, by decide +kernel⟩, m_732, m_3, m_730, m_731⟩
theorem yv_X6_drawCourse : YV yX6_drawCourse cX6_drawCourse 5 none 0 := ⟨⟨by decide +kernel, by decide +kernel, by decide +kernel⟩, m_430, m_3, m_428, m_429⟩
theorem yv_X6_holding : YV yX6_holding cX6_holding 4 (some .int) 1 := ⟨⟨by decide +kernel, by decide +kernel, by decide +kernel⟩, m_312, m_3, m_310, m_311⟩
theorem yv_X6_holdingOn : YV yX6_holdingOn cX6_holdingOn 3 (some .int) 2 := ⟨⟨by decide +kernel, by decide +kernel, by decide +kernel⟩, m_316, m_3, m_314, m_315⟩
theorem yv_X6_held : YV yX6_held cX6_held 1 (some .int) 0 := ⟨⟨by decide +kernel, by decide +kernel, by decide +kernel⟩, m_404, m_3, m_402, m_403⟩
theorem yv_X6_heldWithout : YV yX6_heldWithout cX6_heldWithout 6 (some .int) 2 := ⟨⟨by decide +kernel, by decide +kernel, by decide +kernel⟩, m_408, m_3, m_406, m_407⟩
theorem yv_X6_lostLoops : YV yX6_lostLoops cX6_lostLoops 3 (some .int) 0 := ⟨⟨by decide +kernel, by decide +kernel, by decide +kernel⟩, m_471, m_3, m_469, m_470⟩
theorem yv_X6_lostBelow : YV yX6_lostBelow cX6_lostBelow 6 (some .int) 2 := ⟨⟨by decide +kernel, by decide +kernel, by decide +kernel⟩, m_529, m_3, m_527, m_528⟩
theorem yv_X6_wears : YV yX6_wears cX6_wears 4 (some .int) 1 := ⟨⟨by decide +kernel, by decide +kernel, by decide +kernel⟩, m_329, m_3, m_327, m_328⟩
theorem yv_X6_passNights : YV yX6_passNights cX6_passNights 3 none 1 := ⟨⟨by decide +kernel, by decide +kernel, by decide +kernel⟩, m_545, m_3, m_543, m_544⟩
theorem yv_X6_passNight : YV yX6_passNight cX6_passNight 3 none 0 := ⟨⟨by decide +kernel, by decide +kernel, by decide +kernel⟩, m_448, m_3, m_446, m_447⟩
theorem yv_X6_draw : YV yX6_draw cX6_draw 1 (some .int) 0 := ⟨⟨by decide +kernel, by decide +kernel, by decide +kernel⟩, m_434, m_3, m_433, s_3⟩
theorem yv_X6_walkSomewhere : YV yX6_walkSomewhere cX6_walkSomewhere 3 none 0 := ⟨⟨by decide +kernel, by decide +kernel, by decide +kernel⟩, m_452, m_3, m_451, s_4⟩
theorem yv_X6_lose : YV yX6_lose cX6_lose 4 none 2 := ⟨⟨by decide +kernel, by decide +kernel, by decide +kernel⟩, m_459, m_3, m_458, s_5⟩
theorem yv_X6_mendFirst : YV yX6_mendFirst cX6_mendFirst 2 none 0 := ⟨⟨by decide +kernel, by decide +kernel, by decide +kernel⟩, m_463, m_3, m_462, s_6⟩
theorem yv_X7_steps : YV yX7_steps cX7_steps 8 (some .int) 5 := ⟨⟨by decide +kernel, by decide +kernel, by decide +kernel⟩, m_479, m_4, m_477, m_478⟩
theorem yv_X7_reached : YV yX7_reached cX7_reached 7 (some .int) 3 := ⟨⟨by decide +kernel, by decide +kernel, by decide +kernel⟩, m_511, m_4, m_509, m_510⟩
theorem yv_X7_begin : YV yX7_begin cX7_begin 6 (some .int) 3 := ⟨⟨by decide +kernel, by decide +kernel, by decide +kernel⟩, m_483, m_4, m_482, s_7⟩
theorem yv_X7_step : YV yX7_step cX7_step 4 (some .int) 1 := ⟨⟨by decide +kernel, by decide +kernel, by decide +kernel⟩, m_489, m_4, m_488, s_8⟩
theorem yv_X7_near : YV yX7_near cX7_near 4 (some .int) 2 := ⟨⟨by decide +kernel, by decide +kernel, by decide +kernel⟩, m_493, m_4, m_492, s_9⟩
theorem yv_X8_knit : YV yX8_knit cX8_knit 3 (some .int) 2 := ⟨⟨by decide +kernel, by decide +kernel, by decide +kernel⟩, m_283, m_1, m_281, m_282⟩
theorem yv_X8_told : YV yX8_told cX8_told 3 (some .int) 2 := ⟨⟨by decide +kernel, by decide +kernel, by decide +kernel⟩, m_304, m_1, m_302, m_303⟩
theorem yv_X8_as : YV yX8_as cX8_as 3 (some .int) 2 := ⟨⟨by decide +kernel, by decide +kernel, by decide +kernel⟩, m_376, m_1, m_374, m_375⟩
theorem yv_X8_turns : YV yX8_turns cX8_turns 4 (some .int) 2 := ⟨⟨by decide +kernel, by decide +kernel, by decide +kernel⟩, m_387, m_1, m_385, m_386⟩
theorem yv_X8_set : YV yX8_set cX8_set 5 (some .int) 3 := ⟨⟨by decide +kernel, by decide +kernel, by decide +kernel⟩, m_391, m_1, m_389, m_390⟩
theorem yv_X8_drops : YV yX8_drops cX8_drops 5 (some .int) 2 := ⟨⟨by decide +kernel, by decide +kernel, by decide +kernel⟩, m_395, m_1, m_393, m_394⟩
theorem yv_X8_hooks : YV yX8_hooks cX8_hooks 5 (some .int) 2 := ⟨⟨by decide +kernel, by decide +kernel, by decide +kernel⟩, m_418, m_1, m_416, m_417⟩
theorem yv_X8_rule : YV yX8_rule cX8_rule 4 (some .int) 2 := ⟨⟨by decide +kernel, by decide +kernel, by decide +kernel⟩, m_422, m_1, m_420, m_421⟩
theorem yv_X8_deal : YV yX8_deal cX8_deal 4 (some .int) 1 := ⟨⟨by decide +kernel, by decide +kernel, by decide +kernel⟩, m_426, m_1, m_424, m_425⟩
theorem yv_X8_seed : YV yX8_seed cX8_seed 3 (some .int) 1 := ⟨⟨by decide +kernel, by decide +kernel, by decide +kernel⟩, m_440, m_1, m_438, m_439⟩
theorem yv_X8_nights : YV yX8_nights cX8_nights 4 (some .int) 1 := ⟨⟨by decide +kernel, by decide +kernel, by decide +kernel⟩, m_444, m_1, m_442, m_443⟩
theorem yv_X8_town : YV yX8_town cX8_town 2 (some .int) 1 := ⟨⟨by decide +kernel, by decide +kernel, by decide +kernel⟩, m_467, m_1, m_465, m_466⟩
theorem yv_X8_way : YV yX8_way cX8_way 5 (some .int) 4 := ⟨⟨by decide +kernel, by decide +kernel, by decide +kernel⟩, m_475, m_1, m_473, m_474⟩
theorem yv_X8_reach : YV yX8_reach cX8_reach 3 (some .int) 2 := ⟨⟨by decide +kernel, by decide +kernel, by decide +kernel⟩, m_507, m_1, m_505, m_506⟩
theorem yv_X8_pulled : YV yX8_pulled cX8_pulled 3 (some .int) 2 := ⟨⟨by decide +kernel, by decide +kernel, by decide +kernel⟩, m_515, m_1, m_513, m_514⟩
theorem yv_X8_worst : YV yX8_worst cX8_worst 9 (some .int) 1 := ⟨⟨by decide +kernel, by decide +kernel, by decide +kernel⟩, m_520, m_1, m_518, m_519⟩
theorem yv_X8_needs : YV yX8_needs cX8_needs 3 (some .int) 2 := ⟨⟨by decide +kernel, by decide +kernel, by decide +kernel⟩, m_525, m_1, m_523, m_524⟩
theorem yv_X8_behind : YV yX8_behind cX8_behind 3 (some .int) 2 := ⟨⟨by decide +kernel, by decide +kernel, by decide +kernel⟩, m_534, m_1, m_532, m_533⟩
theorem yv_X8_gone : YV yX8_gone cX8_gone 4 (some .int) 2 := ⟨⟨by decide +kernel, by decide +kernel, by decide +kernel⟩, m_550, m_1, m_548, m_549⟩
theorem yv_X8_thick : YV yX8_thick cX8_thick 8 (some .int) 3 := ⟨⟨by decide +kernel, by decide +kernel, by decide +kernel⟩, m_554, m_1, m_552, m_553⟩
theorem yv_X8_becomes : YV yX8_becomes cX8_becomes 8 (some .int) 3 := ⟨⟨by decide +kernel, by decide +kernel, by decide +kernel⟩, m_561, m_1, m_559, m_560⟩
theorem yv_X8_like : YV yX8_like cX8_like 8 (some .int) 2 := ⟨⟨by decide +kernel, by decide +kernel, by decide +kernel⟩, m_565, m_1, m_563, m_564⟩
theorem yv_X8_fee : YV yX8_fee cX8_fee 2 (some .int) 0 := ⟨⟨by decide +kernel, by decide +kernel, by decide +kernel⟩, m_594, m_1, m_592, m_593⟩
theorem yv_X8_fine : YV yX8_fine cX8_fine 3 (some .int) 1 := ⟨⟨by decide +kernel, by decide +kernel, by decide +kernel⟩, m_599, m_1, m_597, m_598⟩
theorem yv_X8_feed : YV yX8_feed cX8_feed 4 (some .int) 3 := ⟨⟨by decide +kernel, by decide +kernel, by decide +kernel⟩, m_603, m_1, m_601, m_602⟩
theorem yv_X8_trim : YV yX8_trim cX8_trim 2 (some .int) 1 := ⟨⟨by decide +kernel, by decide +kernel, by decide +kernel⟩, m_611, m_1, m_609, m_610⟩
theorem yv_X8_text : YV yX8_text cX8_text 2 (some .int) 0 := ⟨⟨by decide +kernel, by decide +kernel, by decide +kernel⟩, m_615, m_1, m_613, m_614⟩
theorem yv_X8_textTold : YV yX8_textTold cX8_textTold 3 (some .int) 2 := ⟨⟨by decide +kernel, by decide +kernel, by decide +kernel⟩, m_737, m_1, m_735, m_736⟩
theorem yv_X8_why : YV yX8_why cX8_why 2 (some .int) 1 := ⟨⟨by decide +kernel, by decide +kernel, by decide +kernel⟩, m_741, m_1, m_739, m_740⟩
theorem yv_X8_sheet : YV yX8_sheet cX8_sheet 4 (some .int) 3 := ⟨⟨by decide +kernel, by decide +kernel, by decide +kernel⟩, m_745, m_1, m_743, m_744⟩
theorem yv_X8_mark : YV yX8_mark cX8_mark 5 (some .int) 3 := ⟨⟨by decide +kernel, by decide +kernel, by decide +kernel⟩, m_754, m_1, m_752, m_753⟩
theorem yv_X8_pour : YV yX8_pour cX8_pour 6 (some .int) 1 := ⟨⟨by decide +kernel, by decide +kernel, by decide +kernel⟩, m_762, m_1, m_760, m_761⟩
theorem yv_X8_reads : YV yX8_reads cX8_reads 4 (some .int) 1 := ⟨⟨by decide +kernel, by decide +kernel, by decide +kernel⟩, m_767, m_1, m_765, m_766⟩
theorem yv_X8_copy : YV yX8_copy cX8_copy 8 (some .int) 5 := ⟨⟨by decide +kernel, by decide +kernel, by decide +kernel⟩, m_771, m_1, m_769, m_770⟩
theorem yv_X8_lay : YV yX8_lay cX8_lay 6 (some .int) 3 := ⟨⟨by decide +kernel, by decide +kernel, by decide +kernel⟩, m_780, m_1, m_778, m_779⟩
theorem yv_X8_ask : YV yX8_ask cX8_ask 4 (some .int) 2 := ⟨⟨by decide +kernel, by decide +kernel, by decide +kernel⟩, m_805, m_1, m_803, m_804⟩
theorem yv_X8_item : YV yX8_item cX8_item 4 (some .int) 2 := ⟨⟨by decide +kernel, by decide +kernel, by decide +kernel⟩, m_809, m_1, m_807, m_808⟩
theorem yv_X8_rest : YV yX8_rest cX8_rest 4 (some .int) 2 := ⟨⟨by decide +kernel, by decide +kernel, by decide +kernel⟩, m_813, m_1, m_811, m_812⟩
theorem yv_X8_tell : YV yX8_tell cX8_tell 2 (some .int) 1 := ⟨⟨by decide +kernel, by decide +kernel, by decide +kernel⟩, m_817, m_1, m_815, m_816⟩
theorem yv_X8_check : YV yX8_check cX8_check 5 (some .int) 1 := ⟨⟨by decide +kernel, by decide +kernel, by decide +kernel⟩, m_821, m_1, m_819, m_820⟩
theorem yv_X8_keep : YV yX8_keep cX8_keep 1 (some .int) 0 := ⟨⟨by decide +kernel, by decide +kernel, by decide +kernel⟩, m_829, m_1, m_827, m_828⟩
theorem yv_X8_back : YV yX8_back cX8_back 1 (some .int) 0 := ⟨⟨by decide +kernel, by decide +kernel, by decide +kernel⟩, m_833, m_1, m_831, m_832⟩
theorem yv_X8_count : YV yX8_count cX8_count 2 (some .int) 1 := ⟨⟨by decide +kernel, by decide +kernel, by decide +kernel⟩, m_837, m_1, m_835, m_836⟩
theorem yv_X8_isLoop : YV yX8_isLoop cX8_isLoop 3 (some .boolean) 2 := ⟨⟨by decide +kernel, by decide +kernel, by decide +kernel⟩, m_399, m_1, m_398, s_2⟩
theorem yv_X8_isSheet : YV yX8_isSheet cX8_isSheet 2 (some .boolean) 1 := ⟨⟨by decide +kernel, by decide +kernel, by decide +kernel⟩, m_569, m_1, m_568, s_10⟩
theorem yv_X8_isSlot : YV yX8_isSlot cX8_isSlot 2 (some .boolean) 1 := ⟨⟨by decide +kernel, by decide +kernel, by decide +kernel⟩, m_784, m_1, m_783, s_23⟩
theorem ys_X8_isGauge : YS yX8_isGauge cX8_isGauge 1 (some .boolean) 1 := ⟨⟨by decide +kernel, by decide +kernel, by decide +kernel⟩, m_289, m_1, m_288⟩
theorem ys_X8_isPlan : YS yX8_isPlan cX8_isPlan 2 (some .boolean) 2 := ⟨⟨by decide +kernel, by decide +kernel, by decide +kernel⟩, m_557, m_1, m_556⟩
theorem ys_X8_heldWithin : YS yX8_heldWithin cX8_heldWithin 2 (some .int) 2 := ⟨⟨by decide +kernel, by decide +kernel, by decide +kernel⟩, m_356, m_1, m_355⟩
theorem yv_X8_difference : YV yX8_difference cX8_difference 5 (some .int) 2 := ⟨⟨by decide +kernel, by decide +kernel, by decide +kernel⟩, m_578, m_1, m_577, s_11⟩
theorem yv_X8_isWaiting : YV yX8_isWaiting cX8_isWaiting 4 (some .boolean) 3 := ⟨⟨by decide +kernel, by decide +kernel, by decide +kernel⟩, m_825, m_1, m_824, s_24⟩
theorem ys_X9_isIn : YS yX9_isIn cX9_isIn 6 (some .boolean) 3 := ⟨⟨by decide +kernel, by decide +kernel, by decide +kernel⟩, m_951, m_9, m_950⟩
theorem ys_X9_orNone : YS yX9_orNone cX9_orNone 1 (some .int) 1 := ⟨⟨by decide +kernel, by decide +kernel, by decide +kernel⟩, m_1148, m_9, m_1147⟩
theorem ys_X9_within : YS yX9_within cX9_within 2 (some .int) 2 := ⟨⟨by decide +kernel, by decide +kernel, by decide +kernel⟩, m_1016, m_9, m_1015⟩
theorem ys_X9_off : YS yX9_off cX9_off 2 (some .int) 2 := ⟨⟨by decide +kernel, by decide +kernel, by decide +kernel⟩, m_1332, m_9, m_1331⟩
theorem yv_X9_changes : YV yX9_changes cX9_changes 4 (some .int) 2 := ⟨⟨by decide +kernel, by decide +kernel, by decide +kernel⟩, m_1040, m_9, m_1039, s_39⟩
theorem yv_X9_textAt : YV yX9_textAt cX9_textAt 2 (some .int) 1 := ⟨⟨by decide +kernel, by decide +kernel, by decide +kernel⟩, m_1006, m_9, m_1005, s_35⟩
theorem yv_X9_of : YV yX9_of cX9_of 3 (some .int) 2 := ⟨⟨by decide +kernel, by decide +kernel, by decide +kernel⟩, m_983, m_9, m_982, s_30⟩
theorem yv_X9_sets : YV yX9_sets cX9_sets 4 none 3 := ⟨⟨by decide +kernel, by decide +kernel, by decide +kernel⟩, m_962, m_9, m_961, s_26⟩
theorem yv_X9_isCourse : YV yX9_isCourse cX9_isCourse 2 (some .boolean) 1 := ⟨⟨by decide +kernel, by decide +kernel, by decide +kernel⟩, m_970, m_9, m_969, s_27⟩
theorem yv_X9_isText : YV yX9_isText cX9_isText 2 (some .boolean) 1 := ⟨⟨by decide +kernel, by decide +kernel, by decide +kernel⟩, m_1291, m_9, m_1290, s_71⟩
theorem yv_X9_drawn : YV yX9_drawn cX9_drawn 1 (some .int) 0 := ⟨⟨by decide +kernel, by decide +kernel, by decide +kernel⟩, m_1083, m_9, m_1082, s_42⟩
theorem ys_X9_isOf : YS yX9_isOf cX9_isOf 2 (some .boolean) 2 := ⟨⟨by decide +kernel, by decide +kernel, by decide +kernel⟩, m_1031, m_9, m_1030⟩
theorem ys_X9_isLoop : YS yX9_isLoop cX9_isLoop 1 (some .boolean) 1 := ⟨⟨by decide +kernel, by decide +kernel, by decide +kernel⟩, m_1056, m_9, m_1055⟩
theorem ys_X9_isAmong : YS yX9_isAmong cX9_isAmong 2 (some .boolean) 2 := ⟨⟨by decide +kernel, by decide +kernel, by decide +kernel⟩, m_986, m_9, m_985⟩
theorem ys_X9_bits : YS yX9_bits cX9_bits 3 (some .int) 1 := ⟨⟨by decide +kernel, by decide +kernel, by decide +kernel⟩, m_1124, m_9, m_1123⟩
theorem yv_X9_comes : YV yX9_comes cX9_comes 5 none 3 := ⟨⟨by decide +kernel, by decide +kernel, by decide +kernel⟩, m_958, m_9, m_957, s_25⟩
theorem yv_X9_knit : YV yX9_knit cX9_knit 3 (some .int) 2 := ⟨⟨by decide +kernel, by decide +kernel, by decide +kernel⟩, m_947, m_9, m_945, m_946⟩
theorem yv_X9_hangs : YV yX9_hangs cX9_hangs 3 (some .int) 2 := ⟨⟨by decide +kernel, by decide +kernel, by decide +kernel⟩, m_990, m_9, m_989, s_31⟩
theorem yv_X9_holds : YV yX9_holds cX9_holds 6 (some .int) 0 := ⟨⟨by decide +kernel, by decide +kernel, by decide +kernel⟩, m_979, m_9, m_978, s_29⟩
theorem yv_X9_plain : YV yX9_plain cX9_plain 3 (some .int) 1 := ⟨⟨by decide +kernel, by decide +kernel, by decide +kernel⟩, m_998, m_9, m_997, s_33⟩
theorem yv_X9_wears : YV yX9_wears cX9_wears 3 (some .int) 1 := ⟨⟨by decide +kernel, by decide +kernel, by decide +kernel⟩, m_994, m_9, m_993, s_32⟩
theorem yv_X9_bears : YV yX9_bears cX9_bears 3 (some .int) 1 := ⟨⟨by decide +kernel, by decide +kernel, by decide +kernel⟩, m_1020, m_9, m_1019, s_37⟩
theorem yv_X9_worth : YV yX9_worth cX9_worth 3 (some .int) 1 := ⟨⟨by decide +kernel, by decide +kernel, by decide +kernel⟩, m_1024, m_9, m_1023, s_38⟩
theorem yv_X9_holding : YV yX9_holding cX9_holding 3 (some .int) 1 := ⟨⟨by decide +kernel, by decide +kernel, by decide +kernel⟩, m_975, m_9, m_974, s_28⟩
theorem yv_X9_told : YV yX9_told cX9_told 3 (some .int) 2 := ⟨⟨by decide +kernel, by decide +kernel, by decide +kernel⟩, m_966, m_9, m_964, m_965⟩
theorem yv_X9_as : YV yX9_as cX9_as 3 (some .int) 2 := ⟨⟨by decide +kernel, by decide +kernel, by decide +kernel⟩, m_1028, m_9, m_1026, m_1027⟩
theorem yv_X9_turns : YV yX9_turns cX9_turns 3 (some .int) 2 := ⟨⟨by decide +kernel, by decide +kernel, by decide +kernel⟩, m_1036, m_9, m_1034, m_1035⟩
theorem yv_X9_set : YV yX9_set cX9_set 4 (some .int) 3 := ⟨⟨by decide +kernel, by decide +kernel, by decide +kernel⟩, m_1044, m_9, m_1042, m_1043⟩
theorem yv_X9_isLost : YV yX9_isLost cX9_isLost 3 (some .boolean) 2 := ⟨⟨by decide +kernel, by decide +kernel, by decide +kernel⟩, m_1060, m_9, m_1059, s_40⟩
theorem yv_X9_losesOrNot : YV yX9_losesOrNot cX9_losesOrNot 3 none 2 := ⟨⟨by decide +kernel, by decide +kernel, by decide +kernel⟩, m_1065, m_9, m_1064, s_41⟩
theorem ys_X9_isThere : YS yX9_isThere cX9_isThere 2 (some .boolean) 2 := ⟨⟨by decide +kernel, by decide +kernel, by decide +kernel⟩, m_1053, m_9, m_1052⟩
theorem yv_X9_drops : YV yX9_drops cX9_drops 4 (some .int) 2 := ⟨⟨by decide +kernel, by decide +kernel, by decide +kernel⟩, m_1050, m_9, m_1048, m_1049⟩
theorem yv_X9_hooks : YV yX9_hooks cX9_hooks 4 (some .int) 2 := ⟨⟨by decide +kernel, by decide +kernel, by decide +kernel⟩, m_1069, m_9, m_1067, m_1068⟩
theorem yv_X9_rule : YV yX9_rule cX9_rule 3 (some .int) 2 := ⟨⟨by decide +kernel, by decide +kernel, by decide +kernel⟩, m_1073, m_9, m_1071, m_1072⟩
theorem yv_X9_deal : YV yX9_deal cX9_deal 6 (some .int) 1 := ⟨⟨by decide +kernel, by decide +kernel, by decide +kernel⟩, m_1078, m_9, m_1076, m_1077⟩
theorem yv_X9_seed : YV yX9_seed cX9_seed 2 (some .int) 1 := ⟨⟨by decide +kernel, by decide +kernel, by decide +kernel⟩, m_1088, m_9, m_1086, m_1087⟩
theorem yv_X9_loses : YV yX9_loses cX9_loses 3 none 2 := ⟨⟨by decide +kernel, by decide +kernel, by decide +kernel⟩, m_1108, m_9, m_1107, s_46⟩
theorem yv_X9_isWalked : YV yX9_isWalked cX9_isWalked 3 none 0 := ⟨⟨by decide +kernel, by decide +kernel, by decide +kernel⟩, m_1104, m_9, m_1103, s_45⟩
theorem yv_X9_mends : YV yX9_mends cX9_mends 2 none 0 := ⟨⟨by decide +kernel, by decide +kernel, by decide +kernel⟩, m_1112, m_9, m_1111, s_47⟩
theorem yv_X9_goesOn : YV yX9_goesOn cX9_goesOn 3 none 0 := ⟨⟨by decide +kernel, by decide +kernel, by decide +kernel⟩, m_1100, m_9, m_1099, s_44⟩
theorem yv_X9_goesOnMany : YV yX9_goesOnMany cX9_goesOnMany 3 none 1 := ⟨⟨by decide +kernel, by decide +kernel, by decide +kernel⟩, m_1096, m_9, m_1095, s_43⟩
theorem yv_X9_nights : YV yX9_nights cX9_nights 4 (some .int) 1 := ⟨⟨by decide +kernel, by decide +kernel, by decide +kernel⟩, m_1092, m_9, m_1090, m_1091⟩
theorem yv_X9_lostOfAll : YV yX9_lostOfAll cX9_lostOfAll 3 (some .int) 0 := ⟨⟨by decide +kernel, by decide +kernel, by decide +kernel⟩, m_1121, m_9, m_1120, s_48⟩
theorem yv_X9_town : YV yX9_town cX9_town 2 (some .int) 1 := ⟨⟨by decide +kernel, by decide +kernel, by decide +kernel⟩, m_1116, m_9, m_1114, m_1115⟩
theorem yv_X9_isHeld : YV yX9_isHeld cX9_isHeld 3 (some .boolean) 2 := ⟨⟨by decide +kernel, by decide +kernel, by decide +kernel⟩, m_1140, m_9, m_1139, s_51⟩
theorem yv_X9_comesTo : YV yX9_comesTo cX9_comesTo 5 (some .boolean) 3 := ⟨⟨by decide +kernel, by decide +kernel, by decide +kernel⟩, m_1136, m_9, m_1135, s_50⟩
theorem yv_X9_stepsFrom : YV yX9_stepsFrom cX9_stepsFrom 6 (some .boolean) 3 := ⟨⟨by decide +kernel, by decide +kernel, by decide +kernel⟩, m_1144, m_9, m_1143, s_52⟩
theorem yv_X9_findsWays : YV yX9_findsWays cX9_findsWays 7 (some .int) 2 := ⟨⟨by decide +kernel, by decide +kernel, by decide +kernel⟩, m_1132, m_9, m_1131, s_49⟩
theorem yv_X9_way : YV yX9_way cX9_way 6 (some .int) 4 := ⟨⟨by decide +kernel, by decide +kernel, by decide +kernel⟩, m_1128, m_9, m_1126, m_1127⟩
theorem yv_X9_reach : YV yX9_reach cX9_reach 3 (some .int) 2 := ⟨⟨by decide +kernel, by decide +kernel, by decide +kernel⟩, m_1152, m_9, m_1150, m_1151⟩
theorem yv_X9_pulledWith : YV yX9_pulledWith cX9_pulledWith 5 (some .int) 2 := ⟨⟨by decide +kernel, by decide +kernel, by decide +kernel⟩, m_1160, m_9, m_1159, s_53⟩
theorem yv_X9_pulled : YV yX9_pulled cX9_pulled 3 (some .int) 2 := ⟨⟨by decide +kernel, by decide +kernel, by decide +kernel⟩, m_1156, m_9, m_1154, m_1155⟩
theorem yv_X9_worst : YV yX9_worst cX9_worst 6 (some .int) 1 := ⟨⟨by decide +kernel, by decide +kernel, by decide +kernel⟩, m_1164, m_9, m_1162, m_1163⟩
theorem yv_X9_needs : YV yX9_needs cX9_needs 8 (some .int) 2 := ⟨⟨by decide +kernel, by decide +kernel, by decide +kernel⟩, m_1168, m_9, m_1166, m_1167⟩
theorem yv_X9_laysBy : YV yX9_laysBy cX9_laysBy 2 none 0 := ⟨⟨by decide +kernel, by decide +kernel, by decide +kernel⟩, m_1176, m_9, m_1175, s_54⟩
theorem yv_X9_laysBack : YV yX9_laysBack cX9_laysBack 2 none 0 := ⟨⟨by decide +kernel, by decide +kernel, by decide +kernel⟩, m_1180, m_9, m_1179, s_55⟩
theorem yv_X9_behind : YV yX9_behind cX9_behind 4 (some .int) 2 := ⟨⟨by decide +kernel, by decide +kernel, by decide +kernel⟩, m_1172, m_9, m_1170, m_1171⟩
theorem yv_X9_gone : YV yX9_gone cX9_gone 4 (some .int) 2 := ⟨⟨by decide +kernel, by decide +kernel, by decide +kernel⟩, m_1184, m_9, m_1182, m_1183⟩
theorem ys_X9_isAsked : YS yX9_isAsked cX9_isAsked 2 (some .boolean) 2 := ⟨⟨by decide +kernel, by decide +kernel, by decide +kernel⟩, m_1191, m_9, m_1190⟩
theorem yv_X9_bestOf : YV yX9_bestOf cX9_bestOf 10 (some .int) 5 := ⟨⟨by decide +kernel, by decide +kernel, by decide +kernel⟩, m_1196, m_9, m_1195, s_56⟩
theorem yv_X9_thick : YV yX9_thick cX9_thick 4 (some .int) 3 := ⟨⟨by decide +kernel, by decide +kernel, by decide +kernel⟩, m_1188, m_9, m_1186, m_1187⟩
theorem yv_X9_becomes : YV yX9_becomes cX9_becomes 4 (some .int) 3 := ⟨⟨by decide +kernel, by decide +kernel, by decide +kernel⟩, m_1200, m_9, m_1198, m_1199⟩
theorem yv_X9_fee : YV yX9_fee cX9_fee 2 (some .int) 0 := ⟨⟨by decide +kernel, by decide +kernel, by decide +kernel⟩, m_1204, m_9, m_1202, m_1203⟩
theorem yv_X9_fine : YV yX9_fine cX9_fine 3 (some .int) 1 := ⟨⟨by decide +kernel, by decide +kernel, by decide +kernel⟩, m_1208, m_9, m_1206, m_1207⟩
theorem yv_X9_feed : YV yX9_feed cX9_feed 6 (some .int) 3 := ⟨⟨by decide +kernel, by decide +kernel, by decide +kernel⟩, m_1212, m_9, m_1210, m_1211⟩
theorem yv_X9_trim : YV yX9_trim cX9_trim 2 (some .int) 1 := ⟨⟨by decide +kernel, by decide +kernel, by decide +kernel⟩, m_1216, m_9, m_1214, m_1215⟩
theorem yv_X9_isLetter : YV yX9_isLetter cX9_isLetter 2 (some .boolean) 1 := ⟨⟨by decide +kernel, by decide +kernel, by decide +kernel⟩, m_1232, m_9, m_1231, s_59⟩
theorem yv_X9_isDigit : YV yX9_isDigit cX9_isDigit 2 (some .boolean) 1 := ⟨⟨by decide +kernel, by decide +kernel, by decide +kernel⟩, m_1238, m_9, m_1237, s_60⟩
theorem yv_X9_nextToken : YV yX9_nextToken cX9_nextToken 3 none 0 := ⟨⟨by decide +kernel, by decide +kernel, by decide +kernel⟩, m_1228, m_9, m_1227, s_58⟩
theorem yv_X9_isSign : YV yX9_isSign cX9_isSign 2 (some .boolean) 1 := ⟨⟨by decide +kernel, by decide +kernel, by decide +kernel⟩, m_1283, m_9, m_1282, s_70⟩
theorem yv_X9_isWordAt : YV yX9_isWordAt cX9_isWordAt 6 (some .boolean) 4 := ⟨⟨by decide +kernel, by decide +kernel, by decide +kernel⟩, m_1248, m_9, m_1247, s_62⟩
theorem yv_X9_key : YV yX9_key cX9_key 1 (some .int) 0 := ⟨⟨by decide +kernel, by decide +kernel, by decide +kernel⟩, m_1244, m_9, m_1243, s_61⟩
theorem ys_X9_isName : YS yX9_isName cX9_isName 2 (some .boolean) 2 := ⟨⟨by decide +kernel, by decide +kernel, by decide +kernel⟩, m_1279, m_9, m_1278⟩
theorem yv_X9_step : YV yX9_step cX9_step 3 none 2 := ⟨⟨by decide +kernel, by decide +kernel, by decide +kernel⟩, m_1276, m_9, m_1275, s_69⟩
theorem yv_X9_either : YV yX9_either cX9_either 2 (some .boolean) 1 := ⟨⟨by decide +kernel, by decide +kernel, by decide +kernel⟩, m_1252, m_9, m_1251, s_63⟩
theorem yv_X9_both : YV yX9_both cX9_both 2 (some .boolean) 1 := ⟨⟨by decide +kernel, by decide +kernel, by decide +kernel⟩, m_1256, m_9, m_1255, s_64⟩
theorem yv_X9_test : YV yX9_test cX9_test 3 (some .boolean) 1 := ⟨⟨by decide +kernel, by decide +kernel, by decide +kernel⟩, m_1260, m_9, m_1259, s_65⟩
theorem yv_X9_sum : YV yX9_sum cX9_sum 3 (some .boolean) 1 := ⟨⟨by decide +kernel, by decide +kernel, by decide +kernel⟩, m_1264, m_9, m_1263, s_66⟩
theorem yv_X9_term : YV yX9_term cX9_term 3 (some .boolean) 1 := ⟨⟨by decide +kernel, by decide +kernel, by decide +kernel⟩, m_1268, m_9, m_1267, s_67⟩
theorem yv_X9_part0 : YV yX9_part0 cX9_part0 2 (some .boolean) 1 := ⟨⟨by decide +kernel, by decide +kernel, by decide +kernel⟩, m_1272, m_9, m_1271, s_68⟩
theorem yv_X9_parse : YV yX9_parse cX9_parse 3 (some .int) 0 := ⟨⟨by decide +kernel, by decide +kernel, by decide +kernel⟩, m_1224, m_9, m_1223, s_57⟩
theorem yv_X9_text : YV yX9_text cX9_text 3 (some .int) 0 := ⟨⟨by decide +kernel, by decide +kernel, by decide +kernel⟩, m_1220, m_9, m_1218, m_1219⟩
theorem yv_X9_textTold : YV yX9_textTold cX9_textTold 3 (some .int) 2 := ⟨⟨by decide +kernel, by decide +kernel, by decide +kernel⟩, m_1287, m_9, m_1285, m_1286⟩
theorem yv_X9_counts : YV yX9_counts cX9_counts 4 (some .int) 1 := ⟨⟨by decide +kernel, by decide +kernel, by decide +kernel⟩, m_1002, m_9, m_1001, s_34⟩
theorem yv_X9_why : YV yX9_why cX9_why 2 (some .int) 1 := ⟨⟨by decide +kernel, by decide +kernel, by decide +kernel⟩, m_1295, m_9, m_1293, m_1294⟩
theorem ys_X9_joined : YS yX9_joined cX9_joined 3 (some .int) 3 := ⟨⟨by decide +kernel, by decide +kernel, by decide +kernel⟩, m_1013, m_9, m_1012⟩
theorem yv_X9_worked : YV yX9_worked cX9_worked 6 (some .int) 1 := ⟨⟨by decide +kernel, by decide +kernel, by decide +kernel⟩, m_1010, m_9, m_1009, s_36⟩
theorem ys_X9_isSheet : YS yX9_isSheet cX9_isSheet 1 (some .boolean) 1 := ⟨⟨by decide +kernel, by decide +kernel, by decide +kernel⟩, m_1302, m_9, m_1301⟩
theorem yv_X9_sheet : YV yX9_sheet cX9_sheet 5 (some .int) 3 := ⟨⟨by decide +kernel, by decide +kernel, by decide +kernel⟩, m_1299, m_9, m_1297, m_1298⟩
theorem yv_X9_mark : YV yX9_mark cX9_mark 4 (some .int) 3 := ⟨⟨by decide +kernel, by decide +kernel, by decide +kernel⟩, m_1309, m_9, m_1307, m_1308⟩
theorem yv_X9_pour : YV yX9_pour cX9_pour 6 (some .int) 1 := ⟨⟨by decide +kernel, by decide +kernel, by decide +kernel⟩, m_1317, m_9, m_1315, m_1316⟩
theorem yv_X9_reads : YV yX9_reads cX9_reads 4 (some .int) 1 := ⟨⟨by decide +kernel, by decide +kernel, by decide +kernel⟩, m_1321, m_9, m_1319, m_1320⟩
theorem yv_X9_offBy : YV yX9_offBy cX9_offBy 6 (some .int) 2 := ⟨⟨by decide +kernel, by decide +kernel, by decide +kernel⟩, m_1329, m_9, m_1328, s_72⟩
theorem yv_X9_like : YV yX9_like cX9_like 7 (some .int) 2 := ⟨⟨by decide +kernel, by decide +kernel, by decide +kernel⟩, m_1325, m_9, m_1323, m_1324⟩
theorem yv_X9_copy : YV yX9_copy cX9_copy 7 (some .int) 5 := ⟨⟨by decide +kernel, by decide +kernel, by decide +kernel⟩, m_1336, m_9, m_1334, m_1335⟩
theorem ys_X9_isSlot : YS yX9_isSlot cX9_isSlot 1 (some .boolean) 1 := ⟨⟨by decide +kernel, by decide +kernel, by decide +kernel⟩, m_1343, m_9, m_1342⟩
theorem yv_X9_lay : YV yX9_lay cX9_lay 7 (some .int) 3 := ⟨⟨by decide +kernel, by decide +kernel, by decide +kernel⟩, m_1340, m_9, m_1338, m_1339⟩
theorem yv_X9_ask : YV yX9_ask cX9_ask 3 (some .int) 2 := ⟨⟨by decide +kernel, by decide +kernel, by decide +kernel⟩, m_1347, m_9, m_1345, m_1346⟩
theorem yv_X9_item : YV yX9_item cX9_item 4 (some .int) 2 := ⟨⟨by decide +kernel, by decide +kernel, by decide +kernel⟩, m_1351, m_9, m_1349, m_1350⟩
theorem yv_X9_rest : YV yX9_rest cX9_rest 3 (some .int) 2 := ⟨⟨by decide +kernel, by decide +kernel, by decide +kernel⟩, m_1355, m_9, m_1353, m_1354⟩
theorem yv_X9_tell : YV yX9_tell cX9_tell 2 (some .int) 1 := ⟨⟨by decide +kernel, by decide +kernel, by decide +kernel⟩, m_1359, m_9, m_1357, m_1358⟩
theorem yv_X9_setAside : YV yX9_setAside cX9_setAside 4 none 2 := ⟨⟨by decide +kernel, by decide +kernel, by decide +kernel⟩, m_1368, m_9, m_1367, s_73⟩
theorem yv_X9_check : YV yX9_check cX9_check 5 (some .int) 1 := ⟨⟨by decide +kernel, by decide +kernel, by decide +kernel⟩, m_1363, m_9, m_1361, m_1362⟩
theorem yv_X9_keep : YV yX9_keep cX9_keep 1 (some .int) 0 := ⟨⟨by decide +kernel, by decide +kernel, by decide +kernel⟩, m_1372, m_9, m_1370, m_1371⟩
theorem yv_X9_back : YV yX9_back cX9_back 1 (some .int) 0 := ⟨⟨by decide +kernel, by decide +kernel, by decide +kernel⟩, m_1376, m_9, m_1374, m_1375⟩
theorem yv_X9_count : YV yX9_count cX9_count 2 (some .int) 1 := ⟨⟨by decide +kernel, by decide +kernel, by decide +kernel⟩, m_1380, m_9, m_1378, m_1379⟩
theorem ys_J6_bitCount_0f7a4 : YS yJ6_bitCount_0f7a4 cJ6_bitCount_0f7a4 1 (some .int) 1 := ⟨⟨by decide +kernel, by decide +kernel, by decide +kernel⟩, m_411, m_12, m_410⟩
theorem ys_J9_abs_0f7a4 : YS yJ9_abs_0f7a4 cJ9_abs_0f7a4 1 (some .int) 1 := ⟨⟨by decide +kernel, by decide +kernel, by decide +kernel⟩, m_590, m_11, m_589⟩
theorem ys_J9_max_7cf53 : YS yJ9_max_7cf53 cJ9_max_7cf53 2 (some .int) 2 := ⟨⟨by decide +kernel, by decide +kernel, by decide +kernel⟩, m_362, m_11, m_361⟩
theorem ys_J9_min_7cf53 : YS yJ9_min_7cf53 cJ9_min_7cf53 2 (some .int) 2 := ⟨⟨by decide +kernel, by decide +kernel, by decide +kernel⟩, m_359, m_11, m_358⟩
theorem yv_J0_length_8abf5 : YV yJ0_length_8abf5 cJ0_length_8abf5 1 (some .int) 0 := ⟨⟨by decide +kernel, by decide +kernel, by decide +kernel⟩, m_643, m_14, m_641, m_642⟩
theorem yv_J0_charAt_5068e : YV yJ0_charAt_5068e cJ0_charAt_5068e 2 (some .char) 1 := ⟨⟨by decide +kernel, by decide +kernel, by decide +kernel⟩, m_653, m_14, m_651, m_652⟩
theorem yv_J0_coder_7d493 : YV yJ0_coder_7d493 cJ0_coder_7d493 1 (some .byte) 0 := ⟨⟨by decide +kernel, by decide +kernel, by decide +kernel⟩, m_647, m_14, m_645, m_646⟩
theorem yv_J0_isLatin1_aae02 : YV yJ0_isLatin1_aae02 cJ0_isLatin1_aae02 1 (some .boolean) 0 := ⟨⟨by decide +kernel, by decide +kernel, by decide +kernel⟩, m_657, m_14, m_655, m_656⟩
theorem ys_J0_checkIndex_df160 : YS yJ0_checkIndex_df160 cJ0_checkIndex_df160 2 none 2 := ⟨⟨by decide +kernel, by decide +kernel, by decide +kernel⟩, m_663, m_14, m_662⟩
theorem ys_J1_charAt_3b067 : YS yJ1_charAt_3b067 cJ1_charAt_3b067 2 (some .char) 2 := ⟨⟨by decide +kernel, by decide +kernel, by decide +kernel⟩, m_660, m_15, m_659⟩
theorem ys_J2_getChar_3b067 : YS yJ2_getChar_3b067 cJ2_getChar_3b067 2 (some .char) 2 := ⟨⟨by decide +kernel, by decide +kernel, by decide +kernel⟩, m_681, m_17, m_680⟩
theorem ys_J2_length_9d52b : YS yJ2_length_9d52b cJ2_length_9d52b 1 (some .int) 1 := ⟨⟨by decide +kernel, by decide +kernel, by decide +kernel⟩, m_677, m_17, m_676⟩
theorem ys_J2_charAt_3b067 : YS yJ2_charAt_3b067 cJ2_charAt_3b067 2 (some .char) 2 := ⟨⟨by decide +kernel, by decide +kernel, by decide +kernel⟩, m_671, m_17, m_670⟩
theorem ys_J2_checkIndex_2214a : YS yJ2_checkIndex_2214a cJ2_checkIndex_2214a 2 none 2 := ⟨⟨by decide +kernel, by decide +kernel, by decide +kernel⟩, m_674, m_17, m_673⟩
theorem ys_J3_checkIndex_8e157 : YS yJ3_checkIndex_8e157 cJ3_checkIndex_8e157 3 (some .int) 3 := ⟨⟨by decide +kernel, by decide +kernel, by decide +kernel⟩, m_668, m_16, m_667⟩
theorem ic_n1 : Int32.ofInt (-1) = (-1) := by decide
theorem ic_0 : Int32.ofInt (0) = 0 := by decide
theorem ic_1 : Int32.ofInt (1) = 1 := by decide
theorem ic_2 : Int32.ofInt (2) = 2 := by decide
theorem ic_3 : Int32.ofInt (3) = 3 := by decide
theorem ic_4 : Int32.ofInt (4) = 4 := by decide
theorem ic_5 : Int32.ofInt (5) = 5 := by decide
theorem bi_n100 : (Int8.ofInt (-100)).toInt32 = (-100) := by decide
theorem bi_n33 : (Int8.ofInt (-33)).toInt32 = (-33) := by decide
theorem bi_6 : (Int8.ofInt (6)).toInt32 = 6 := by decide
theorem bi_7 : (Int8.ofInt (7)).toInt32 = 7 := by decide
theorem bi_8 : (Int8.ofInt (8)).toInt32 = 8 := by decide
theorem bi_9 : (Int8.ofInt (9)).toInt32 = 9 := by decide
theorem bi_10 : (Int8.ofInt (10)).toInt32 = 10 := by decide
theorem bi_12 : (Int8.ofInt (12)).toInt32 = 12 := by decide
theorem bi_14 : (Int8.ofInt (14)).toInt32 = 14 := by decide
theorem bi_16 : (Int8.ofInt (16)).toInt32 = 16 := by decide
theorem bi_20 : (Int8.ofInt (20)).toInt32 = 20 := by decide
theorem bi_24 : (Int8.ofInt (24)).toInt32 = 24 := by decide
theorem bi_30 : (Int8.ofInt (30)).toInt32 = 30 := by decide
theorem bi_32 : (Int8.ofInt (32)).toInt32 = 32 := by decide
theorem bi_33 : (Int8.ofInt (33)).toInt32 = 33 := by decide
theorem bi_38 : (Int8.ofInt (38)).toInt32 = 38 := by decide
theorem bi_40 : (Int8.ofInt (40)).toInt32 = 40 := by decide
theorem bi_41 : (Int8.ofInt (41)).toInt32 = 41 := by decide
theorem bi_42 : (Int8.ofInt (42)).toInt32 = 42 := by decide
theorem bi_43 : (Int8.ofInt (43)).toInt32 = 43 := by decide
theorem bi_44 : (Int8.ofInt (44)).toInt32 = 44 := by decide
theorem bi_45 : (Int8.ofInt (45)).toInt32 = 45 := by decide
theorem bi_47 : (Int8.ofInt (47)).toInt32 = 47 := by decide
theorem bi_48 : (Int8.ofInt (48)).toInt32 = 48 := by decide
theorem bi_50 : (Int8.ofInt (50)).toInt32 = 50 := by decide
theorem bi_57 : (Int8.ofInt (57)).toInt32 = 57 := by decide
theorem bi_58 : (Int8.ofInt (58)).toInt32 = 58 := by decide
theorem bi_60 : (Int8.ofInt (60)).toInt32 = 60 := by decide
theorem bi_61 : (Int8.ofInt (61)).toInt32 = 61 := by decide
theorem bi_62 : (Int8.ofInt (62)).toInt32 = 62 := by decide
theorem bi_63 : (Int8.ofInt (63)).toInt32 = 63 := by decide
theorem bi_85 : (Int8.ofInt (85)).toInt32 = 85 := by decide
theorem bi_96 : (Int8.ofInt (96)).toInt32 = 96 := by decide
theorem bi_97 : (Int8.ofInt (97)).toInt32 = 97 := by decide
theorem bi_99 : (Int8.ofInt (99)).toInt32 = 99 := by decide
theorem bi_100 : (Int8.ofInt (100)).toInt32 = 100 := by decide
theorem bi_101 : (Int8.ofInt (101)).toInt32 = 101 := by decide
theorem bi_102 : (Int8.ofInt (102)).toInt32 = 102 := by decide
theorem bi_103 : (Int8.ofInt (103)).toInt32 = 103 := by decide
theorem bi_105 : (Int8.ofInt (105)).toInt32 = 105 := by decide
theorem bi_109 : (Int8.ofInt (109)).toInt32 = 109 := by decide
theorem bi_110 : (Int8.ofInt (110)).toInt32 = 110 := by decide
theorem bi_114 : (Int8.ofInt (114)).toInt32 = 114 := by decide
theorem bi_119 : (Int8.ofInt (119)).toInt32 = 119 := by decide
theorem bi_120 : (Int8.ofInt (120)).toInt32 = 120 := by decide
theorem bi_122 : (Int8.ofInt (122)).toInt32 = 122 := by decide
theorem bi_124 : (Int8.ofInt (124)).toInt32 = 124 := by decide
theorem si_128 : (Int16.ofInt (128)).toInt32 = 128 := by decide
theorem si_170 : (Int16.ofInt (170)).toInt32 = 170 := by decide
theorem si_200 : (Int16.ofInt (200)).toInt32 = 200 := by decide
theorem si_255 : (Int16.ofInt (255)).toInt32 = 255 := by decide
theorem si_2858 : (Int16.ofInt (2858)).toInt32 = 2858 := by decide
theorem si_3058 : (Int16.ofInt (3058)).toInt32 = 3058 := by decide
theorem si_9999 : (Int16.ofInt (9999)).toInt32 = 9999 := by decide
theorem si_12345 : (Int16.ofInt (12345)).toInt32 = 12345 := by decide
