/-! String.length and String.charAt of the three constant words, by the JDK's own code -/
def isStr (i : Nat) : Prop := i < 3
theorem isStr_0 : isStr 0 := Nat.le_of_ble_eq_true rfl
theorem isStr_1 : isStr 1 := Nat.le_of_ble_eq_true rfl
theorem isStr_2 : isStr 2 := Nat.le_of_ble_eq_true rfl
def strl (i : Nat) : Int32 := Int32.ofNat (strL.getD i 0)
def sb (i j : Nat) : Int32 := (strB.getD i []).getD j 0
theorem below3 {P : Nat → Prop} (h0 : P 0) (h1 : P 1) (h2 : P 2) {j : Nat} (h : j < 3) : P j := by
  match j, h with
  | 0, _ => exact h0
  | 1, _ => exact h1
  | 2, _ => exact h2
theorem sb_low {i j : Nat} (hi : isStr i) (hj : j < strL.getD i 0) : ((sb i j &&& 255).toUInt32 % 65536).toInt32 = sb i j := by
  revert hj
  refine below3 (P := fun i => j < strL.getD i 0 → ((sb i j &&& 255).toUInt32 % 65536).toInt32 = sb i j) ?_ ?_ ?_ hi
  · intro hj
    exact below4 (P := fun j => ((sb 0 j &&& 255).toUInt32 % 65536).toInt32 = sb 0 j) (by decide) (by decide) (by decide) (by decide) hj
  · intro hj
    exact below3 (P := fun j => ((sb 1 j &&& 255).toUInt32 % 65536).toInt32 = sb 1 j) (by decide) (by decide) (by decide) hj
  · intro hj
    exact below4 (P := fun j => ((sb 2 j &&& 255).toUInt32 % 65536).toInt32 = sb 2 j) (by decide) (by decide) (by decide) (by decide) hj
theorem sb_char {i j : Nat} (hi : isStr i) (hj : j < strL.getD i 0) : narrow .char (.int (sb i j)) = .int (sb i j) := by
  revert hj
  refine below3 (P := fun i => j < strL.getD i 0 → narrow .char (.int (sb i j)) = .int (sb i j)) ?_ ?_ ?_ hi
  · intro hj
    exact below4 (P := fun j => narrow .char (.int (sb 0 j)) = .int (sb 0 j)) rfl rfl rfl rfl hj
  · intro hj
    exact below3 (P := fun j => narrow .char (.int (sb 1 j)) = .int (sb 1 j)) rfl rfl rfl hj
  · intro hj
    exact below4 (P := fun j => narrow .char (.int (sb 2 j)) = .int (sb 2 j)) rfl rfl rfl rfl hj
theorem strL_small {i : Nat} (hi : isStr i) : strL.getD i 0 < 5 := below3 (P := fun i => strL.getD i 0 < 5) (by decide) (by decide) (by decide) hi
theorem inb_str {i : Nat} {j : Int32} (hi : isStr i) (h : inb j (strL.getD i 0) = true) : 0 ≤ j ∧ j < strl i := by
  simp only [inb, Bool.and_eq_true, decide_eq_true_eq] at h
  refine ⟨h.1, ?_⟩
  have hs := strL_small hi
  generalize hn : strL.getD i 0 = n at h hs
  unfold strl
  rw [hn]
  have h0 : (0 : Int) ≤ j.toInt := by simpa using Int32.le_iff_toInt_le.mp h.1
  have h1 : j.toInt.toNat < n := h.2
  rw [Int32.lt_iff_toInt_lt]
  have h2 : (Int32.ofNat n).toInt = (n : Int) := Int32.toInt_ofNat_of_lt (by omega)
  rw [h2]
  omega
section VSX
variable {G : Ctx} {own : String} {cc : ByteArray} {nL fr lo : Nat} {w : va_W} {pc pc' idx i : Nat} {L : List (Nat × Value)} {st rest : List Value}
theorem v_getsZ (C : Cx G own cc nL fr lo) {Cn n ds : String} {v : Value} (hZ : va_Z Cn n ds v (gA G) (gs G) (gs G).heap) (hl : Cond.fieldLink own idx Cn n ds ∈ wsG) (d : decode cc pc = .ok (.getstatic idx, 3)) (hp : pc + 3 = pc') (kk : V G nL w pc' L (v :: st)) : V G nL w pc L st := by
  subst hp
  intro H locs ls hP hS hL
  exact va_gets C.hx C.hb hZ hS C.hown (C.hts _ hl) (fun _ h => h) d (kk H locs ls hP hS hL)
theorem v_sget (C : Cx G own cc nL fr lo) {o n ds : String} {q : Nat} {v : Value} (hE : va_OF o n ds v q (gA G) (gs G) (gs G).heap) (hl : Cond.fieldLink own idx o n ds ∈ wsG) (d : decode cc pc = .ok (.getfield idx, 3)) (hp : pc + 3 = pc') (kk : V G nL w pc' L (v :: st)) : V G nL w pc L (.ref q :: st) := by
  subst hp
  intro H locs ls hP hS hL
  exact vk_getf C.hx C.hb hE hS C.hown (C.hts _ hl) (fun _ h => h) d (kk H locs ls hP hS hL)
theorem v_tlen (C : Cx G own cc nL fr lo) {ty : FieldType} {t N : Nat} {f : Nat → Value} (hT : va_T ty t N f (gA G) (gs G) (gs G).heap) {v : Int32} (hv : Int32.ofNat N = v) (d : decode cc pc = .ok (.arraylength, 1)) (hp : pc + 1 = pc') (kk : V G nL w pc' L (.int v :: st)) : V G nL w pc L (.ref t :: st) := by
  subst hp
  intro H locs ls hP hS hL
  exact va_tlen C.hx C.hb hT hS hv d (kk H locs ls hP hS hL)
theorem v_tb (C : Cx G own cc nL fr lo) {t N : Nat} {f : Nat → Int32} (hT : va_T .byte t N (fun j => .int (f j)) (gA G) (gs G) (gs G).heap) {i : Int32} (hin : inb i N = true) (d : decode cc pc = .ok (.baload, 1)) (hp : pc + 1 = pc') (kk : V G nL w pc' L (.int (f i.toNatClampNeg) :: st)) : V G nL w pc L (.int i :: .ref t :: st) := by
  subst hp
  intro H locs ls hP hS hL
  exact va_tb C.hx C.hb hT hS (inb_in hin) rfl d (kk H locs ls hP hS hL)
theorem v_i2c (C : Cx G own cc nL fr lo) {x v : Int32} (hv : (x.toUInt32 % 65536).toInt32 = v) (d : decode cc pc = .ok (.i2c, 1)) (hp : pc + 1 = pc') (kk : V G nL w pc' L (.int v :: st)) : V G nL w pc L (.int x :: st) := by
  subst hp
  intro H locs ls hP hS hL
  exact lv_i2c C.hx C.hb d hv (kk H locs ls hP hS hL)
theorem Cx.hstr (C : Cx G own cc nL fr lo) (hi : isStr i) : va_O "java/lang/String" ((gX G).2.1 i) (gA G) (gs G) (gs G).heap ∧ va_OF "java/lang/String" "coder" "B" (.int 0) ((gX G).2.1 i) (gA G) (gs G) (gs G).heap ∧ va_OF "java/lang/String" "value" "[B" (.ref ((gX G).2.2 i)) ((gX G).2.1 i) (gA G) (gs G) (gs G).heap ∧ va_T .byte ((gX G).2.2 i) (strL.getD i 0) (fun j => .int (sb i j)) (gA G) (gs G) (gs G).heap := C.hE.2.2.2.2.1.1 i hi
variable {y : MethodName} {bytes : ByteArray} {maxL n fy ly b : Nat} {ret : Option FieldType} {As : List Value} {r : Int32} {wc wc' w' : va_W}
/-- a call on one of the constant words -/
theorem v_callTi (C : Cx G own cc nL fr lo) (hi : isStr i) (Y : YV y bytes maxL ret n) (hy : y.cls = "java/lang/String") (hl : Cond.methodLink own idx y ∈ wsG) (hM : MI (gl G) (gD G) (gC G) (gX G) y bytes maxL ret fy ly (.ref ((gX G).2.1 i) :: As) w w r) (S : Sub (gA G) w w w w) (hn : As.length = n) (hst : st = As.reverse ++ .ref ((gX G).2.1 i) :: rest) (hW : (rest.map fun v => v.category).sum ≤ 8) (hR : fy + 1 ≤ fr ∧ 8 + (maxL + 11) + ly ≤ lo)
    (d : decode cc pc = .ok (.invokevirtual idx, 3)) (hp : pc + 3 = pc') (kk : V G nL w pc' L (.int r :: rest)) : V G nL w pc L st := by
  subst hp
  subst hst
  intro H locs ls hP hS hL
  refine va_calli (va_runV (As := As) (rest := rest) ⟨C.hx, C.hb, C.hml, C.hown, C.hts⟩ (hM H.size) (v_cwV C Y hl hR) ⟨wPre_blind, by rw [hy]; exact vk_recv C.hE.2.2.2.2.1 hi hS, v_pre C S hP hS⟩ rfl hn hL.1 rfl (lv_room hW) d ⟨C.hk, C.hn⟩) hS (fun q _ h => v_fr C S hS q h) (v_fr C S hS) (fun r' u t H1 locs1 ht hvm hr' hB hz hk1 hS1 => ?_)
  subst hr'
  rw [ht] at hB
  exact kk H1 locs1 ls (S.2.2.2 _ H H1 hP hk1 hB) hS1 hL
theorem v_callSv (C : Cx G own cc nL fr lo) (Y : YS y bytes maxL none n) (hl : Cond.methodLink own idx y ∈ wsG) (hM : MV (gl G) (gD G) (gC G) (gX G) y bytes maxL fy ly As wc wc') (S : Sub (gA G) w w' wc wc') (hn : As.length = n) (hst : st = As.reverse ++ rest) (hW : (rest.map fun v => v.category).sum ≤ 8) (hR : fy + 1 ≤ fr ∧ 8 + (maxL + 11) + ly ≤ lo)
    (d : decode cc pc = .ok (.invokestatic idx, 3)) (hp : pc + 3 = pc') (kk : V G nL w' pc' L rest) : V G nL w pc L st := by
  subst hp
  subst hst
  intro H locs ls hP hS hL
  refine va_callv (va_runS (As := As) (rest := rest) ⟨C.hx, C.hb, C.hml, C.hown, C.hts⟩ (hM H.size) (v_cwS C Y hl hR) ⟨wPre_blind, v_pre C S hP hS⟩ rfl hn hL.1 rfl (lv_room hW) d ⟨C.hk, C.hn⟩) hS (fun q _ h => v_fr C S hS q h) (v_fr C S hS) (fun u t H1 locs1 ht hvm hr' hB hz hk1 hS1 => ?_)
  rw [ht] at hB
  exact kk H1 locs1 ls (S.2.2.2 _ H H1 hP hk1 hB) hS1 hL
end VSX
section VSM
variable {l : Launch} {D : va_G} {cA : FieldType → ClassId} {X : Ex} {w : va_W} {i : Nat}
theorem mN_of {y : MethodName} {bytes : ByteArray} {maxL fr lo : Nat} {av : List Value} {w w' : va_W} {r : Int32} {ty : FieldType} (hn : narrow ty (.int r) = .int r) (hy : plainName y.cls = true) (hlen : (lg_sl av).length ≤ maxL)
    (body : ∀ (G : Ctx), gl G = l → gD G = D → gC G = cA → gX G = X → Cx G y.cls bytes maxL fr lo → va_D (gA G) w → RI G bytes maxL w' r → V G maxL w 0 (lv_args 0 av) []) : MI l D cA X y bytes maxL (some ty) fr lo av w w' r := by
  refine mB (Qc := fun sz => qI D w' r (va_A w sz)) hy hlen ?_
  intro G h1 h2 h3 h4 C hA hlk hret hk0 hn0 hQ hD
  refine body G h1 h2 h3 h4 C hD ?_
  intro pc L d H locs ls hP hS hL
  rw [hQ, hk0, hn0]
  rw [hA] at hS
  refine W.zret C.hx C.hb hret hn ?_ hS.2.2 d hlk
  intro t ht hW
  exact ⟨⟨r, (), rfl, rfl, by show va_P D vwCl w' t.heap; rw [ht, ← h2]; exact hP⟩, hS.F ht⟩
theorem c_S_coder (hi : isStr i) : MI l D cA X yJ0_coder_7d493 cJ0_coder_7d493 1 (some .byte) 0 0 [.ref (X.2.1 i)] w w 0 :=
  mN_of (by decide +kernel) (by decide +kernel) (Nat.le_of_ble_eq_true rfl) (fun G h1 h2 h3 h4 C hD RET => by
    subst h1 h2 h3 h4
    show V G 1 w 0 [(0, .ref ((gX G).2.1 i))] []
    refine v_getsZ C C.hE.2.2.1 m_648 dJ0_coder_7d493_0 rfl ?_
    refine v_if_eq C dJ0_coder_7d493_3 (tgt := 13) (by decide) rfl (fun c => absurd c (by decide)) (fun c => ?_)
    refine v_aload_n C dJ0_coder_7d493_6 rfl rfl 0 rfl ?_
    refine v_sget C (C.hstr hi).2.1 m_1382 dJ0_coder_7d493_7 rfl ?_
    refine v_goto C dJ0_coder_7d493_10 (tgt := 14) (by decide) ?_
    exact RET _ _ dJ0_coder_7d493_14)
theorem c_S_isLatin1 (hi : isStr i) : MI l D cA X yJ0_isLatin1_aae02 cJ0_isLatin1_aae02 1 (some .boolean) 0 0 [.ref (X.2.1 i)] w w 1 :=
  mZ_of (by decide +kernel) (Nat.le_of_ble_eq_true rfl) (fun G h1 h2 h3 h4 C hD RET => by
    subst h1 h2 h3 h4
    show V G 1 w 0 [(0, .ref ((gX G).2.1 i))] []
    refine v_getsZ C C.hE.2.2.1 m_648 dJ0_isLatin1_aae02_0 rfl ?_
    refine v_if_eq C dJ0_isLatin1_aae02_3 (tgt := 17) (by decide) rfl (fun c => absurd c (by decide)) (fun c => ?_)
    refine v_aload_n C dJ0_isLatin1_aae02_6 rfl rfl 0 rfl ?_
    refine v_sget C (C.hstr hi).2.1 m_1382 dJ0_isLatin1_aae02_7 rfl ?_
    refine v_if_ne C dJ0_isLatin1_aae02_10 (tgt := 17) (by decide) rfl (fun c => absurd rfl c) (fun c => ?_)
    refine v_iconst C dJ0_isLatin1_aae02_13 rfl ic_1 ?_
    refine v_goto C dJ0_isLatin1_aae02_14 (tgt := 18) (by decide) ?_
    exact RET _ _ dJ0_isLatin1_aae02_18 (Or.inr rfl))
theorem c_S_length (hi : isStr i) : MI l D cA X yJ0_length_8abf5 cJ0_length_8abf5 1 (some .int) 1 20 [.ref (X.2.1 i)] w w (strl i) :=
  mI_of (by decide +kernel) (Nat.le_of_ble_eq_true rfl) (fun G h1 h2 h3 h4 C hD RET => by
    subst h1 h2 h3 h4
    show V G 1 w 0 [(0, .ref ((gX G).2.1 i))] []
    refine v_aload_n C dJ0_length_8abf5_0 rfl rfl 0 rfl ?_
    refine v_sget C (C.hstr hi).2.2.1 m_1381 dJ0_length_8abf5_1 rfl ?_
    refine v_tlen C (C.hstr hi).2.2.2 (v := strl i) rfl dJ0_length_8abf5_4 rfl ?_
    refine v_aload_n C dJ0_length_8abf5_5 rfl rfl 0 rfl ?_
    refine v_callTi C hi yv_J0_coder_7d493 rfl m_644 (c_S_coder hi) (Sub.same hD) (As := []) rfl rfl (Nat.le_of_ble_eq_true rfl) ⟨Nat.le_of_ble_eq_true rfl, Nat.le_of_ble_eq_true rfl⟩ dJ0_length_8abf5_6 rfl ?_
    refine v_ishr C dJ0_length_8abf5_9 rfl ?_
    refine v_nmi (v := strl i) ?_ ?_
    · exact below3 (P := fun i => strl i = jshr (strl i) 0) (by decide) (by decide) (by decide) hi
    · exact RET _ _ dJ0_length_8abf5_10)
theorem c_S_pre {a b : Int32} {fv : Value} (hf : lv_args 0 [.int a, .int b, fv] = [(0, .int a), (1, .int b), (2, fv)]) (hl3 : (lg_sl [.int a, .int b, fv]).length ≤ 3) (h0 : 0 ≤ a) (h1 : a < b) : MI l D cA X yJ3_checkIndex_8e157 cJ3_checkIndex_8e157 3 (some .int) 0 0 [.int a, .int b, fv] w w a :=
  mI_of (by decide +kernel) hl3 (fun G h1' h2 h3 h4 C hD RET => by
    subst h1' h2 h3 h4
    rw [hf]
    refine v_iload_n C dJ3_checkIndex_8e157_0 rfl rfl 0 rfl ?_
    refine v_if_lt C dJ3_checkIndex_8e157_1 (tgt := 9) (by decide) rfl (fun c => absurd c (Int32.not_lt.mpr h0)) (fun c => ?_)
    refine v_iload_n C dJ3_checkIndex_8e157_4 rfl rfl 0 rfl ?_
    refine v_iload_n C dJ3_checkIndex_8e157_5 rfl rfl 1 rfl ?_
    refine v_icmp_lt C dJ3_checkIndex_8e157_6 (tgt := 16) (by decide) rfl (fun c => ?_) (fun c => absurd h1 c)
    refine v_iload_n C dJ3_checkIndex_8e157_16 rfl rfl 0 rfl ?_
    exact RET _ _ dJ3_checkIndex_8e157_17)
theorem c_S_check {a b : Int32} (h0 : 0 ≤ a) (h1 : a < b) : MV l D cA X yJ0_checkIndex_df160 cJ0_checkIndex_df160 2 1 30 [.int a, .int b] w w :=
  mV_of (by decide +kernel) (Nat.le_of_ble_eq_true rfl) (fun G h1' h2 h3 h4 C hD RET => by
    subst h1' h2 h3 h4
    show V G 2 w 0 [(0, .int a), (1, .int b)] []
    refine v_iload_n C dJ0_checkIndex_df160_0 rfl rfl 0 rfl ?_
    refine v_iload_n C dJ0_checkIndex_df160_1 rfl rfl 1 rfl ?_
    rcases C.hE.2.2.2.1 with hz | ⟨t, hz⟩
    · refine v_getsZ C hz m_664 dJ0_checkIndex_df160_2 rfl ?_
      refine v_callSi C ys_J3_checkIndex_8e157 m_666 (c_S_pre rfl (Nat.le_of_ble_eq_true rfl) h0 h1) (Sub.same hD) (As := [.int a, .int b, .null]) rfl rfl (Nat.le_of_ble_eq_true rfl) ⟨Nat.le_of_ble_eq_true rfl, Nat.le_of_ble_eq_true rfl⟩ dJ0_checkIndex_df160_5 rfl ?_
      refine v_pop C dJ0_checkIndex_df160_8 rfl rfl ?_
      exact RET _ _ dJ0_checkIndex_df160_9
    · refine v_getsZ C hz m_664 dJ0_checkIndex_df160_2 rfl ?_
      refine v_callSi C ys_J3_checkIndex_8e157 m_666 (c_S_pre rfl (Nat.le_of_ble_eq_true rfl) h0 h1) (Sub.same hD) (As := [.int a, .int b, .ref t]) rfl rfl (Nat.le_of_ble_eq_true rfl) ⟨Nat.le_of_ble_eq_true rfl, Nat.le_of_ble_eq_true rfl⟩ dJ0_checkIndex_df160_5 rfl ?_
      refine v_pop C dJ0_checkIndex_df160_8 rfl rfl ?_
      exact RET _ _ dJ0_checkIndex_df160_9)
theorem c_S_lat {j : Int32} (hi : isStr i) (hj : inb j (strL.getD i 0) = true) : MI l D cA X yJ1_charAt_3b067 cJ1_charAt_3b067 2 (some .char) 2 60 [.ref (X.2.2 i), .int j] w w (sb i j.toNatClampNeg) :=
  mN_of (sb_char hi (inb_lt hj)) (by decide +kernel) (Nat.le_of_ble_eq_true rfl) (fun G h1' h2 h3 h4 C hD RET => by
    subst h1' h2 h3 h4
    show V G 2 w 0 [(0, .ref ((gX G).2.2 i)), (1, .int j)] []
    refine v_iload_n C dJ1_charAt_3b067_0 rfl rfl 1 rfl ?_
    refine v_aload_n C dJ1_charAt_3b067_1 rfl rfl 0 rfl ?_
    refine v_tlen C (C.hstr hi).2.2.2 (v := strl i) rfl dJ1_charAt_3b067_2 rfl ?_
    refine v_callSv C ys_J0_checkIndex_df160 m_661 (c_S_check (inb_str hi hj).1 (inb_str hi hj).2) (Sub.same hD) (As := [.int j, .int (strl i)]) rfl rfl (Nat.le_of_ble_eq_true rfl) ⟨Nat.le_of_ble_eq_true rfl, Nat.le_of_ble_eq_true rfl⟩ dJ1_charAt_3b067_3 rfl ?_
    refine v_aload_n C dJ1_charAt_3b067_6 rfl rfl 0 rfl ?_
    refine v_iload_n C dJ1_charAt_3b067_7 rfl rfl 1 rfl ?_
    refine v_tb C (C.hstr hi).2.2.2 hj dJ1_charAt_3b067_8 rfl ?_
    refine v_sipush C dJ1_charAt_3b067_9 rfl si_255 ?_
    refine v_iand C dJ1_charAt_3b067_12 rfl ?_
    refine v_i2c C (sb_low hi (inb_lt hj)) dJ1_charAt_3b067_13 rfl ?_
    exact RET _ _ dJ1_charAt_3b067_14)
theorem c_S_charAt {j : Int32} (hi : isStr i) (hj : inb j (strL.getD i 0) = true) : MI l D cA X yJ0_charAt_5068e cJ0_charAt_5068e 2 (some .char) 3 90 [.ref (X.2.1 i), .int j] w w (sb i j.toNatClampNeg) :=
  mN_of (sb_char hi (inb_lt hj)) (by decide +kernel) (Nat.le_of_ble_eq_true rfl) (fun G h1' h2 h3 h4 C hD RET => by
    subst h1' h2 h3 h4
    show V G 2 w 0 [(0, .ref ((gX G).2.1 i)), (1, .int j)] []
    refine v_aload_n C dJ0_charAt_5068e_0 rfl rfl 0 rfl ?_
    refine v_callTi C hi yv_J0_isLatin1_aae02 rfl m_654 (c_S_isLatin1 hi) (Sub.same hD) (As := []) rfl rfl (Nat.le_of_ble_eq_true rfl) ⟨Nat.le_of_ble_eq_true rfl, Nat.le_of_ble_eq_true rfl⟩ dJ0_charAt_5068e_1 rfl ?_
    refine v_if_eq C dJ0_charAt_5068e_4 (tgt := 16) (by decide) rfl (fun c => absurd c (by decide)) (fun c => ?_)
    refine v_aload_n C dJ0_charAt_5068e_7 rfl rfl 0 rfl ?_
    refine v_sget C (C.hstr hi).2.2.1 m_1381 dJ0_charAt_5068e_8 rfl ?_
    refine v_iload_n C dJ0_charAt_5068e_11 rfl rfl 1 rfl ?_
    refine v_callSi C ys_J1_charAt_3b067 m_658 (c_S_lat hi hj) (Sub.same hD) (As := [.ref ((gX G).2.2 i), .int j]) rfl rfl (Nat.le_of_ble_eq_true rfl) ⟨Nat.le_of_ble_eq_true rfl, Nat.le_of_ble_eq_true rfl⟩ dJ0_charAt_5068e_12 rfl ?_
    exact RET _ _ dJ0_charAt_5068e_15)
end VSM
section VSR
variable {G : Ctx} {own : String} {cc : ByteArray} {nL fr lo : Nat} {w : va_W} {pc pc' idx i : Nat} {L : List (Nat × Value)} {st : List Value}
theorem v_slen (C : Cx G own cc nL fr lo) (hD : va_D (gA G) w) (hi : isStr i) (hl : Cond.methodLink own idx yJ0_length_8abf5 ∈ wsG) (hW : (st.map fun v => v.category).sum ≤ 8) (hR : 2 ≤ fr ∧ 40 ≤ lo) (d : decode cc pc = .ok (.invokevirtual idx, 3)) (hp : pc + 3 = pc') (kk : V G nL w pc' L (.int (strl i) :: st)) : V G nL w pc L (.ref ((gX G).2.1 i) :: st) :=
  v_callTi C hi yv_J0_length_8abf5 rfl hl (c_S_length hi) (Sub.same hD) (As := []) rfl rfl hW hR d hp kk
theorem v_schar (C : Cx G own cc nL fr lo) (hD : va_D (gA G) w) (hi : isStr i) {j : Int32} (hj : inb j (strL.getD i 0) = true) (hl : Cond.methodLink own idx yJ0_charAt_5068e ∈ wsG) (hW : (st.map fun v => v.category).sum ≤ 8) (hR : 4 ≤ fr ∧ 111 ≤ lo) (d : decode cc pc = .ok (.invokevirtual idx, 3)) (hp : pc + 3 = pc') (kk : V G nL w pc' L (.int (sb i j.toNatClampNeg) :: st)) : V G nL w pc L (.int j :: .ref ((gX G).2.1 i) :: st) :=
  v_callTi C hi yv_J0_charAt_5068e rfl hl (c_S_charAt hi hj) (Sub.same hD) (As := [.int j]) rfl rfl hW hR d hp kk
theorem v_ldcS (C : Cx G own cc nL fr lo) {tx : String} {q : Nat} (hZ : vk_R own idx tx q (gs G)) (d : decode cc pc = .ok (.ldc idx, 2)) (hp : pc + 2 = pc') (kk : V G nL w pc' L (.ref q :: st)) : V G nL w pc L st := by
  subst hp
  intro H locs ls hP hS hL
  exact va_ldcS C.hx C.hb C.hown hZ d (kk H locs ls hP hS hL)
end VSR
