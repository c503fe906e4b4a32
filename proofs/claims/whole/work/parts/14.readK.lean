def F_X1_isWord_28 (k28 : Int32 → Option Int32) (iw : Nat) (K : Mem) (a2 : Int32) : Option Int32 :=
  if (strl iw) ≤ a2 then (
    some 1
  ) else (
    bd (C_X1_byteAt K ((K 48 6) + a2)) fun r5 =>
    gd (inb a2 (strL.getD iw 0)) <|
    if r5 = (sb iw (Int32.toNatClampNeg a2)) then (
      nm (a2 + 1) fun v8 =>
      k28 v8
    ) else (
      some 0
    )
  )
def L_X1_isWord_28 (iw : Nat) (K : Mem) : Nat → Int32 → Option Int32
  | 0, _ => none
  | n + 1, a2 => F_X1_isWord_28 (fun a2 => L_X1_isWord_28 iw K n a2) iw K a2
set_option maxRecDepth 100000 in
set_option maxHeartbeats 4000000 in
theorem wF_X1_isWord_28 {G : Ctx} {ad : Nat → Nat} {iw : Nat} {K : Mem} {k28 : Int32 → Option Int32} (C : Cx G RX1 cX1_isWord 3 4 111) (hD : ∀ K, va_D (gA G) (wd (gC G) ad K 0 shsK)) {res : Int32} (RET : RZ G cX1_isWord 3 (wd (gC G) ad K 0 shsK) res) (hk28 : ∀ {a2 : Int32} , k28 a2 = some res → V G 3 (wd (gC G) ad K 0 shsK) 28 [(0, .ref (ad 48)), (1, .ref ((gX G).2.1 iw)), (2, .int a2)] []) (hiw : isStr iw) {a2 : Int32} (h : F_X1_isWord_28 k28 iw K a2 = some res) : V G 3 (wd (gC G) ad K 0 shsK) 28 [(0, .ref (ad 48)), (1, .ref ((gX G).2.1 iw)), (2, .int a2)] [] := by
  unfold F_X1_isWord_28 at h
  refine v_iload_n C dX1_isWord_28 rfl rfl 2 rfl ?_
  refine v_aload_n C dX1_isWord_29 rfl rfl 1 rfl ?_
  refine v_slen C (hD _) hiw m_640 (Nat.le_of_ble_eq_true rfl) ⟨Nat.le_of_ble_eq_true rfl, Nat.le_of_ble_eq_true rfl⟩ dX1_isWord_30 rfl ?_
  refine v_icmp_ge C dX1_isWord_33 (tgt := 62) (by decide) rfl (fun c3 => ?_) (fun c3 => ?_)
  · have h := ifp c3 h
    refine v_iconst C dX1_isWord_62 rfl ic_1 ?_
    obtain rfl := Option.some.inj h
    exact RET _ _ dX1_isWord_63 (Or.inr rfl)
  · have h := ifn c3 h
    refine v_aload_n C dX1_isWord_36 rfl rfl 0 rfl ?_
    refine v_aload_n C dX1_isWord_37 rfl rfl 0 rfl ?_
    refine v_getf C dX1_isWord_38 rfl ff_X1_42 sk_48 rfl ?_
    refine v_iload_n C dX1_isWord_41 rfl rfl 2 rfl ?_
    refine v_iadd C dX1_isWord_42 rfl ?_
    obtain ⟨r5, e4, h⟩ := bdS h
    refine v_callVi C yv_X1_byteAt m_624 (c_X1_byteAt e4) (Sub.whole hD _ _) ⟨_, _, _, _, _, wd_at sk_48, rfl⟩ (As := [.int ((K 48 6) + a2)]) rfl rfl (Nat.le_of_ble_eq_true rfl) ⟨Nat.le_of_ble_eq_true rfl, Nat.le_of_ble_eq_true rfl⟩ dX1_isWord_43 rfl ?_
    refine v_aload_n C dX1_isWord_46 rfl rfl 1 rfl ?_
    refine v_iload_n C dX1_isWord_47 rfl rfl 2 rfl ?_
    obtain ⟨b6, h⟩ := gdS h
    refine v_schar C (hD _) hiw b6 m_650 (Nat.le_of_ble_eq_true rfl) ⟨Nat.le_of_ble_eq_true rfl, Nat.le_of_ble_eq_true rfl⟩ dX1_isWord_48 rfl ?_
    refine v_icmp_eq C dX1_isWord_51 (tgt := 56) (by decide) rfl (fun c7 => ?_) (fun c7 => ?_)
    · have h := ifp c7 h
      obtain ⟨v8, ev8, h⟩ := nmS h
      refine v_iinc C dX1_isWord_56 rfl 2 rfl (v := v8) (by rw [ev8]; rfl) (by decide) (L' := [(2, .int v8), (0, .ref (ad 48)), (1, .ref ((gX G).2.1 iw))]) rfl ?_
      refine v_goto C dX1_isWord_59 (tgt := 28) (by decide) ?_
      refine v_sub [1, 2, 0] rfl ?_
      exact hk28 h
    · have h := ifn c7 h
      refine v_iconst C dX1_isWord_54 rfl ic_0 ?_
      obtain rfl := Option.some.inj h
      exact RET _ _ dX1_isWord_55 (Or.inl rfl)
theorem wL_X1_isWord_28 {G : Ctx} {ad : Nat → Nat} {iw : Nat} {K : Mem} (C : Cx G RX1 cX1_isWord 3 4 111) (hD : ∀ K, va_D (gA G) (wd (gC G) ad K 0 shsK)) {res : Int32} (RET : RZ G cX1_isWord 3 (wd (gC G) ad K 0 shsK) res) (hiw : isStr iw) : ∀ (n : Nat) {a2 : Int32} (h : L_X1_isWord_28 iw K n a2 = some res), V G 3 (wd (gC G) ad K 0 shsK) 28 [(0, .ref (ad 48)), (1, .ref ((gX G).2.1 iw)), (2, .int a2)] [] := by
  intro n
  induction n with
  | zero =>
    intro a2 h
    cases (show (none : Option Int32) = some res from h)
  | succ n ih =>
    intro a2 h
    exact wF_X1_isWord_28 (k28 := fun a2 => L_X1_isWord_28 iw K n a2) C hD RET (fun h => ih h) hiw h
def F_X1_isWord_0 (iw : Nat) (K : Mem) : Option Int32 :=
  if (K 48 5) = 1 then (
    if ((K 48 7) - (K 48 6)) = (strl iw) then (
      L_X1_isWord_28 iw K FU 0
    ) else (
      some 0
    )
  ) else (
    some 0
  )
set_option maxRecDepth 100000 in
set_option maxHeartbeats 4000000 in
theorem wF_X1_isWord_0 {G : Ctx} {ad : Nat → Nat} {iw : Nat} {K : Mem} (C : Cx G RX1 cX1_isWord 3 4 111) (hD : ∀ K, va_D (gA G) (wd (gC G) ad K 0 shsK)) {res : Int32} (RET : RZ G cX1_isWord 3 (wd (gC G) ad K 0 shsK) res) (hiw : isStr iw) (h : F_X1_isWord_0 iw K = some res) : V G 3 (wd (gC G) ad K 0 shsK) 0 [(0, .ref (ad 48)), (1, .ref ((gX G).2.1 iw))] [] := by
  unfold F_X1_isWord_0 at h
  refine v_aload_n C dX1_isWord_0 rfl rfl 0 rfl ?_
  refine v_getf C dX1_isWord_1 rfl ff_X1_26 sk_48 rfl ?_
  refine v_iconst C dX1_isWord_4 rfl ic_1 ?_
  refine v_icmp_ne C dX1_isWord_5 (tgt := 24) (by decide) rfl (fun c1 => ?_) (fun c1 => ?_)
  · have h := ifn c1 h
    refine v_iconst C dX1_isWord_24 rfl ic_0 ?_
    obtain rfl := Option.some.inj h
    exact RET _ _ dX1_isWord_25 (Or.inl rfl)
  · have h := ifp c1 h
    refine v_aload_n C dX1_isWord_8 rfl rfl 0 rfl ?_
    refine v_getf C dX1_isWord_9 rfl ff_X1_29 sk_48 rfl ?_
    refine v_aload_n C dX1_isWord_12 rfl rfl 0 rfl ?_
    refine v_getf C dX1_isWord_13 rfl ff_X1_42 sk_48 rfl ?_
    refine v_isub C dX1_isWord_16 rfl ?_
    refine v_aload_n C dX1_isWord_17 rfl rfl 1 rfl ?_
    refine v_slen C (hD _) hiw m_640 (Nat.le_of_ble_eq_true rfl) ⟨Nat.le_of_ble_eq_true rfl, Nat.le_of_ble_eq_true rfl⟩ dX1_isWord_18 rfl ?_
    refine v_icmp_eq C dX1_isWord_21 (tgt := 26) (by decide) rfl (fun c2 => ?_) (fun c2 => ?_)
    · have h := ifp c2 h
      refine v_iconst C dX1_isWord_26 rfl ic_0 ?_
      refine v_istore_n C dX1_isWord_27 rfl rfl (by decide) (L' := [(2, .int 0), (0, .ref (ad 48)), (1, .ref ((gX G).2.1 iw))]) rfl ?_
      refine v_sub [1, 2, 0] rfl ?_
      exact wL_X1_isWord_28 C hD RET hiw FU h
    · have h := ifn c2 h
      refine v_iconst C dX1_isWord_24 rfl ic_0 ?_
      obtain rfl := Option.some.inj h
      exact RET _ _ dX1_isWord_25 (Or.inl rfl)
def C_X1_isWord (iw : Nat) (K : Mem) : Option Int32 := F_X1_isWord_0 iw K
set_option maxRecDepth 100000 in
theorem c_X1_isWord {l : Launch} {D : va_G} {cA : FieldType → ClassId} {X : Ex} {ad : Nat → Nat} {iw : Nat} (hiw : isStr iw) {K : Mem} {r : Int32} (h : C_X1_isWord iw K = some r) : MI l D cA X yX1_isWord cX1_isWord 3 (some .boolean) 4 111 [.ref (ad 48), .ref (X.2.1 iw)] (wd cA ad K 0 shsK) (wd cA ad K 0 shsK) r :=
  mZ_of (by decide +kernel) (Nat.le_of_ble_eq_true rfl) (fun G h1 h2 h3 h4 C hD RET => by subst h1 h2 h3 h4; exact wF_X1_isWord_0 C (fun K' => wd_D K' hD) RET hiw h)
def F_X1_keyHere_0 (K : Mem) : Option Int32 :=
  bd (C_X1_isWord 0 K) fun r2 =>
  if r2 = 0 then (
    bd (C_X1_isWord 1 K) fun r5 =>
    if r5 = 0 then (
      bd (C_X1_isWord 2 K) fun r8 =>
      if r8 = 0 then (
        some (-1)
      ) else (
        some 2
      )
    ) else (
      some 1
    )
  ) else (
    some 0
  )
set_option maxRecDepth 100000 in
set_option maxHeartbeats 4000000 in
theorem wF_X1_keyHere_0 {G : Ctx} {ad : Nat → Nat} {K : Mem} (C : Cx G RX1 cX1_keyHere 1 5 133) (hD : ∀ K, va_D (gA G) (wd (gC G) ad K 0 shsK)) {res : Int32} (RET : RI G cX1_keyHere 1 (wd (gC G) ad K 0 shsK) res) (h : F_X1_keyHere_0 K = some res) : V G 1 (wd (gC G) ad K 0 shsK) 0 [(0, .ref (ad 48))] [] := by
  unfold F_X1_keyHere_0 at h
  refine v_aload_n C dX1_keyHere_0 rfl rfl 0 rfl ?_
  refine v_ldcS C C.hE.2.2.2.2.2.1 dX1_keyHere_1 rfl ?_
  obtain ⟨r2, e1, h⟩ := bdS h
  refine v_callVi C yv_X1_isWord m_636 (c_X1_isWord isStr_0 e1) (Sub.whole hD _ _) ⟨_, _, _, _, _, wd_at sk_48, rfl⟩ (As := [.ref ((gX G).2.1 0)]) rfl rfl (Nat.le_of_ble_eq_true rfl) ⟨Nat.le_of_ble_eq_true rfl, Nat.le_of_ble_eq_true rfl⟩ dX1_keyHere_3 rfl ?_
  refine v_if_eq C dX1_keyHere_6 (tgt := 11) (by decide) rfl (fun c3 => ?_) (fun c3 => ?_)
  · have h := ifp c3 h
    refine v_aload_n C dX1_keyHere_11 rfl rfl 0 rfl ?_
    refine v_ldcS C C.hE.2.2.2.2.2.2.1 dX1_keyHere_12 rfl ?_
    obtain ⟨r5, e4, h⟩ := bdS h
    refine v_callVi C yv_X1_isWord m_636 (c_X1_isWord isStr_1 e4) (Sub.whole hD _ _) ⟨_, _, _, _, _, wd_at sk_48, rfl⟩ (As := [.ref ((gX G).2.1 1)]) rfl rfl (Nat.le_of_ble_eq_true rfl) ⟨Nat.le_of_ble_eq_true rfl, Nat.le_of_ble_eq_true rfl⟩ dX1_keyHere_14 rfl ?_
    refine v_if_eq C dX1_keyHere_17 (tgt := 22) (by decide) rfl (fun c6 => ?_) (fun c6 => ?_)
    · have h := ifp c6 h
      refine v_aload_n C dX1_keyHere_22 rfl rfl 0 rfl ?_
      refine v_ldcS C C.hE.2.2.2.2.2.2.2.1 dX1_keyHere_23 rfl ?_
      obtain ⟨r8, e7, h⟩ := bdS h
      refine v_callVi C yv_X1_isWord m_636 (c_X1_isWord isStr_2 e7) (Sub.whole hD _ _) ⟨_, _, _, _, _, wd_at sk_48, rfl⟩ (As := [.ref ((gX G).2.1 2)]) rfl rfl (Nat.le_of_ble_eq_true rfl) ⟨Nat.le_of_ble_eq_true rfl, Nat.le_of_ble_eq_true rfl⟩ dX1_keyHere_25 rfl ?_
      refine v_if_eq C dX1_keyHere_28 (tgt := 35) (by decide) rfl (fun c9 => ?_) (fun c9 => ?_)
      · have h := ifp c9 h
        refine v_iconst C dX1_keyHere_35 rfl ic_n1 ?_
        obtain rfl := Option.some.inj h
        exact RET _ _ dX1_keyHere_36
      · have h := ifn c9 h
        refine v_iconst C dX1_keyHere_31 rfl ic_2 ?_
        refine v_goto C dX1_keyHere_32 (tgt := 36) (by decide) ?_
        obtain rfl := Option.some.inj h
        exact RET _ _ dX1_keyHere_36
    · have h := ifn c6 h
      refine v_iconst C dX1_keyHere_20 rfl ic_1 ?_
      obtain rfl := Option.some.inj h
      exact RET _ _ dX1_keyHere_21
  · have h := ifn c3 h
    refine v_iconst C dX1_keyHere_9 rfl ic_0 ?_
    obtain rfl := Option.some.inj h
    exact RET _ _ dX1_keyHere_10
def C_X1_keyHere (K : Mem) : Option Int32 := F_X1_keyHere_0 K
set_option maxRecDepth 100000 in
theorem c_X1_keyHere {l : Launch} {D : va_G} {cA : FieldType → ClassId} {X : Ex} {ad : Nat → Nat} {K : Mem} {r : Int32} (h : C_X1_keyHere K = some r) : MI l D cA X yX1_keyHere cX1_keyHere 1 (some .int) 5 133 [.ref (ad 48)] (wd cA ad K 0 shsK) (wd cA ad K 0 shsK) r :=
  mI_of (by decide +kernel) (Nat.le_of_ble_eq_true rfl) (fun G h1 h2 h3 h4 C hD RET => by subst h1 h2 h3 h4; exact wF_X1_keyHere_0 C (fun K' => wd_D K' hD) RET  h)
def F_X1_level_42 (rec_level : Int32 → Int32 → Int32 → Mem → Option (Int32 × Mem)) (rec_piece : Int32 → Int32 → Mem → Option (Int32 × Mem)) (k42 : Int32 → Int32 → Int32 → Int32 → Int32 → Mem → Option (Int32 × Mem)) (a1 : Int32) (a2 : Int32) (a3 : Int32) (a4 : Int32) (a5 : Int32) (K : Mem) : Option (Int32 × Mem) :=
  if a4 ≤ a5 then (
    some (1, K)
  ) else (
    if (K 48 5) = 3 then (
      bd (C_X1_byteAt K (K 48 6)) fun r14 =>
      bd (C_X1_levelOf r14) fun r16 =>
      if r16 = a1 then (
        bd (C_X1_byteAt K (K 48 6)) fun r19 =>
        bd (C_X1_moveOn K) fun K21 =>
        bd2 (rec_level (a1 + 1) a2 a3 K21) fun r24 K23 =>
        if r24 = 0 then (
          some (0, K23)
        ) else (
          bd (C_X1_write (-r19) K23) fun K27 =>
          nm (a5 + 1) fun v28 =>
          k42 a1 a2 a3 a4 v28 K27
        )
      ) else (
        some (1, K)
      )
    ) else (
      some (1, K)
    )
  )
def L_X1_level_42 (rec_level : Int32 → Int32 → Int32 → Mem → Option (Int32 × Mem)) (rec_piece : Int32 → Int32 → Mem → Option (Int32 × Mem)) : Nat → Int32 → Int32 → Int32 → Int32 → Int32 → Mem → Option (Int32 × Mem)
  | 0, _, _, _, _, _, _ => none
  | n + 1, a1, a2, a3, a4, a5, K => F_X1_level_42 rec_level rec_piece (fun a1 a2 a3 a4 a5 K => L_X1_level_42 rec_level rec_piece n a1 a2 a3 a4 a5 K) a1 a2 a3 a4 a5 K
set_option maxRecDepth 100000 in
set_option maxHeartbeats 4000000 in
theorem wF_X1_level_42 {G : Ctx} {ad : Nat → Nat} {fr lo fd ld : Nat} {rec_level : Int32 → Int32 → Int32 → Mem → Option (Int32 × Mem)} {rec_piece : Int32 → Int32 → Mem → Option (Int32 × Mem)} {k42 : Int32 → Int32 → Int32 → Int32 → Int32 → Mem → Option (Int32 × Mem)} (C : Cx G RX1 cX1_level 7 fr lo) (hD : ∀ K, va_D (gA G) (wd (gC G) ad K 0 shsK)) {res : (Int32 × Mem)} (RET : RZ G cX1_level 7 (wd (gC G) ad res.2 0 shsK) res.1) (hrec_level : ∀ {z0 z1 z2 : Int32} {K : Mem} {r : Int32} {K' : Mem}, rec_level z0 z1 z2 K = some (r, K') → MI (gl G) (gD G) (gC G) (gX G) yX1_level cX1_level 7 (some .boolean) fd ld [.ref (ad 48), .int z0, .int z1, .int z2] (wd (gC G) ad K 0 shsK) (wd (gC G) ad K' 0 shsK) r) (hrR_level : fd + 1 ≤ fr ∧ 8 + (7 + 11) + ld ≤ lo) (hrec_piece : ∀ {z0 z1 : Int32} {K : Mem} {r : Int32} {K' : Mem}, rec_piece z0 z1 K = some (r, K') → MI (gl G) (gD G) (gC G) (gX G) yX1_piece cX1_piece 3 (some .boolean) fd ld [.ref (ad 48), .int z0, .int z1] (wd (gC G) ad K 0 shsK) (wd (gC G) ad K' 0 shsK) r) (hrR_piece : fd + 1 ≤ fr ∧ 8 + (3 + 11) + ld ≤ lo) (hf0 : 4 ≤ fr) (hl0 : 86 ≤ lo) (hk42 : ∀ {a1 : Int32} {a2 : Int32} {a3 : Int32} {a4 : Int32} {a5 : Int32} {K : Mem} , k42 a1 a2 a3 a4 a5 K = some res → V G 7 (wd (gC G) ad K 0 shsK) 42 [(0, .ref (ad 48)), (1, .int a1), (2, .int a2), (3, .int a3), (4, .int a4), (5, .int a5)] []) {a1 : Int32} {a2 : Int32} {a3 : Int32} {a4 : Int32} {a5 : Int32} {K : Mem} (h : F_X1_level_42 rec_level rec_piece k42 a1 a2 a3 a4 a5 K = some res) : V G 7 (wd (gC G) ad K 0 shsK) 42 [(0, .ref (ad 48)), (1, .int a1), (2, .int a2), (3, .int a3), (4, .int a4), (5, .int a5)] [] := by
  unfold F_X1_level_42 at h
  refine v_iload C dX1_level_42 rfl 5 rfl ?_
  refine v_iload C dX1_level_44 rfl 4 rfl ?_
  refine v_icmp_ge C dX1_level_46 (tgt := 113) (by decide) rfl (fun c11 => ?_) (fun c11 => ?_)
  · have h := ifp c11 h
    refine v_iconst C dX1_level_113 rfl ic_1 ?_
    obtain rfl := Option.some.inj h
    exact RET _ _ dX1_level_114 (Or.inr rfl)
  · have h := ifn c11 h
    refine v_aload_n C dX1_level_49 rfl rfl 0 rfl ?_
    refine v_getf C dX1_level_50 rfl ff_X1_26 sk_48 rfl ?_
    refine v_iconst C dX1_level_53 rfl ic_3 ?_
    refine v_icmp_ne C dX1_level_54 (tgt := 113) (by decide) rfl (fun c12 => ?_) (fun c12 => ?_)
    · have h := ifn c12 h
      refine v_iconst C dX1_level_113 rfl ic_1 ?_
      obtain rfl := Option.some.inj h
      exact RET _ _ dX1_level_114 (Or.inr rfl)
    · have h := ifp c12 h
      refine v_aload_n C dX1_level_57 rfl rfl 0 rfl ?_
      refine v_aload_n C dX1_level_58 rfl rfl 0 rfl ?_
      refine v_getf C dX1_level_59 rfl ff_X1_42 sk_48 rfl ?_
      obtain ⟨r14, e13, h⟩ := bdS h
      refine v_callVi C yv_X1_byteAt m_624 (c_X1_byteAt e13) (Sub.whole hD _ _) ⟨_, _, _, _, _, wd_at sk_48, rfl⟩ (As := [.int (K 48 6)]) rfl rfl (Nat.le_of_ble_eq_true rfl) ⟨Nat.le_trans (Nat.le_of_ble_eq_true rfl) hf0, Nat.le_trans (Nat.le_of_ble_eq_true rfl) hl0⟩ dX1_level_62 rfl ?_
      obtain ⟨r16, e15, h⟩ := bdS h
      refine v_callSi C ys_X1_levelOf m_721 (c_X1_levelOf e15) (Sub.whole hD _ _) (As := [.int r14]) rfl rfl (Nat.le_of_ble_eq_true rfl) ⟨Nat.le_trans (Nat.le_of_ble_eq_true rfl) hf0, Nat.le_trans (Nat.le_of_ble_eq_true rfl) hl0⟩ dX1_level_65 rfl ?_
      refine v_iload_n C dX1_level_68 rfl rfl 1 rfl ?_
      refine v_icmp_ne C dX1_level_69 (tgt := 113) (by decide) rfl (fun c17 => ?_) (fun c17 => ?_)
      · have h := ifn c17 h
        refine v_iconst C dX1_level_113 rfl ic_1 ?_
        obtain rfl := Option.some.inj h
        exact RET _ _ dX1_level_114 (Or.inr rfl)
      · have h := ifp c17 h
        refine v_aload_n C dX1_level_72 rfl rfl 0 rfl ?_
        refine v_aload_n C dX1_level_73 rfl rfl 0 rfl ?_
        refine v_getf C dX1_level_74 rfl ff_X1_42 sk_48 rfl ?_
        obtain ⟨r19, e18, h⟩ := bdS h
        refine v_callVi C yv_X1_byteAt m_624 (c_X1_byteAt e18) (Sub.whole hD _ _) ⟨_, _, _, _, _, wd_at sk_48, rfl⟩ (As := [.int (K 48 6)]) rfl rfl (Nat.le_of_ble_eq_true rfl) ⟨Nat.le_trans (Nat.le_of_ble_eq_true rfl) hf0, Nat.le_trans (Nat.le_of_ble_eq_true rfl) hl0⟩ dX1_level_77 rfl ?_
        refine v_istore C dX1_level_80 rfl (by decide) (L' := [(6, .int r19), (0, .ref (ad 48)), (1, .int a1), (2, .int a2), (3, .int a3), (4, .int a4), (5, .int a5)]) rfl ?_
        refine v_aload_n C dX1_level_82 rfl rfl 1 rfl ?_
        obtain ⟨K21, e20, h⟩ := bdS h
        refine v_callVv C yv_X1_moveOn m_620 (c_X1_moveOn e20) (Sub.whole hD _ _) ⟨_, _, _, _, _, wd_at sk_48, rfl⟩ (As := []) rfl rfl (Nat.le_of_ble_eq_true rfl) ⟨Nat.le_trans (Nat.le_of_ble_eq_true rfl) hf0, Nat.le_trans (Nat.le_of_ble_eq_true rfl) hl0⟩ dX1_level_83 rfl ?_
        refine v_aload_n C dX1_level_86 rfl rfl 1 rfl ?_
        refine v_iload_n C dX1_level_87 rfl rfl 2 rfl ?_
        refine v_iconst C dX1_level_88 rfl ic_1 ?_
        refine v_iadd C dX1_level_89 rfl ?_
        refine v_iload_n C dX1_level_90 rfl rfl 3 rfl ?_
        refine v_iload_n C dX1_level_91 rfl rfl 4 rfl ?_
        obtain ⟨r24, K23, e22, h⟩ := bd2S h
        refine v_callVi C yv_X1_level m_690 (hrec_level e22) (Sub.whole hD _ _) ⟨_, _, _, _, _, wd_at sk_48, rfl⟩ (As := [.int (a1 + 1), .int a2, .int a3]) rfl rfl (Nat.le_of_ble_eq_true rfl) hrR_level dX1_level_92 rfl ?_
        refine v_if_ne C dX1_level_95 (tgt := 100) (by decide) rfl (fun c25 => ?_) (fun c25 => ?_)
        · have h := ifn c25 h
          refine v_aload_n C dX1_level_100 rfl rfl 1 rfl ?_
          refine v_iload C dX1_level_101 rfl 0 rfl ?_
          refine v_ineg C dX1_level_103 rfl ?_
          obtain ⟨K27, e26, h⟩ := bdS h
          refine v_callVv C yv_X1_write m_706 (c_X1_write e26) (Sub.whole hD _ _) ⟨_, _, _, _, _, wd_at sk_48, rfl⟩ (As := [.int (-r19)]) rfl rfl (Nat.le_of_ble_eq_true rfl) ⟨Nat.le_trans (Nat.le_of_ble_eq_true rfl) hf0, Nat.le_trans (Nat.le_of_ble_eq_true rfl) hl0⟩ dX1_level_104 rfl ?_
          obtain ⟨v28, ev28, h⟩ := nmS h
          refine v_iinc C dX1_level_107 rfl 6 rfl (v := v28) (by rw [ev28]; rfl) (by decide) (L' := [(5, .int v28), (6, .int r19), (0, .ref (ad 48)), (1, .int a1), (2, .int a2), (3, .int a3), (4, .int a4)]) rfl ?_
          refine v_goto C dX1_level_110 (tgt := 42) (by decide) ?_
          refine v_sub [2, 3, 4, 5, 6, 0] rfl ?_
          exact hk42 h
        · have h := ifp c25 h
          refine v_iconst C dX1_level_98 rfl ic_0 ?_
          obtain rfl := Option.some.inj h
          exact RET _ _ dX1_level_99 (Or.inl rfl)
theorem wL_X1_level_42 {G : Ctx} {ad : Nat → Nat} {fr lo fd ld : Nat} {rec_level : Int32 → Int32 → Int32 → Mem → Option (Int32 × Mem)} {rec_piece : Int32 → Int32 → Mem → Option (Int32 × Mem)} (C : Cx G RX1 cX1_level 7 fr lo) (hD : ∀ K, va_D (gA G) (wd (gC G) ad K 0 shsK)) {res : (Int32 × Mem)} (RET : RZ G cX1_level 7 (wd (gC G) ad res.2 0 shsK) res.1) (hrec_level : ∀ {z0 z1 z2 : Int32} {K : Mem} {r : Int32} {K' : Mem}, rec_level z0 z1 z2 K = some (r, K') → MI (gl G) (gD G) (gC G) (gX G) yX1_level cX1_level 7 (some .boolean) fd ld [.ref (ad 48), .int z0, .int z1, .int z2] (wd (gC G) ad K 0 shsK) (wd (gC G) ad K' 0 shsK) r) (hrR_level : fd + 1 ≤ fr ∧ 8 + (7 + 11) + ld ≤ lo) (hrec_piece : ∀ {z0 z1 : Int32} {K : Mem} {r : Int32} {K' : Mem}, rec_piece z0 z1 K = some (r, K') → MI (gl G) (gD G) (gC G) (gX G) yX1_piece cX1_piece 3 (some .boolean) fd ld [.ref (ad 48), .int z0, .int z1] (wd (gC G) ad K 0 shsK) (wd (gC G) ad K' 0 shsK) r) (hrR_piece : fd + 1 ≤ fr ∧ 8 + (3 + 11) + ld ≤ lo) (hf0 : 4 ≤ fr) (hl0 : 86 ≤ lo) : ∀ (n : Nat) {a1 : Int32} {a2 : Int32} {a3 : Int32} {a4 : Int32} {a5 : Int32} {K : Mem} (h : L_X1_level_42 rec_level rec_piece n a1 a2 a3 a4 a5 K = some res), V G 7 (wd (gC G) ad K 0 shsK) 42 [(0, .ref (ad 48)), (1, .int a1), (2, .int a2), (3, .int a3), (4, .int a4), (5, .int a5)] [] := by
  intro n
  induction n with
  | zero =>
    intro a1 a2 a3 a4 a5 K h
    cases (show (none : Option (Int32 × Mem)) = some res from h)
  | succ n ih =>
    intro a1 a2 a3 a4 a5 K h
    exact wF_X1_level_42 (k42 := fun a1 a2 a3 a4 a5 K => L_X1_level_42 rec_level rec_piece n a1 a2 a3 a4 a5 K) C hD RET hrec_level hrR_level hrec_piece hrR_piece hf0 hl0 (fun h => ih h) h
def F_X1_level_0 (rec_level : Int32 → Int32 → Int32 → Mem → Option (Int32 × Mem)) (rec_piece : Int32 → Int32 → Mem → Option (Int32 × Mem)) (a1 : Int32) (a2 : Int32) (a3 : Int32) (K : Mem) : Option (Int32 × Mem) :=
  if a1 < 5 then (
    bd2 (rec_level (a1 + 1) a2 a3 K) fun r4 K3 =>
    if r4 = 0 then (
      some (0, K3)
    ) else (
      if a1 = 2 then (
        L_X1_level_42 rec_level rec_piece FU a1 a2 a3 1 0 K3
      ) else (
        L_X1_level_42 rec_level rec_piece FU a1 a2 a3 96 0 K3
      )
    )
  ) else (
    bd2 (rec_piece a2 a3 K) fun r9 K8 =>
    gd (z01 r9) <|
    some (r9, K8)
  )
set_option maxRecDepth 100000 in
set_option maxHeartbeats 4000000 in
theorem wF_X1_level_0 {G : Ctx} {ad : Nat → Nat} {fr lo fd ld : Nat} {rec_level : Int32 → Int32 → Int32 → Mem → Option (Int32 × Mem)} {rec_piece : Int32 → Int32 → Mem → Option (Int32 × Mem)} (C : Cx G RX1 cX1_level 7 fr lo) (hD : ∀ K, va_D (gA G) (wd (gC G) ad K 0 shsK)) {res : (Int32 × Mem)} (RET : RZ G cX1_level 7 (wd (gC G) ad res.2 0 shsK) res.1) (hrec_level : ∀ {z0 z1 z2 : Int32} {K : Mem} {r : Int32} {K' : Mem}, rec_level z0 z1 z2 K = some (r, K') → MI (gl G) (gD G) (gC G) (gX G) yX1_level cX1_level 7 (some .boolean) fd ld [.ref (ad 48), .int z0, .int z1, .int z2] (wd (gC G) ad K 0 shsK) (wd (gC G) ad K' 0 shsK) r) (hrR_level : fd + 1 ≤ fr ∧ 8 + (7 + 11) + ld ≤ lo) (hrec_piece : ∀ {z0 z1 : Int32} {K : Mem} {r : Int32} {K' : Mem}, rec_piece z0 z1 K = some (r, K') → MI (gl G) (gD G) (gC G) (gX G) yX1_piece cX1_piece 3 (some .boolean) fd ld [.ref (ad 48), .int z0, .int z1] (wd (gC G) ad K 0 shsK) (wd (gC G) ad K' 0 shsK) r) (hrR_piece : fd + 1 ≤ fr ∧ 8 + (3 + 11) + ld ≤ lo) (hf0 : 4 ≤ fr) (hl0 : 86 ≤ lo) {a1 : Int32} {a2 : Int32} {a3 : Int32} {K : Mem} (h : F_X1_level_0 rec_level rec_piece a1 a2 a3 K = some res) : V G 7 (wd (gC G) ad K 0 shsK) 0 [(0, .ref (ad 48)), (1, .int a1), (2, .int a2), (3, .int a3)] [] := by
  unfold F_X1_level_0 at h
  refine v_iload_n C dX1_level_0 rfl rfl 1 rfl ?_
  refine v_iconst C dX1_level_1 rfl ic_5 ?_
  refine v_icmp_lt C dX1_level_2 (tgt := 12) (by decide) rfl (fun c1 => ?_) (fun c1 => ?_)
  · have h := ifp c1 h
    refine v_aload_n C dX1_level_12 rfl rfl 0 rfl ?_
    refine v_iload_n C dX1_level_13 rfl rfl 1 rfl ?_
    refine v_iconst C dX1_level_14 rfl ic_1 ?_
    refine v_iadd C dX1_level_15 rfl ?_
    refine v_iload_n C dX1_level_16 rfl rfl 2 rfl ?_
    refine v_iload_n C dX1_level_17 rfl rfl 3 rfl ?_
    obtain ⟨r4, K3, e2, h⟩ := bd2S h
    refine v_callVi C yv_X1_level m_690 (hrec_level e2) (Sub.whole hD _ _) ⟨_, _, _, _, _, wd_at sk_48, rfl⟩ (As := [.int (a1 + 1), .int a2, .int a3]) rfl rfl (Nat.le_of_ble_eq_true rfl) hrR_level dX1_level_18 rfl ?_
    refine v_if_ne C dX1_level_21 (tgt := 26) (by decide) rfl (fun c5 => ?_) (fun c5 => ?_)
    · have h := ifn c5 h
      refine v_iload_n C dX1_level_26 rfl rfl 1 rfl ?_
      refine v_iconst C dX1_level_27 rfl ic_2 ?_
      refine v_icmp_ne C dX1_level_28 (tgt := 35) (by decide) rfl (fun c6 => ?_) (fun c6 => ?_)
      · have h := ifn c6 h
        refine v_bipush C dX1_level_35 rfl bi_96 ?_
        refine v_istore C dX1_level_37 rfl (by decide) (L' := [(4, .int 96), (0, .ref (ad 48)), (1, .int a1), (2, .int a2), (3, .int a3)]) rfl ?_
        refine v_iconst C dX1_level_39 rfl ic_0 ?_
        refine v_istore C dX1_level_40 rfl (by decide) (L' := [(5, .int 0), (4, .int 96), (0, .ref (ad 48)), (1, .int a1), (2, .int a2), (3, .int a3)]) rfl ?_
        refine v_sub [2, 3, 4, 5, 1, 0] rfl ?_
        exact wL_X1_level_42 C hD RET hrec_level hrR_level hrec_piece hrR_piece hf0 hl0 FU h
      · have h := ifp c6 h
        refine v_iconst C dX1_level_31 rfl ic_1 ?_
        refine v_goto C dX1_level_32 (tgt := 37) (by decide) ?_
        refine v_istore C dX1_level_37 rfl (by decide) (L' := [(4, .int 1), (0, .ref (ad 48)), (1, .int a1), (2, .int a2), (3, .int a3)]) rfl ?_
        refine v_iconst C dX1_level_39 rfl ic_0 ?_
        refine v_istore C dX1_level_40 rfl (by decide) (L' := [(5, .int 0), (4, .int 1), (0, .ref (ad 48)), (1, .int a1), (2, .int a2), (3, .int a3)]) rfl ?_
        refine v_sub [2, 3, 4, 5, 1, 0] rfl ?_
        exact wL_X1_level_42 C hD RET hrec_level hrR_level hrec_piece hrR_piece hf0 hl0 FU h
    · have h := ifp c5 h
      refine v_iconst C dX1_level_24 rfl ic_0 ?_
      obtain rfl := Option.some.inj h
      exact RET _ _ dX1_level_25 (Or.inl rfl)
  · have h := ifn c1 h
    refine v_aload_n C dX1_level_5 rfl rfl 0 rfl ?_
    refine v_iload_n C dX1_level_6 rfl rfl 2 rfl ?_
    refine v_iload_n C dX1_level_7 rfl rfl 3 rfl ?_
    obtain ⟨r9, K8, e7, h⟩ := bd2S h
    refine v_callVi C yv_X1_piece m_694 (hrec_piece e7) (Sub.whole hD _ _) ⟨_, _, _, _, _, wd_at sk_48, rfl⟩ (As := [.int a2, .int a3]) rfl rfl (Nat.le_of_ble_eq_true rfl) hrR_piece dX1_level_8 rfl ?_
    obtain ⟨b10, h⟩ := gdS h
    obtain rfl := Option.some.inj h
    exact RET _ _ dX1_level_11 (z01S b10)
def F_X1_piece_66 (rec_level : Int32 → Int32 → Int32 → Mem → Option (Int32 × Mem)) (rec_piece : Int32 → Int32 → Mem → Option (Int32 × Mem)) (a1 : Int32) (a2 : Int32) (K : Mem) : Option (Int32 × Mem) :=
  bd (C_X1_isSign K 40) fun r24 =>
  if r24 = 0 then (
    some (0, K)
  ) else (
    if 8 ≤ a1 then (
      some (0, K)
    ) else (
      bd (C_X1_moveOn K) fun K28 =>
      bd2 (rec_level 0 (a1 + 1) a2 K28) fun r31 K30 =>
      if r31 = 0 then (
        some (0, K30)
      ) else (
        bd (C_X1_isSign K30 41) fun r34 =>
        if r34 = 0 then (
          some (0, K30)
        ) else (
          bd (C_X1_moveOn K30) fun K37 =>
          some (1, K37)
        )
      )
    )
  )
set_option maxRecDepth 100000 in
set_option maxHeartbeats 4000000 in
theorem wF_X1_piece_66 {G : Ctx} {ad : Nat → Nat} {fr lo fd ld : Nat} {rec_level : Int32 → Int32 → Int32 → Mem → Option (Int32 × Mem)} {rec_piece : Int32 → Int32 → Mem → Option (Int32 × Mem)} (C : Cx G RX1 cX1_piece 3 fr lo) (hD : ∀ K, va_D (gA G) (wd (gC G) ad K 0 shsK)) {res : (Int32 × Mem)} (RET : RZ G cX1_piece 3 (wd (gC G) ad res.2 0 shsK) res.1) (hrec_level : ∀ {z0 z1 z2 : Int32} {K : Mem} {r : Int32} {K' : Mem}, rec_level z0 z1 z2 K = some (r, K') → MI (gl G) (gD G) (gC G) (gX G) yX1_level cX1_level 7 (some .boolean) fd ld [.ref (ad 48), .int z0, .int z1, .int z2] (wd (gC G) ad K 0 shsK) (wd (gC G) ad K' 0 shsK) r) (hrR_level : fd + 1 ≤ fr ∧ 8 + (7 + 11) + ld ≤ lo) (hrec_piece : ∀ {z0 z1 : Int32} {K : Mem} {r : Int32} {K' : Mem}, rec_piece z0 z1 K = some (r, K') → MI (gl G) (gD G) (gC G) (gX G) yX1_piece cX1_piece 3 (some .boolean) fd ld [.ref (ad 48), .int z0, .int z1] (wd (gC G) ad K 0 shsK) (wd (gC G) ad K' 0 shsK) r) (hrR_piece : fd + 1 ≤ fr ∧ 8 + (3 + 11) + ld ≤ lo) (hf0 : 4 ≤ fr) (hl0 : 86 ≤ lo) {a1 : Int32} {a2 : Int32} {K : Mem} (h : F_X1_piece_66 rec_level rec_piece a1 a2 K = some res) : V G 3 (wd (gC G) ad K 0 shsK) 66 [(0, .ref (ad 48)), (1, .int a1), (2, .int a2)] [] := by
  unfold F_X1_piece_66 at h
  refine v_aload_n C dX1_piece_66 rfl rfl 0 rfl ?_
  refine v_bipush C dX1_piece_67 rfl bi_40 ?_
  obtain ⟨r24, e23, h⟩ := bdS h
  refine v_callVi C yv_X1_isSign m_717 (c_X1_isSign e23) (Sub.whole hD _ _) ⟨_, _, _, _, _, wd_at sk_48, rfl⟩ (As := [.int 40]) rfl rfl (Nat.le_of_ble_eq_true rfl) ⟨Nat.le_trans (Nat.le_of_ble_eq_true rfl) hf0, Nat.le_trans (Nat.le_of_ble_eq_true rfl) hl0⟩ dX1_piece_69 rfl ?_
  refine v_if_eq C dX1_piece_72 (tgt := 114) (by decide) rfl (fun c25 => ?_) (fun c25 => ?_)
  · have h := ifp c25 h
    refine v_iconst C dX1_piece_114 rfl ic_0 ?_
    obtain rfl := Option.some.inj h
    exact RET _ _ dX1_piece_115 (Or.inl rfl)
  · have h := ifn c25 h
    refine v_iload_n C dX1_piece_75 rfl rfl 1 rfl ?_
    refine v_bipush C dX1_piece_76 rfl bi_8 ?_
    refine v_icmp_ge C dX1_piece_78 (tgt := 114) (by decide) rfl (fun c26 => ?_) (fun c26 => ?_)
    · have h := ifp c26 h
      refine v_iconst C dX1_piece_114 rfl ic_0 ?_
      obtain rfl := Option.some.inj h
      exact RET _ _ dX1_piece_115 (Or.inl rfl)
    · have h := ifn c26 h
      refine v_aload_n C dX1_piece_81 rfl rfl 0 rfl ?_
      obtain ⟨K28, e27, h⟩ := bdS h
      refine v_callVv C yv_X1_moveOn m_620 (c_X1_moveOn e27) (Sub.whole hD _ _) ⟨_, _, _, _, _, wd_at sk_48, rfl⟩ (As := []) rfl rfl (Nat.le_of_ble_eq_true rfl) ⟨Nat.le_trans (Nat.le_of_ble_eq_true rfl) hf0, Nat.le_trans (Nat.le_of_ble_eq_true rfl) hl0⟩ dX1_piece_82 rfl ?_
      refine v_aload_n C dX1_piece_85 rfl rfl 0 rfl ?_
      refine v_iconst C dX1_piece_86 rfl ic_0 ?_
      refine v_iload_n C dX1_piece_87 rfl rfl 1 rfl ?_
      refine v_iconst C dX1_piece_88 rfl ic_1 ?_
      refine v_iadd C dX1_piece_89 rfl ?_
      refine v_iload_n C dX1_piece_90 rfl rfl 2 rfl ?_
      obtain ⟨r31, K30, e29, h⟩ := bd2S h
      refine v_callVi C yv_X1_level m_690 (hrec_level e29) (Sub.whole hD _ _) ⟨_, _, _, _, _, wd_at sk_48, rfl⟩ (As := [.int 0, .int (a1 + 1), .int a2]) rfl rfl (Nat.le_of_ble_eq_true rfl) hrR_level dX1_piece_91 rfl ?_
      refine v_if_eq C dX1_piece_94 (tgt := 106) (by decide) rfl (fun c32 => ?_) (fun c32 => ?_)
      · have h := ifp c32 h
        refine v_iconst C dX1_piece_106 rfl ic_0 ?_
        obtain rfl := Option.some.inj h
        exact RET _ _ dX1_piece_107 (Or.inl rfl)
      · have h := ifn c32 h
        refine v_aload_n C dX1_piece_97 rfl rfl 0 rfl ?_
        refine v_bipush C dX1_piece_98 rfl bi_41 ?_
        obtain ⟨r34, e33, h⟩ := bdS h
        refine v_callVi C yv_X1_isSign m_717 (c_X1_isSign e33) (Sub.whole hD _ _) ⟨_, _, _, _, _, wd_at sk_48, rfl⟩ (As := [.int 41]) rfl rfl (Nat.le_of_ble_eq_true rfl) ⟨Nat.le_trans (Nat.le_of_ble_eq_true rfl) hf0, Nat.le_trans (Nat.le_of_ble_eq_true rfl) hl0⟩ dX1_piece_100 rfl ?_
        refine v_if_ne C dX1_piece_103 (tgt := 108) (by decide) rfl (fun c35 => ?_) (fun c35 => ?_)
        · have h := ifn c35 h
          refine v_aload_n C dX1_piece_108 rfl rfl 0 rfl ?_
          obtain ⟨K37, e36, h⟩ := bdS h
          refine v_callVv C yv_X1_moveOn m_620 (c_X1_moveOn e36) (Sub.whole hD _ _) ⟨_, _, _, _, _, wd_at sk_48, rfl⟩ (As := []) rfl rfl (Nat.le_of_ble_eq_true rfl) ⟨Nat.le_trans (Nat.le_of_ble_eq_true rfl) hf0, Nat.le_trans (Nat.le_of_ble_eq_true rfl) hl0⟩ dX1_piece_109 rfl ?_
          refine v_iconst C dX1_piece_112 rfl ic_1 ?_
          obtain rfl := Option.some.inj h
          exact RET _ _ dX1_piece_113 (Or.inr rfl)
        · have h := ifp c35 h
          refine v_iconst C dX1_piece_106 rfl ic_0 ?_
          obtain rfl := Option.some.inj h
          exact RET _ _ dX1_piece_107 (Or.inl rfl)
def F_X1_piece_0 (rec_level : Int32 → Int32 → Int32 → Mem → Option (Int32 × Mem)) (rec_piece : Int32 → Int32 → Mem → Option (Int32 × Mem)) (a1 : Int32) (a2 : Int32) (K : Mem) : Option (Int32 × Mem) :=
  if (K 48 5) = 2 then (
    bd2 (C_X1_number K) fun r21 K20 =>
    gd (z01 r21) <|
    some (r21, K20)
  ) else (
    if (K 48 5) = 1 then (
      bd2 (C_X1_name K) fun r17 K16 =>
      gd (z01 r17) <|
      some (r17, K16)
    ) else (
      bd (C_X1_isSign K 33) fun r4 =>
      if r4 = 0 then (
        F_X1_piece_66 rec_level rec_piece a1 a2 K
      ) else (
        if 8 ≤ a2 then (
          F_X1_piece_66 rec_level rec_piece a1 a2 K
        ) else (
          bd (C_X1_moveOn K) fun K8 =>
          bd2 (rec_piece a1 (a2 + 1) K8) fun r11 K10 =>
          if r11 = 0 then (
            some (0, K10)
          ) else (
            bd (C_X1_write (-33) K10) fun K14 =>
            some (1, K14)
          )
        )
      )
    )
  )
set_option maxRecDepth 100000 in
set_option maxHeartbeats 4000000 in
theorem wF_X1_piece_0 {G : Ctx} {ad : Nat → Nat} {fr lo fd ld : Nat} {rec_level : Int32 → Int32 → Int32 → Mem → Option (Int32 × Mem)} {rec_piece : Int32 → Int32 → Mem → Option (Int32 × Mem)} (C : Cx G RX1 cX1_piece 3 fr lo) (hD : ∀ K, va_D (gA G) (wd (gC G) ad K 0 shsK)) {res : (Int32 × Mem)} (RET : RZ G cX1_piece 3 (wd (gC G) ad res.2 0 shsK) res.1) (hrec_level : ∀ {z0 z1 z2 : Int32} {K : Mem} {r : Int32} {K' : Mem}, rec_level z0 z1 z2 K = some (r, K') → MI (gl G) (gD G) (gC G) (gX G) yX1_level cX1_level 7 (some .boolean) fd ld [.ref (ad 48), .int z0, .int z1, .int z2] (wd (gC G) ad K 0 shsK) (wd (gC G) ad K' 0 shsK) r) (hrR_level : fd + 1 ≤ fr ∧ 8 + (7 + 11) + ld ≤ lo) (hrec_piece : ∀ {z0 z1 : Int32} {K : Mem} {r : Int32} {K' : Mem}, rec_piece z0 z1 K = some (r, K') → MI (gl G) (gD G) (gC G) (gX G) yX1_piece cX1_piece 3 (some .boolean) fd ld [.ref (ad 48), .int z0, .int z1] (wd (gC G) ad K 0 shsK) (wd (gC G) ad K' 0 shsK) r) (hrR_piece : fd + 1 ≤ fr ∧ 8 + (3 + 11) + ld ≤ lo) (hf0 : 4 ≤ fr) (hl0 : 86 ≤ lo) {a1 : Int32} {a2 : Int32} {K : Mem} (h : F_X1_piece_0 rec_level rec_piece a1 a2 K = some res) : V G 3 (wd (gC G) ad K 0 shsK) 0 [(0, .ref (ad 48)), (1, .int a1), (2, .int a2)] [] := by
  unfold F_X1_piece_0 at h
  refine v_aload_n C dX1_piece_0 rfl rfl 0 rfl ?_
  refine v_getf C dX1_piece_1 rfl ff_X1_26 sk_48 rfl ?_
  refine v_iconst C dX1_piece_4 rfl ic_2 ?_
  refine v_icmp_ne C dX1_piece_5 (tgt := 13) (by decide) rfl (fun c1 => ?_) (fun c1 => ?_)
  · have h := ifn c1 h
    refine v_aload_n C dX1_piece_13 rfl rfl 0 rfl ?_
    refine v_getf C dX1_piece_14 rfl ff_X1_26 sk_48 rfl ?_
    refine v_iconst C dX1_piece_17 rfl ic_1 ?_
    refine v_icmp_ne C dX1_piece_18 (tgt := 26) (by decide) rfl (fun c2 => ?_) (fun c2 => ?_)
    · have h := ifn c2 h
      refine v_aload_n C dX1_piece_26 rfl rfl 0 rfl ?_
      refine v_bipush C dX1_piece_27 rfl bi_33 ?_
      obtain ⟨r4, e3, h⟩ := bdS h
      refine v_callVi C yv_X1_isSign m_717 (c_X1_isSign e3) (Sub.whole hD _ _) ⟨_, _, _, _, _, wd_at sk_48, rfl⟩ (As := [.int 33]) rfl rfl (Nat.le_of_ble_eq_true rfl) ⟨Nat.le_trans (Nat.le_of_ble_eq_true rfl) hf0, Nat.le_trans (Nat.le_of_ble_eq_true rfl) hl0⟩ dX1_piece_29 rfl ?_
      refine v_if_eq C dX1_piece_32 (tgt := 66) (by decide) rfl (fun c5 => ?_) (fun c5 => ?_)
      · have h := ifp c5 h
        exact wF_X1_piece_66 C hD RET hrec_level hrR_level hrec_piece hrR_piece hf0 hl0 h
      · have h := ifn c5 h
        refine v_iload_n C dX1_piece_35 rfl rfl 2 rfl ?_
        refine v_bipush C dX1_piece_36 rfl bi_8 ?_
        refine v_icmp_ge C dX1_piece_38 (tgt := 66) (by decide) rfl (fun c6 => ?_) (fun c6 => ?_)
        · have h := ifp c6 h
          exact wF_X1_piece_66 C hD RET hrec_level hrR_level hrec_piece hrR_piece hf0 hl0 h
        · have h := ifn c6 h
          refine v_aload_n C dX1_piece_41 rfl rfl 0 rfl ?_
          obtain ⟨K8, e7, h⟩ := bdS h
          refine v_callVv C yv_X1_moveOn m_620 (c_X1_moveOn e7) (Sub.whole hD _ _) ⟨_, _, _, _, _, wd_at sk_48, rfl⟩ (As := []) rfl rfl (Nat.le_of_ble_eq_true rfl) ⟨Nat.le_trans (Nat.le_of_ble_eq_true rfl) hf0, Nat.le_trans (Nat.le_of_ble_eq_true rfl) hl0⟩ dX1_piece_42 rfl ?_
          refine v_aload_n C dX1_piece_45 rfl rfl 0 rfl ?_
          refine v_iload_n C dX1_piece_46 rfl rfl 1 rfl ?_
          refine v_iload_n C dX1_piece_47 rfl rfl 2 rfl ?_
          refine v_iconst C dX1_piece_48 rfl ic_1 ?_
          refine v_iadd C dX1_piece_49 rfl ?_
          obtain ⟨r11, K10, e9, h⟩ := bd2S h
          refine v_callVi C yv_X1_piece m_694 (hrec_piece e9) (Sub.whole hD _ _) ⟨_, _, _, _, _, wd_at sk_48, rfl⟩ (As := [.int a1, .int (a2 + 1)]) rfl rfl (Nat.le_of_ble_eq_true rfl) hrR_piece dX1_piece_50 rfl ?_
          refine v_if_ne C dX1_piece_53 (tgt := 58) (by decide) rfl (fun c12 => ?_) (fun c12 => ?_)
          · have h := ifn c12 h
            refine v_aload_n C dX1_piece_58 rfl rfl 0 rfl ?_
            refine v_bipush C dX1_piece_59 rfl bi_n33 ?_
            obtain ⟨K14, e13, h⟩ := bdS h
            refine v_callVv C yv_X1_write m_706 (c_X1_write e13) (Sub.whole hD _ _) ⟨_, _, _, _, _, wd_at sk_48, rfl⟩ (As := [.int (-33)]) rfl rfl (Nat.le_of_ble_eq_true rfl) ⟨Nat.le_trans (Nat.le_of_ble_eq_true rfl) hf0, Nat.le_trans (Nat.le_of_ble_eq_true rfl) hl0⟩ dX1_piece_61 rfl ?_
            refine v_iconst C dX1_piece_64 rfl ic_1 ?_
            obtain rfl := Option.some.inj h
            exact RET _ _ dX1_piece_65 (Or.inr rfl)
          · have h := ifp c12 h
            refine v_iconst C dX1_piece_56 rfl ic_0 ?_
            obtain rfl := Option.some.inj h
            exact RET _ _ dX1_piece_57 (Or.inl rfl)
    · have h := ifp c2 h
      refine v_aload_n C dX1_piece_21 rfl rfl 0 rfl ?_
      obtain ⟨r17, K16, e15, h⟩ := bd2S h
      refine v_callVi C yv_X1_name m_710 (c_X1_name e15) (Sub.whole hD _ _) ⟨_, _, _, _, _, wd_at sk_48, rfl⟩ (As := []) rfl rfl (Nat.le_of_ble_eq_true rfl) ⟨Nat.le_trans (Nat.le_of_ble_eq_true rfl) hf0, Nat.le_trans (Nat.le_of_ble_eq_true rfl) hl0⟩ dX1_piece_22 rfl ?_
      obtain ⟨b18, h⟩ := gdS h
      obtain rfl := Option.some.inj h
      exact RET _ _ dX1_piece_25 (z01S b18)
  · have h := ifp c1 h
    refine v_aload_n C dX1_piece_8 rfl rfl 0 rfl ?_
    obtain ⟨r21, K20, e19, h⟩ := bd2S h
    refine v_callVi C yv_X1_number m_698 (c_X1_number e19) (Sub.whole hD _ _) ⟨_, _, _, _, _, wd_at sk_48, rfl⟩ (As := []) rfl rfl (Nat.le_of_ble_eq_true rfl) ⟨Nat.le_trans (Nat.le_of_ble_eq_true rfl) hf0, Nat.le_trans (Nat.le_of_ble_eq_true rfl) hl0⟩ dX1_piece_9 rfl ?_
    obtain ⟨b22, h⟩ := gdS h
    obtain rfl := Option.some.inj h
    exact RET _ _ dX1_piece_12 (z01S b22)
def recK : Nat → Nat → Int32 → Int32 → Int32 → Mem → Option (Int32 × Mem)
  | 0, _, _, _, _, _ => none
  | n + 1, w, a, b, c, K => if w = 0 then F_X1_level_0 (fun a b c K => recK n 0 a b c K) (fun a b K => recK n 1 a b 0 K) a b c K else F_X1_piece_0 (fun a b c K => recK n 0 a b c K) (fun a b K => recK n 1 a b 0 K) a b K
set_option maxRecDepth 100000 in
theorem c_recK {l : Launch} {D : va_G} {cA : FieldType → ClassId} {X : Ex} {ad : Nat → Nat} : ∀ n : Nat, (∀ {a b c : Int32} {K : Mem} {r : Int32} {K' : Mem}, recK n 0 a b c K = some (r, K') → MI l D cA X yX1_level cX1_level 7 (some .boolean) (n + 4) (n * 26 + 86) [.ref (ad 48), .int a, .int b, .int c] (wd cA ad K 0 shsK) (wd cA ad K' 0 shsK) r) ∧ (∀ {a b : Int32} {K : Mem} {r : Int32} {K' : Mem}, recK n 1 a b 0 K = some (r, K') → MI l D cA X yX1_piece cX1_piece 3 (some .boolean) (n + 4) (n * 26 + 86) [.ref (ad 48), .int a, .int b] (wd cA ad K 0 shsK) (wd cA ad K' 0 shsK) r) := by
  intro n
  induction n with
  | zero =>
    refine ⟨?_, ?_⟩
    · intro a b c K r K' h
      cases (show (none : Option (Int32 × Mem)) = some (r, K') from h)
    · intro a b K r K' h
      cases (show (none : Option (Int32 × Mem)) = some (r, K') from h)
  | succ n ih =>
    obtain ⟨i0, i1⟩ := ih
    refine ⟨?_, ?_⟩
    · intro a b c K r K' h
      refine mZ_of (by decide +kernel) (Nat.le_of_ble_eq_true rfl) (fun G h1 h2 h3 h4 C hD RET => ?_)
      subst h1 h2 h3 h4
      exact wF_X1_level_0 (rec_level := (fun a b c K => recK n 0 a b c K)) (rec_piece := (fun a b K => recK n 1 a b 0 K)) C (fun K' => wd_D K' hD) RET (fun h => i0 h) ⟨by omega, by omega⟩ (fun h => i1 h) ⟨by omega, by omega⟩ (by omega) (by omega) h
    · intro a b K r K' h
      refine mZ_of (by decide +kernel) (Nat.le_of_ble_eq_true rfl) (fun G h1 h2 h3 h4 C hD RET => ?_)
      subst h1 h2 h3 h4
      exact wF_X1_piece_0 (rec_level := (fun a b c K => recK n 0 a b c K)) (rec_piece := (fun a b K => recK n 1 a b 0 K)) C (fun K' => wd_D K' hD) RET (fun h => i0 h) ⟨by omega, by omega⟩ (fun h => i1 h) ⟨by omega, by omega⟩ (by omega) (by omega) h
def C_X1_level (a : Int32) (b : Int32) (c : Int32) (K : Mem) : Option (Int32 × Mem) := recK 128 0 a b c K
theorem c_X1_level {l : Launch} {D : va_G} {cA : FieldType → ClassId} {X : Ex} {ad : Nat → Nat} {a b c : Int32} {K : Mem} {r : Int32} {K' : Mem} (h : C_X1_level a b c K = some (r, K')) : MI l D cA X yX1_level cX1_level 7 (some .boolean) 132 3414 [.ref (ad 48), .int a, .int b, .int c] (wd cA ad K 0 shsK) (wd cA ad K' 0 shsK) r := (c_recK 128).1 h
def C_X1_piece (a : Int32) (b : Int32) (K : Mem) : Option (Int32 × Mem) := recK 128 1 a b 0 K
theorem c_X1_piece {l : Launch} {D : va_G} {cA : FieldType → ClassId} {X : Ex} {ad : Nat → Nat} {a b : Int32} {K : Mem} {r : Int32} {K' : Mem} (h : C_X1_piece a b K = some (r, K')) : MI l D cA X yX1_piece cX1_piece 3 (some .boolean) 132 3414 [.ref (ad 48), .int a, .int b] (wd cA ad K 0 shsK) (wd cA ad K' 0 shsK) r := (c_recK 128).2 h
def F_X1_faultOfTape_0 (K : Mem) : Option (Int32 × Mem) :=
  nm (up K 48 2 0) fun K1 =>
  nm (up K1 48 3 0) fun K2 =>
  nm (up K2 48 5 0) fun K3 =>
  nm (up K3 48 7 0) fun K4 =>
  bd (C_X1_moveOn K4) fun K6 =>
  bd (C_X1_keyHere K6) fun r8 =>
  nm (up K6 48 4 r8) fun K9 =>
  if 0 ≤ (K9 48 4) then (
    bd (C_X1_moveOn K9) fun K12 =>
    bd2 (C_X1_level 0 0 0 K12) fun r15 K14 =>
    if r15 = 0 then (
      some (K14 48 6, K14)
    ) else (
      if (K14 48 5) = 0 then (
        some ((-1), K14)
      ) else (
        some (K14 48 6, K14)
      )
    )
  ) else (
    some (K9 48 6, K9)
  )
set_option maxRecDepth 100000 in
set_option maxHeartbeats 4000000 in
theorem wF_X1_faultOfTape_0 {G : Ctx} {ad : Nat → Nat} (C : Cx G RX1 cX1_faultOfTape 1 133 3440) (hD : ∀ K, va_D (gA G) (wd (gC G) ad K 0 shsK)) {res : (Int32 × Mem)} (RET : RI G cX1_faultOfTape 1 (wd (gC G) ad res.2 0 shsK) res.1) {K : Mem} (h : F_X1_faultOfTape_0 K = some res) : V G 1 (wd (gC G) ad K 0 shsK) 0 [(0, .ref (ad 48))] [] := by
  unfold F_X1_faultOfTape_0 at h
  refine v_aload_n C dX1_faultOfTape_0 rfl rfl 0 rfl ?_
  refine v_iconst C dX1_faultOfTape_1 rfl ic_0 ?_
  obtain ⟨K1, eK1, h⟩ := nmS h
  refine v_putf C hD dX1_faultOfTape_2 rfl fp_X1_19 sk_48 rfl eK1 ?_
  refine v_aload_n C dX1_faultOfTape_5 rfl rfl 0 rfl ?_
  refine v_iconst C dX1_faultOfTape_6 rfl ic_0 ?_
  obtain ⟨K2, eK2, h⟩ := nmS h
  refine v_putf C hD dX1_faultOfTape_7 rfl fp_X1_23 sk_48 rfl eK2 ?_
  refine v_aload_n C dX1_faultOfTape_10 rfl rfl 0 rfl ?_
  refine v_iconst C dX1_faultOfTape_11 rfl ic_0 ?_
  obtain ⟨K3, eK3, h⟩ := nmS h
  refine v_putf C hD dX1_faultOfTape_12 rfl fp_X1_26 sk_48 rfl eK3 ?_
  refine v_aload_n C dX1_faultOfTape_15 rfl rfl 0 rfl ?_
  refine v_iconst C dX1_faultOfTape_16 rfl ic_0 ?_
  obtain ⟨K4, eK4, h⟩ := nmS h
  refine v_putf C hD dX1_faultOfTape_17 rfl fp_X1_29 sk_48 rfl eK4 ?_
  refine v_aload_n C dX1_faultOfTape_20 rfl rfl 0 rfl ?_
  obtain ⟨K6, e5, h⟩ := bdS h
  refine v_callVv C yv_X1_moveOn m_620 (c_X1_moveOn e5) (Sub.whole hD _ _) ⟨_, _, _, _, _, wd_at sk_48, rfl⟩ (As := []) rfl rfl (Nat.le_of_ble_eq_true rfl) ⟨Nat.le_of_ble_eq_true rfl, Nat.le_of_ble_eq_true rfl⟩ dX1_faultOfTape_21 rfl ?_
  refine v_aload_n C dX1_faultOfTape_24 rfl rfl 0 rfl ?_
  refine v_aload_n C dX1_faultOfTape_25 rfl rfl 0 rfl ?_
  obtain ⟨r8, e7, h⟩ := bdS h
  refine v_callVi C yv_X1_keyHere m_631 (c_X1_keyHere e7) (Sub.whole hD _ _) ⟨_, _, _, _, _, wd_at sk_48, rfl⟩ (As := []) rfl rfl (Nat.le_of_ble_eq_true rfl) ⟨Nat.le_of_ble_eq_true rfl, Nat.le_of_ble_eq_true rfl⟩ dX1_faultOfTape_26 rfl ?_
  obtain ⟨K9, eK9, h⟩ := nmS h
  refine v_putf C hD dX1_faultOfTape_29 rfl fp_X1_39 sk_48 rfl eK9 ?_
  refine v_aload_n C dX1_faultOfTape_32 rfl rfl 0 rfl ?_
  refine v_getf C dX1_faultOfTape_33 rfl ff_X1_39 sk_48 rfl ?_
  refine v_if_ge C dX1_faultOfTape_36 (tgt := 44) (by decide) rfl (fun c10 => ?_) (fun c10 => ?_)
  · have h := ifp c10 h
    refine v_aload_n C dX1_faultOfTape_44 rfl rfl 0 rfl ?_
    obtain ⟨K12, e11, h⟩ := bdS h
    refine v_callVv C yv_X1_moveOn m_620 (c_X1_moveOn e11) (Sub.whole hD _ _) ⟨_, _, _, _, _, wd_at sk_48, rfl⟩ (As := []) rfl rfl (Nat.le_of_ble_eq_true rfl) ⟨Nat.le_of_ble_eq_true rfl, Nat.le_of_ble_eq_true rfl⟩ dX1_faultOfTape_45 rfl ?_
    refine v_aload_n C dX1_faultOfTape_48 rfl rfl 0 rfl ?_
    refine v_iconst C dX1_faultOfTape_49 rfl ic_0 ?_
    refine v_iconst C dX1_faultOfTape_50 rfl ic_0 ?_
    refine v_iconst C dX1_faultOfTape_51 rfl ic_0 ?_
    obtain ⟨r15, K14, e13, h⟩ := bd2S h
    refine v_callVi C yv_X1_level m_690 (c_X1_level e13) (Sub.whole hD _ _) ⟨_, _, _, _, _, wd_at sk_48, rfl⟩ (As := [.int 0, .int 0, .int 0]) rfl rfl (Nat.le_of_ble_eq_true rfl) ⟨Nat.le_of_ble_eq_true rfl, Nat.le_of_ble_eq_true rfl⟩ dX1_faultOfTape_52 rfl ?_
    refine v_if_eq C dX1_faultOfTape_55 (tgt := 69) (by decide) rfl (fun c16 => ?_) (fun c16 => ?_)
    · have h := ifp c16 h
      refine v_aload_n C dX1_faultOfTape_69 rfl rfl 0 rfl ?_
      refine v_getf C dX1_faultOfTape_70 rfl ff_X1_42 sk_48 rfl ?_
      obtain rfl := Option.some.inj h
      exact RET _ _ dX1_faultOfTape_73
    · have h := ifn c16 h
      refine v_aload_n C dX1_faultOfTape_58 rfl rfl 0 rfl ?_
      refine v_getf C dX1_faultOfTape_59 rfl ff_X1_26 sk_48 rfl ?_
      refine v_if_ne C dX1_faultOfTape_62 (tgt := 69) (by decide) rfl (fun c17 => ?_) (fun c17 => ?_)
      · have h := ifn c17 h
        refine v_aload_n C dX1_faultOfTape_69 rfl rfl 0 rfl ?_
        refine v_getf C dX1_faultOfTape_70 rfl ff_X1_42 sk_48 rfl ?_
        obtain rfl := Option.some.inj h
        exact RET _ _ dX1_faultOfTape_73
      · have h := ifp c17 h
        refine v_iconst C dX1_faultOfTape_65 rfl ic_n1 ?_
        refine v_goto C dX1_faultOfTape_66 (tgt := 73) (by decide) ?_
        obtain rfl := Option.some.inj h
        exact RET _ _ dX1_faultOfTape_73
  · have h := ifn c10 h
    refine v_aload_n C dX1_faultOfTape_39 rfl rfl 0 rfl ?_
    refine v_getf C dX1_faultOfTape_40 rfl ff_X1_42 sk_48 rfl ?_
    obtain rfl := Option.some.inj h
    exact RET _ _ dX1_faultOfTape_43
def C_X1_faultOfTape (K : Mem) : Option (Int32 × Mem) := F_X1_faultOfTape_0 K
set_option maxRecDepth 100000 in
theorem c_X1_faultOfTape {l : Launch} {D : va_G} {cA : FieldType → ClassId} {X : Ex} {ad : Nat → Nat} {K : Mem} {r : Int32} {K' : Mem} (h : C_X1_faultOfTape K = some (r, K')) : MI l D cA X yX1_faultOfTape cX1_faultOfTape 1 (some .int) 133 3440 [.ref (ad 48)] (wd cA ad K 0 shsK) (wd cA ad K' 0 shsK) r :=
  mI_of (by decide +kernel) (Nat.le_of_ble_eq_true rfl) (fun G h1 h2 h3 h4 C hD RET => by subst h1 h2 h3 h4; exact wF_X1_faultOfTape_0 C (fun K' => wd_D K' hD) RET  h)
def F_X8_text_0 (K : Mem) : Option (Int32 × Mem) :=
  bd2 (C_X1_faultOfTape K) fun r3 K2 =>
  nm (up K2 46 1 0) fun K4 =>
  if r3 < 0 then (
    if (K4 21 13) < 14 then (
      bd (C_X5_store (K4 21 13) K4) fun K8 =>
      bd2 (C_X6_addText 21 (K8 48 4) K8) fun r11 K10 =>
      some (r11, K10)
    ) else (
      some ((-1000000003), K4)
    )
  ) else (
    some ((-100) - r3, K4)
  )
set_option maxRecDepth 100000 in
set_option maxHeartbeats 4000000 in
theorem wF_X8_text_0 {G : Ctx} {ad : Nat → Nat} (C : Cx G RX8 cX8_text 2 134 3460) (hD : ∀ K, va_D (gA G) (wd (gC G) ad K 0 shsK)) {res : (Int32 × Mem)} (RET : RI G cX8_text 2 (wd (gC G) ad res.2 0 shsK) res.1) {K : Mem} (h : F_X8_text_0 K = some res) : V G 2 (wd (gC G) ad K 0 shsK) 0 [(0, .ref (ad 0))] [] := by
  unfold F_X8_text_0 at h
  refine v_aload_n C dX8_text_0 rfl rfl 0 rfl ?_
  refine v_getr C dX8_text_1 rfl ff_X8_50 sk_0 rfl ?_
  obtain ⟨r3, K2, e1, h⟩ := bd2S h
  refine v_callVi C yv_X1_faultOfTape m_616 (c_X1_faultOfTape e1) (Sub.whole hD _ _) ⟨_, _, _, _, _, wd_at sk_48, rfl⟩ (As := []) rfl rfl (Nat.le_of_ble_eq_true rfl) ⟨Nat.le_of_ble_eq_true rfl, Nat.le_of_ble_eq_true rfl⟩ dX8_text_4 rfl ?_
  refine v_istore_n C dX8_text_7 rfl rfl (by decide) (L' := [(1, .int r3), (0, .ref (ad 0))]) rfl ?_
  refine v_aload_n C dX8_text_8 rfl rfl 1 rfl ?_
  refine v_getr C dX8_text_9 rfl ff_X8_41 sk_0 rfl ?_
  refine v_iconst C dX8_text_12 rfl ic_0 ?_
  obtain ⟨K4, eK4, h⟩ := nmS h
  refine v_putf C hD dX8_text_13 rfl fp_X8_208 sk_46 rfl eK4 ?_
  refine v_iload_n C dX8_text_16 rfl rfl 0 rfl ?_
  refine v_if_lt C dX8_text_17 (tgt := 25) (by decide) rfl (fun c5 => ?_) (fun c5 => ?_)
  · have h := ifp c5 h
    refine v_aload_n C dX8_text_25 rfl rfl 1 rfl ?_
    refine v_getr C dX8_text_26 rfl ff_X8_21 sk_0 rfl ?_
    refine v_getf C dX8_text_29 rfl ff_X8_216 sk_21 rfl ?_
    refine v_bipush C dX8_text_32 rfl bi_14 ?_
    refine v_icmp_lt C dX8_text_34 (tgt := 40) (by decide) rfl (fun c6 => ?_) (fun c6 => ?_)
    · have h := ifp c6 h
      refine v_aload_n C dX8_text_40 rfl rfl 1 rfl ?_
      refine v_getr C dX8_text_41 rfl ff_X8_10 sk_0 rfl ?_
      refine v_aload_n C dX8_text_44 rfl rfl 1 rfl ?_
      refine v_getr C dX8_text_45 rfl ff_X8_21 sk_0 rfl ?_
      refine v_getf C dX8_text_48 rfl ff_X8_216 sk_21 rfl ?_
      refine v_aload_n C dX8_text_51 rfl rfl 1 rfl ?_
      refine v_getr C dX8_text_52 rfl ff_X8_50 sk_0 rfl ?_
      obtain ⟨K8, e7, h⟩ := bdS h
      refine v_callVv C yv_X5_store m_724 (c_X5_store e7) (Sub.whole hD _ _) ⟨_, _, _, _, _, wd_at sk_1, rfl⟩ (As := [.int (K4 21 13), .ref (ad 48)]) rfl rfl (Nat.le_of_ble_eq_true rfl) ⟨Nat.le_of_ble_eq_true rfl, Nat.le_of_ble_eq_true rfl⟩ dX8_text_55 rfl ?_
      refine v_aload_n C dX8_text_58 rfl rfl 1 rfl ?_
      refine v_getr C dX8_text_59 rfl ff_X8_21 sk_0 rfl ?_
      refine v_aload_n C dX8_text_62 rfl rfl 1 rfl ?_
      refine v_getr C dX8_text_63 rfl ff_X8_50 sk_0 rfl ?_
      refine v_getf C dX8_text_66 rfl ff_X8_222 sk_48 rfl ?_
      obtain ⟨r11, K10, e9, h⟩ := bd2S h
      refine v_callVi C yv_X6_addText m_729 (c_X6_addText isTown_21 e9) (Sub.whole hD _ _) ⟨_, _, _, _, _, wd_at sk_21, rfl⟩ (As := [.int (K8 48 4)]) rfl rfl (Nat.le_of_ble_eq_true rfl) ⟨Nat.le_of_ble_eq_true rfl, Nat.le_of_ble_eq_true rfl⟩ dX8_text_69 rfl ?_
      obtain rfl := Option.some.inj h
      exact RET _ _ dX8_text_72
    · have h := ifn c6 h
      refine v_ldc C dX8_text_37 rfl m_295 ?_
      obtain rfl := Option.some.inj h
      exact RET _ _ dX8_text_39
  · have h := ifn c5 h
    refine v_bipush C dX8_text_20 rfl bi_n100 ?_
    refine v_iload_n C dX8_text_22 rfl rfl 0 rfl ?_
    refine v_isub C dX8_text_23 rfl ?_
    obtain rfl := Option.some.inj h
    exact RET _ _ dX8_text_24
def C_X8_text (K : Mem) : Option (Int32 × Mem) := F_X8_text_0 K
set_option maxRecDepth 100000 in
theorem c_X8_text {l : Launch} {D : va_G} {cA : FieldType → ClassId} {X : Ex} {ad : Nat → Nat} {K : Mem} {r : Int32} {K' : Mem} (h : C_X8_text K = some (r, K')) : MI l D cA X yX8_text cX8_text 2 (some .int) 134 3460 [.ref (ad 0)] (wd cA ad K 0 shsK) (wd cA ad K' 0 shsK) r :=
  mI_of (by decide +kernel) (Nat.le_of_ble_eq_true rfl) (fun G h1 h2 h3 h4 C hD RET => by subst h1 h2 h3 h4; exact wF_X8_text_0 C (fun K' => wd_D K' hD) RET  h)
