def F_J6_bitCount_0f7a4_0 (a0 : Int32) : Option Int32 :=
  nm (a0 - ((jushr a0 1) &&& 1431655765)) fun v1 =>
  nm ((v1 &&& 858993459) + ((jushr v1 2) &&& 858993459)) fun v2 =>
  nm ((v2 + (jushr v2 4)) &&& 252645135) fun v3 =>
  nm (v3 + (jushr v3 8)) fun v4 =>
  nm (v4 + (jushr v4 16)) fun v5 =>
  some (v5 &&& 63)
set_option maxRecDepth 100000 in
set_option maxHeartbeats 4000000 in
theorem wF_J6_bitCount_0f7a4_0 {G : Ctx} {w : va_W} (C : Cx G RJ6 cJ6_bitCount_0f7a4 1 0 0) (hD : va_D (gA G) w) {res : Int32} (RET : RI G cJ6_bitCount_0f7a4 1 w res) {a0 : Int32} (h : F_J6_bitCount_0f7a4_0 a0 = some res) : V G 1 w 0 [(0, .int a0)] [] := by
  unfold F_J6_bitCount_0f7a4_0 at h
  refine v_iload_n C dJ6_bitCount_0f7a4_0 rfl rfl 0 rfl ?_
  refine v_iload_n C dJ6_bitCount_0f7a4_1 rfl rfl 0 rfl ?_
  refine v_iconst C dJ6_bitCount_0f7a4_2 rfl ic_1 ?_
  refine v_iushr C dJ6_bitCount_0f7a4_3 rfl ?_
  refine v_ldcw C dJ6_bitCount_0f7a4_4 rfl m_412 ?_
  refine v_iand C dJ6_bitCount_0f7a4_7 rfl ?_
  refine v_isub C dJ6_bitCount_0f7a4_8 rfl ?_
  obtain ⟨v1, ev1, h⟩ := nmS h
  refine v_nmi ev1 ?_
  refine v_istore_n C dJ6_bitCount_0f7a4_9 rfl rfl (by decide) (L' := [(0, .int v1)]) rfl ?_
  refine v_iload_n C dJ6_bitCount_0f7a4_10 rfl rfl 0 rfl ?_
  refine v_ldcw C dJ6_bitCount_0f7a4_11 rfl m_413 ?_
  refine v_iand C dJ6_bitCount_0f7a4_14 rfl ?_
  refine v_iload_n C dJ6_bitCount_0f7a4_15 rfl rfl 0 rfl ?_
  refine v_iconst C dJ6_bitCount_0f7a4_16 rfl ic_2 ?_
  refine v_iushr C dJ6_bitCount_0f7a4_17 rfl ?_
  refine v_ldcw C dJ6_bitCount_0f7a4_18 rfl m_413 ?_
  refine v_iand C dJ6_bitCount_0f7a4_21 rfl ?_
  refine v_iadd C dJ6_bitCount_0f7a4_22 rfl ?_
  obtain ⟨v2, ev2, h⟩ := nmS h
  refine v_nmi ev2 ?_
  refine v_istore_n C dJ6_bitCount_0f7a4_23 rfl rfl (by decide) (L' := [(0, .int v2)]) rfl ?_
  refine v_iload_n C dJ6_bitCount_0f7a4_24 rfl rfl 0 rfl ?_
  refine v_iload_n C dJ6_bitCount_0f7a4_25 rfl rfl 0 rfl ?_
  refine v_iconst C dJ6_bitCount_0f7a4_26 rfl ic_4 ?_
  refine v_iushr C dJ6_bitCount_0f7a4_27 rfl ?_
  refine v_iadd C dJ6_bitCount_0f7a4_28 rfl ?_
  refine v_ldcw C dJ6_bitCount_0f7a4_29 rfl m_414 ?_
  refine v_iand C dJ6_bitCount_0f7a4_32 rfl ?_
  obtain ⟨v3, ev3, h⟩ := nmS h
  refine v_nmi ev3 ?_
  refine v_istore_n C dJ6_bitCount_0f7a4_33 rfl rfl (by decide) (L' := [(0, .int v3)]) rfl ?_
  refine v_iload_n C dJ6_bitCount_0f7a4_34 rfl rfl 0 rfl ?_
  refine v_iload_n C dJ6_bitCount_0f7a4_35 rfl rfl 0 rfl ?_
  refine v_bipush C dJ6_bitCount_0f7a4_36 rfl bi_8 ?_
  refine v_iushr C dJ6_bitCount_0f7a4_38 rfl ?_
  refine v_iadd C dJ6_bitCount_0f7a4_39 rfl ?_
  obtain ⟨v4, ev4, h⟩ := nmS h
  refine v_nmi ev4 ?_
  refine v_istore_n C dJ6_bitCount_0f7a4_40 rfl rfl (by decide) (L' := [(0, .int v4)]) rfl ?_
  refine v_iload_n C dJ6_bitCount_0f7a4_41 rfl rfl 0 rfl ?_
  refine v_iload_n C dJ6_bitCount_0f7a4_42 rfl rfl 0 rfl ?_
  refine v_bipush C dJ6_bitCount_0f7a4_43 rfl bi_16 ?_
  refine v_iushr C dJ6_bitCount_0f7a4_45 rfl ?_
  refine v_iadd C dJ6_bitCount_0f7a4_46 rfl ?_
  obtain ⟨v5, ev5, h⟩ := nmS h
  refine v_nmi ev5 ?_
  refine v_istore_n C dJ6_bitCount_0f7a4_47 rfl rfl (by decide) (L' := [(0, .int v5)]) rfl ?_
  refine v_iload_n C dJ6_bitCount_0f7a4_48 rfl rfl 0 rfl ?_
  refine v_bipush C dJ6_bitCount_0f7a4_49 rfl bi_63 ?_
  refine v_iand C dJ6_bitCount_0f7a4_51 rfl ?_
  obtain rfl := Option.some.inj h
  exact RET _ _ dJ6_bitCount_0f7a4_52
def C_J6_bitCount_0f7a4 (a0 : Int32) : Option Int32 := F_J6_bitCount_0f7a4_0 a0
set_option maxRecDepth 100000 in
theorem c_J6_bitCount_0f7a4 {l : Launch} {D : va_G} {cA : FieldType → ClassId} {X : Ex} {w : va_W} {a0 : Int32} {r : Int32} (h : C_J6_bitCount_0f7a4 a0 = some r) : MI l D cA X yJ6_bitCount_0f7a4 cJ6_bitCount_0f7a4 1 (some .int) 0 0 [.int a0] w w r :=
  mI_of (by decide +kernel) (Nat.le_of_ble_eq_true rfl) (fun G h1 h2 h3 h4 C hD RET => by subst h1 h2 h3 h4; exact wF_J6_bitCount_0f7a4_0 C hD RET  h)
def F_X6_heldWithout_10 (k10 : Int32 → Int32 → Int32 → Int32 → Int32 → Option Int32) (q : Nat) (K : Mem) (a1 : Int32) (a2 : Int32) (a3 : Int32) (a4 : Int32) (a5 : Int32) : Option Int32 :=
  if (K q 7) ≤ a5 then (
    some a4
  ) else (
    bd (C_X6_holdingOn q K a5 a3) fun r3 =>
    if a5 = a1 then (
      nm (r3 &&& (a2 ^^^ (-1))) fun v9 =>
      bd (C_J6_bitCount_0f7a4 v9) fun r11 =>
      nm (a4 + r11) fun v12 =>
      nm (a5 + 1) fun v13 =>
      k10 a1 a2 v9 v12 v13
    ) else (
      bd (C_J6_bitCount_0f7a4 r3) fun r6 =>
      nm (a4 + r6) fun v7 =>
      nm (a5 + 1) fun v8 =>
      k10 a1 a2 r3 v7 v8
    )
  )
def L_X6_heldWithout_10 (q : Nat) (K : Mem) : Nat → Int32 → Int32 → Int32 → Int32 → Int32 → Option Int32
  | 0, _, _, _, _, _ => none
  | n + 1, a1, a2, a3, a4, a5 => F_X6_heldWithout_10 (fun a1 a2 a3 a4 a5 => L_X6_heldWithout_10 q K n a1 a2 a3 a4 a5) q K a1 a2 a3 a4 a5
set_option maxRecDepth 100000 in
set_option maxHeartbeats 4000000 in
theorem wF_X6_heldWithout_10 {G : Ctx} {ad : Nat → Nat} {q : Nat} {K : Mem} {k10 : Int32 → Int32 → Int32 → Int32 → Int32 → Option Int32} (C : Cx G RX6 cX6_heldWithout 6 3 63) (hD : ∀ K, va_D (gA G) (wd (gC G) ad K 0 shsK)) {res : Int32} (RET : RI G cX6_heldWithout 6 (wd (gC G) ad K 0 shsK) res) (hk10 : ∀ {a1 : Int32} {a2 : Int32} {a3 : Int32} {a4 : Int32} {a5 : Int32} , k10 a1 a2 a3 a4 a5 = some res → V G 6 (wd (gC G) ad K 0 shsK) 10 [(0, .ref (ad q)), (1, .int a1), (2, .int a2), (3, .int a3), (4, .int a4), (5, .int a5)] []) (hq : isTown q) {a1 : Int32} {a2 : Int32} {a3 : Int32} {a4 : Int32} {a5 : Int32} (h : F_X6_heldWithout_10 k10 q K a1 a2 a3 a4 a5 = some res) : V G 6 (wd (gC G) ad K 0 shsK) 10 [(0, .ref (ad q)), (1, .int a1), (2, .int a2), (3, .int a3), (4, .int a4), (5, .int a5)] [] := by
  unfold F_X6_heldWithout_10 at h
  refine v_iload C dX6_heldWithout_10 rfl 5 rfl ?_
  refine v_aload_n C dX6_heldWithout_12 rfl rfl 0 rfl ?_
  refine v_getf C dX6_heldWithout_13 rfl ff_X6_44 (tk_0 hq) rfl ?_
  refine v_icmp_ge C dX6_heldWithout_16 (tgt := 54) (by decide) rfl (fun c1 => ?_) (fun c1 => ?_)
  · have h := ifp c1 h
    refine v_iload C dX6_heldWithout_54 rfl 4 rfl ?_
    obtain rfl := Option.some.inj h
    exact RET _ _ dX6_heldWithout_56
  · have h := ifn c1 h
    refine v_aload_n C dX6_heldWithout_19 rfl rfl 0 rfl ?_
    refine v_iload C dX6_heldWithout_20 rfl 5 rfl ?_
    refine v_iload_n C dX6_heldWithout_22 rfl rfl 3 rfl ?_
    obtain ⟨r3, e2, h⟩ := bdS h
    refine v_callVi C yv_X6_holdingOn m_313 (c_X6_holdingOn hq e2) (Sub.whole hD _ _) ⟨_, _, _, _, _, wd_at (tk_0 hq), rfl⟩ (As := [.int a5, .int a3]) rfl rfl (Nat.le_of_ble_eq_true rfl) ⟨Nat.le_of_ble_eq_true rfl, Nat.le_of_ble_eq_true rfl⟩ dX6_heldWithout_23 rfl ?_
    refine v_istore_n C dX6_heldWithout_26 rfl rfl (by decide) (L' := [(3, .int r3), (0, .ref (ad q)), (1, .int a1), (2, .int a2), (4, .int a4), (5, .int a5)]) rfl ?_
    refine v_iload C dX6_heldWithout_27 rfl 5 rfl ?_
    refine v_iload_n C dX6_heldWithout_29 rfl rfl 2 rfl ?_
    refine v_icmp_ne C dX6_heldWithout_30 (tgt := 39) (by decide) rfl (fun c4 => ?_) (fun c4 => ?_)
    · have h := ifn c4 h
      refine v_iload C dX6_heldWithout_39 rfl 4 rfl ?_
      refine v_iload_n C dX6_heldWithout_41 rfl rfl 0 rfl ?_
      obtain ⟨r6, e5, h⟩ := bdS h
      refine v_callSi C ys_J6_bitCount_0f7a4 m_409 (c_J6_bitCount_0f7a4 e5) (Sub.whole hD _ _) (As := [.int r3]) rfl rfl (Nat.le_of_ble_eq_true rfl) ⟨Nat.le_of_ble_eq_true rfl, Nat.le_of_ble_eq_true rfl⟩ dX6_heldWithout_42 rfl ?_
      refine v_iadd C dX6_heldWithout_45 rfl ?_
      obtain ⟨v7, ev7, h⟩ := nmS h
      refine v_nmi ev7 ?_
      refine v_istore C dX6_heldWithout_46 rfl (by decide) (L' := [(4, .int v7), (3, .int r3), (0, .ref (ad q)), (1, .int a1), (2, .int a2), (5, .int a5)]) rfl ?_
      obtain ⟨v8, ev8, h⟩ := nmS h
      refine v_iinc C dX6_heldWithout_48 rfl 5 rfl (v := v8) (by rw [ev8]; rfl) (by decide) (L' := [(5, .int v8), (4, .int v7), (3, .int r3), (0, .ref (ad q)), (1, .int a1), (2, .int a2)]) rfl ?_
      refine v_goto C dX6_heldWithout_51 (tgt := 10) (by decide) ?_
      refine v_sub [3, 4, 5, 2, 1, 0] rfl ?_
      exact hk10 h
    · have h := ifp c4 h
      refine v_iload_n C dX6_heldWithout_33 rfl rfl 0 rfl ?_
      refine v_iload_n C dX6_heldWithout_34 rfl rfl 3 rfl ?_
      refine v_iconst C dX6_heldWithout_35 rfl ic_n1 ?_
      refine v_ixor C dX6_heldWithout_36 rfl ?_
      refine v_iand C dX6_heldWithout_37 rfl ?_
      obtain ⟨v9, ev9, h⟩ := nmS h
      refine v_nmi ev9 ?_
      refine v_istore_n C dX6_heldWithout_38 rfl rfl (by decide) (L' := [(3, .int v9), (0, .ref (ad q)), (1, .int a1), (2, .int a2), (4, .int a4), (5, .int a5)]) rfl ?_
      refine v_iload C dX6_heldWithout_39 rfl 4 rfl ?_
      refine v_iload_n C dX6_heldWithout_41 rfl rfl 0 rfl ?_
      obtain ⟨r11, e10, h⟩ := bdS h
      refine v_callSi C ys_J6_bitCount_0f7a4 m_409 (c_J6_bitCount_0f7a4 e10) (Sub.whole hD _ _) (As := [.int v9]) rfl rfl (Nat.le_of_ble_eq_true rfl) ⟨Nat.le_of_ble_eq_true rfl, Nat.le_of_ble_eq_true rfl⟩ dX6_heldWithout_42 rfl ?_
      refine v_iadd C dX6_heldWithout_45 rfl ?_
      obtain ⟨v12, ev12, h⟩ := nmS h
      refine v_nmi ev12 ?_
      refine v_istore C dX6_heldWithout_46 rfl (by decide) (L' := [(4, .int v12), (3, .int v9), (0, .ref (ad q)), (1, .int a1), (2, .int a2), (5, .int a5)]) rfl ?_
      obtain ⟨v13, ev13, h⟩ := nmS h
      refine v_iinc C dX6_heldWithout_48 rfl 5 rfl (v := v13) (by rw [ev13]; rfl) (by decide) (L' := [(5, .int v13), (4, .int v12), (3, .int v9), (0, .ref (ad q)), (1, .int a1), (2, .int a2)]) rfl ?_
      refine v_goto C dX6_heldWithout_51 (tgt := 10) (by decide) ?_
      refine v_sub [3, 4, 5, 2, 1, 0] rfl ?_
      exact hk10 h
theorem wL_X6_heldWithout_10 {G : Ctx} {ad : Nat → Nat} {q : Nat} {K : Mem} (C : Cx G RX6 cX6_heldWithout 6 3 63) (hD : ∀ K, va_D (gA G) (wd (gC G) ad K 0 shsK)) {res : Int32} (RET : RI G cX6_heldWithout 6 (wd (gC G) ad K 0 shsK) res) (hq : isTown q) : ∀ (n : Nat) {a1 : Int32} {a2 : Int32} {a3 : Int32} {a4 : Int32} {a5 : Int32} (h : L_X6_heldWithout_10 q K n a1 a2 a3 a4 a5 = some res), V G 6 (wd (gC G) ad K 0 shsK) 10 [(0, .ref (ad q)), (1, .int a1), (2, .int a2), (3, .int a3), (4, .int a4), (5, .int a5)] [] := by
  intro n
  induction n with
  | zero =>
    intro a1 a2 a3 a4 a5 h
    cases (show (none : Option Int32) = some res from h)
  | succ n ih =>
    intro a1 a2 a3 a4 a5 h
    exact wF_X6_heldWithout_10 (k10 := fun a1 a2 a3 a4 a5 => L_X6_heldWithout_10 q K n a1 a2 a3 a4 a5) C hD RET (fun h => ih h) hq h
def F_X6_heldWithout_0 (q : Nat) (K : Mem) (a1 : Int32) (a2 : Int32) : Option Int32 :=
  L_X6_heldWithout_10 q K FU a1 a2 255 0 0
set_option maxRecDepth 100000 in
set_option maxHeartbeats 4000000 in
theorem wF_X6_heldWithout_0 {G : Ctx} {ad : Nat → Nat} {q : Nat} {K : Mem} (C : Cx G RX6 cX6_heldWithout 6 3 63) (hD : ∀ K, va_D (gA G) (wd (gC G) ad K 0 shsK)) {res : Int32} (RET : RI G cX6_heldWithout 6 (wd (gC G) ad K 0 shsK) res) (hq : isTown q) {a1 : Int32} {a2 : Int32} (h : F_X6_heldWithout_0 q K a1 a2 = some res) : V G 6 (wd (gC G) ad K 0 shsK) 0 [(0, .ref (ad q)), (1, .int a1), (2, .int a2)] [] := by
  unfold F_X6_heldWithout_0 at h
  refine v_sipush C dX6_heldWithout_0 rfl si_255 ?_
  refine v_istore_n C dX6_heldWithout_3 rfl rfl (by decide) (L' := [(3, .int 255), (0, .ref (ad q)), (1, .int a1), (2, .int a2)]) rfl ?_
  refine v_iconst C dX6_heldWithout_4 rfl ic_0 ?_
  refine v_istore C dX6_heldWithout_5 rfl (by decide) (L' := [(4, .int 0), (3, .int 255), (0, .ref (ad q)), (1, .int a1), (2, .int a2)]) rfl ?_
  refine v_iconst C dX6_heldWithout_7 rfl ic_0 ?_
  refine v_istore C dX6_heldWithout_8 rfl (by decide) (L' := [(5, .int 0), (4, .int 0), (3, .int 255), (0, .ref (ad q)), (1, .int a1), (2, .int a2)]) rfl ?_
  refine v_sub [3, 4, 5, 2, 1, 0] rfl ?_
  exact wL_X6_heldWithout_10 C hD RET hq FU h
def C_X6_heldWithout (q : Nat) (K : Mem) (a1 : Int32) (a2 : Int32) : Option Int32 := F_X6_heldWithout_0 q K a1 a2
set_option maxRecDepth 100000 in
theorem c_X6_heldWithout {l : Launch} {D : va_G} {cA : FieldType → ClassId} {X : Ex} {ad : Nat → Nat} {q : Nat} (hq : isTown q) {a1 : Int32} {a2 : Int32} {K : Mem} {r : Int32} (h : C_X6_heldWithout q K a1 a2 = some r) : MI l D cA X yX6_heldWithout cX6_heldWithout 6 (some .int) 3 63 [.ref (ad q), .int a1, .int a2] (wd cA ad K 0 shsK) (wd cA ad K 0 shsK) r :=
  mI_of (by decide +kernel) (Nat.le_of_ble_eq_true rfl) (fun G h1 h2 h3 h4 C hD RET => by subst h1 h2 h3 h4; exact wF_X6_heldWithout_0 C (fun K' => wd_D K' hD) RET hq h)
def F_X6_held_0 (q : Nat) (K : Mem) : Option Int32 :=
  bd (C_X6_heldWithout q K 0 0) fun r2 =>
  some r2
set_option maxRecDepth 100000 in
set_option maxHeartbeats 4000000 in
theorem wF_X6_held_0 {G : Ctx} {ad : Nat → Nat} {q : Nat} {K : Mem} (C : Cx G RX6 cX6_held 1 4 88) (hD : ∀ K, va_D (gA G) (wd (gC G) ad K 0 shsK)) {res : Int32} (RET : RI G cX6_held 1 (wd (gC G) ad K 0 shsK) res) (hq : isTown q) (h : F_X6_held_0 q K = some res) : V G 1 (wd (gC G) ad K 0 shsK) 0 [(0, .ref (ad q))] [] := by
  unfold F_X6_held_0 at h
  refine v_aload_n C dX6_held_0 rfl rfl 0 rfl ?_
  refine v_iconst C dX6_held_1 rfl ic_0 ?_
  refine v_iconst C dX6_held_2 rfl ic_0 ?_
  obtain ⟨r2, e1, h⟩ := bdS h
  refine v_callVi C yv_X6_heldWithout m_405 (c_X6_heldWithout hq e1) (Sub.whole hD _ _) ⟨_, _, _, _, _, wd_at (tk_0 hq), rfl⟩ (As := [.int 0, .int 0]) rfl rfl (Nat.le_of_ble_eq_true rfl) ⟨Nat.le_of_ble_eq_true rfl, Nat.le_of_ble_eq_true rfl⟩ dX6_held_3 rfl ?_
  obtain rfl := Option.some.inj h
  exact RET _ _ dX6_held_6
def C_X6_held (q : Nat) (K : Mem) : Option Int32 := F_X6_held_0 q K
set_option maxRecDepth 100000 in
theorem c_X6_held {l : Launch} {D : va_G} {cA : FieldType → ClassId} {X : Ex} {ad : Nat → Nat} {q : Nat} (hq : isTown q) {K : Mem} {r : Int32} (h : C_X6_held q K = some r) : MI l D cA X yX6_held cX6_held 1 (some .int) 4 88 [.ref (ad q)] (wd cA ad K 0 shsK) (wd cA ad K 0 shsK) r :=
  mI_of (by decide +kernel) (Nat.le_of_ble_eq_true rfl) (fun G h1 h2 h3 h4 C hD RET => by subst h1 h2 h3 h4; exact wF_X6_held_0 C (fun K' => wd_D K' hD) RET hq h)
def F_X6_lostLoops_4 (k4 : Int32 → Int32 → Option Int32) (q : Nat) (K : Mem) (a1 : Int32) (a2 : Int32) : Option Int32 :=
  if (K q 7) ≤ a2 then (
    some a1
  ) else (
    gd (inb a2 12) <|
    bd (C_J6_bitCount_0f7a4 (K (q + 4) (Int32.toNatClampNeg a2))) fun r4 =>
    nm (a1 + r4) fun v5 =>
    nm (a2 + 1) fun v6 =>
    k4 v5 v6
  )
def L_X6_lostLoops_4 (q : Nat) (K : Mem) : Nat → Int32 → Int32 → Option Int32
  | 0, _, _ => none
  | n + 1, a1, a2 => F_X6_lostLoops_4 (fun a1 a2 => L_X6_lostLoops_4 q K n a1 a2) q K a1 a2
set_option maxRecDepth 100000 in
set_option maxHeartbeats 4000000 in
theorem wF_X6_lostLoops_4 {G : Ctx} {ad : Nat → Nat} {q : Nat} {K : Mem} {k4 : Int32 → Int32 → Option Int32} (C : Cx G RX6 cX6_lostLoops 3 1 20) (hD : ∀ K, va_D (gA G) (wd (gC G) ad K 0 shsK)) {res : Int32} (RET : RI G cX6_lostLoops 3 (wd (gC G) ad K 0 shsK) res) (hk4 : ∀ {a1 : Int32} {a2 : Int32} , k4 a1 a2 = some res → V G 3 (wd (gC G) ad K 0 shsK) 4 [(0, .ref (ad q)), (1, .int a1), (2, .int a2)] []) (hq : isTown q) {a1 : Int32} {a2 : Int32} (h : F_X6_lostLoops_4 k4 q K a1 a2 = some res) : V G 3 (wd (gC G) ad K 0 shsK) 4 [(0, .ref (ad q)), (1, .int a1), (2, .int a2)] [] := by
  unfold F_X6_lostLoops_4 at h
  refine v_iload_n C dX6_lostLoops_4 rfl rfl 2 rfl ?_
  refine v_aload_n C dX6_lostLoops_5 rfl rfl 0 rfl ?_
  refine v_getf C dX6_lostLoops_6 rfl ff_X6_44 (tk_0 hq) rfl ?_
  refine v_icmp_ge C dX6_lostLoops_9 (tgt := 30) (by decide) rfl (fun c1 => ?_) (fun c1 => ?_)
  · have h := ifp c1 h
    refine v_iload_n C dX6_lostLoops_30 rfl rfl 1 rfl ?_
    obtain rfl := Option.some.inj h
    exact RET _ _ dX6_lostLoops_31
  · have h := ifn c1 h
    refine v_iload_n C dX6_lostLoops_12 rfl rfl 1 rfl ?_
    refine v_aload_n C dX6_lostLoops_13 rfl rfl 0 rfl ?_
    refine v_getr C dX6_lostLoops_14 rfl ff_X6_21 (tk_0 hq) rfl ?_
    refine v_iload_n C dX6_lostLoops_17 rfl rfl 2 rfl ?_
    obtain ⟨b2, h⟩ := gdS h
    refine v_iald C dX6_lostLoops_18 rfl (tk_4 hq) b2 ?_
    obtain ⟨r4, e3, h⟩ := bdS h
    refine v_callSi C ys_J6_bitCount_0f7a4 m_409 (c_J6_bitCount_0f7a4 e3) (Sub.whole hD _ _) (As := [.int (K (q + 4) (Int32.toNatClampNeg a2))]) rfl rfl (Nat.le_of_ble_eq_true rfl) ⟨Nat.le_of_ble_eq_true rfl, Nat.le_of_ble_eq_true rfl⟩ dX6_lostLoops_19 rfl ?_
    refine v_iadd C dX6_lostLoops_22 rfl ?_
    obtain ⟨v5, ev5, h⟩ := nmS h
    refine v_nmi ev5 ?_
    refine v_istore_n C dX6_lostLoops_23 rfl rfl (by decide) (L' := [(1, .int v5), (0, .ref (ad q)), (2, .int a2)]) rfl ?_
    obtain ⟨v6, ev6, h⟩ := nmS h
    refine v_iinc C dX6_lostLoops_24 rfl 2 rfl (v := v6) (by rw [ev6]; rfl) (by decide) (L' := [(2, .int v6), (1, .int v5), (0, .ref (ad q))]) rfl ?_
    refine v_goto C dX6_lostLoops_27 (tgt := 4) (by decide) ?_
    refine v_sub [2, 1, 0] rfl ?_
    exact hk4 h
theorem wL_X6_lostLoops_4 {G : Ctx} {ad : Nat → Nat} {q : Nat} {K : Mem} (C : Cx G RX6 cX6_lostLoops 3 1 20) (hD : ∀ K, va_D (gA G) (wd (gC G) ad K 0 shsK)) {res : Int32} (RET : RI G cX6_lostLoops 3 (wd (gC G) ad K 0 shsK) res) (hq : isTown q) : ∀ (n : Nat) {a1 : Int32} {a2 : Int32} (h : L_X6_lostLoops_4 q K n a1 a2 = some res), V G 3 (wd (gC G) ad K 0 shsK) 4 [(0, .ref (ad q)), (1, .int a1), (2, .int a2)] [] := by
  intro n
  induction n with
  | zero =>
    intro a1 a2 h
    cases (show (none : Option Int32) = some res from h)
  | succ n ih =>
    intro a1 a2 h
    exact wF_X6_lostLoops_4 (k4 := fun a1 a2 => L_X6_lostLoops_4 q K n a1 a2) C hD RET (fun h => ih h) hq h
def F_X6_lostLoops_0 (q : Nat) (K : Mem) : Option Int32 :=
  L_X6_lostLoops_4 q K FU 0 0
set_option maxRecDepth 100000 in
set_option maxHeartbeats 4000000 in
theorem wF_X6_lostLoops_0 {G : Ctx} {ad : Nat → Nat} {q : Nat} {K : Mem} (C : Cx G RX6 cX6_lostLoops 3 1 20) (hD : ∀ K, va_D (gA G) (wd (gC G) ad K 0 shsK)) {res : Int32} (RET : RI G cX6_lostLoops 3 (wd (gC G) ad K 0 shsK) res) (hq : isTown q) (h : F_X6_lostLoops_0 q K = some res) : V G 3 (wd (gC G) ad K 0 shsK) 0 [(0, .ref (ad q))] [] := by
  unfold F_X6_lostLoops_0 at h
  refine v_iconst C dX6_lostLoops_0 rfl ic_0 ?_
  refine v_istore_n C dX6_lostLoops_1 rfl rfl (by decide) (L' := [(1, .int 0), (0, .ref (ad q))]) rfl ?_
  refine v_iconst C dX6_lostLoops_2 rfl ic_0 ?_
  refine v_istore_n C dX6_lostLoops_3 rfl rfl (by decide) (L' := [(2, .int 0), (1, .int 0), (0, .ref (ad q))]) rfl ?_
  refine v_sub [2, 1, 0] rfl ?_
  exact wL_X6_lostLoops_4 C hD RET hq FU h
def C_X6_lostLoops (q : Nat) (K : Mem) : Option Int32 := F_X6_lostLoops_0 q K
set_option maxRecDepth 100000 in
theorem c_X6_lostLoops {l : Launch} {D : va_G} {cA : FieldType → ClassId} {X : Ex} {ad : Nat → Nat} {q : Nat} (hq : isTown q) {K : Mem} {r : Int32} (h : C_X6_lostLoops q K = some r) : MI l D cA X yX6_lostLoops cX6_lostLoops 3 (some .int) 1 20 [.ref (ad q)] (wd cA ad K 0 shsK) (wd cA ad K 0 shsK) r :=
  mI_of (by decide +kernel) (Nat.le_of_ble_eq_true rfl) (fun G h1 h2 h3 h4 C hD RET => by subst h1 h2 h3 h4; exact wF_X6_lostLoops_0 C (fun K' => wd_D K' hD) RET hq h)
def F_X6_lostBelow_10 (k10 : Int32 → Int32 → Int32 → Option Int32) (q : Nat) (K : Mem) (a3 : Int32) (a4 : Int32) (a5 : Int32) : Option Int32 :=
  if a5 < 0 then (
    some a4
  ) else (
    gd (inb a5 12) <|
    bd (C_J6_bitCount_0f7a4 (a3 &&& (K (q + 4) (Int32.toNatClampNeg a5)))) fun r5 =>
    nm (a4 + r5) fun v6 =>
    gd (inb a5 12) <|
    bd (C_X0_under (K (q + 1) (Int32.toNatClampNeg a5)) a3) fun r9 =>
    nm (a5 + (-1)) fun v10 =>
    k10 r9 v6 v10
  )
def L_X6_lostBelow_10 (q : Nat) (K : Mem) : Nat → Int32 → Int32 → Int32 → Option Int32
  | 0, _, _, _ => none
  | n + 1, a3, a4, a5 => F_X6_lostBelow_10 (fun a3 a4 a5 => L_X6_lostBelow_10 q K n a3 a4 a5) q K a3 a4 a5
set_option maxRecDepth 100000 in
set_option maxHeartbeats 4000000 in
theorem wF_X6_lostBelow_10 {G : Ctx} {ad : Nat → Nat} {q : Nat} {K : Mem} {k10 : Int32 → Int32 → Int32 → Option Int32} (C : Cx G RX6 cX6_lostBelow 6 2 41) (hD : ∀ K, va_D (gA G) (wd (gC G) ad K 0 shsK)) {res : Int32} (RET : RI G cX6_lostBelow 6 (wd (gC G) ad K 0 shsK) res) (hk10 : ∀ {a3 : Int32} {a4 : Int32} {a5 : Int32} , k10 a3 a4 a5 = some res → V G 6 (wd (gC G) ad K 0 shsK) 10 [(0, .ref (ad q)), (3, .int a3), (4, .int a4), (5, .int a5)] []) (hq : isTown q) {a3 : Int32} {a4 : Int32} {a5 : Int32} (h : F_X6_lostBelow_10 k10 q K a3 a4 a5 = some res) : V G 6 (wd (gC G) ad K 0 shsK) 10 [(0, .ref (ad q)), (3, .int a3), (4, .int a4), (5, .int a5)] [] := by
  unfold F_X6_lostBelow_10 at h
  refine v_iload C dX6_lostBelow_10 rfl 3 rfl ?_
  refine v_if_lt C dX6_lostBelow_12 (tgt := 50) (by decide) rfl (fun c2 => ?_) (fun c2 => ?_)
  · have h := ifp c2 h
    refine v_iload C dX6_lostBelow_50 rfl 2 rfl ?_
    obtain rfl := Option.some.inj h
    exact RET _ _ dX6_lostBelow_52
  · have h := ifn c2 h
    refine v_iload C dX6_lostBelow_15 rfl 2 rfl ?_
    refine v_iload_n C dX6_lostBelow_17 rfl rfl 1 rfl ?_
    refine v_aload_n C dX6_lostBelow_18 rfl rfl 0 rfl ?_
    refine v_getr C dX6_lostBelow_19 rfl ff_X6_21 (tk_0 hq) rfl ?_
    refine v_iload C dX6_lostBelow_22 rfl 3 rfl ?_
    obtain ⟨b3, h⟩ := gdS h
    refine v_iald C dX6_lostBelow_24 rfl (tk_4 hq) b3 ?_
    refine v_iand C dX6_lostBelow_25 rfl ?_
    obtain ⟨r5, e4, h⟩ := bdS h
    refine v_callSi C ys_J6_bitCount_0f7a4 m_409 (c_J6_bitCount_0f7a4 e4) (Sub.whole hD _ _) (As := [.int (a3 &&& (K (q + 4) (Int32.toNatClampNeg a5)))]) rfl rfl (Nat.le_of_ble_eq_true rfl) ⟨Nat.le_of_ble_eq_true rfl, Nat.le_of_ble_eq_true rfl⟩ dX6_lostBelow_26 rfl ?_
    refine v_iadd C dX6_lostBelow_29 rfl ?_
    obtain ⟨v6, ev6, h⟩ := nmS h
    refine v_nmi ev6 ?_
    refine v_istore C dX6_lostBelow_30 rfl (by decide) (L' := [(4, .int v6), (0, .ref (ad q)), (3, .int a3), (5, .int a5)]) rfl ?_
    refine v_aload_n C dX6_lostBelow_32 rfl rfl 1 rfl ?_
    refine v_getr C dX6_lostBelow_33 rfl ff_X6_9 (tk_0 hq) rfl ?_
    refine v_iload C dX6_lostBelow_36 rfl 3 rfl ?_
    obtain ⟨b7, h⟩ := gdS h
    refine v_iald C dX6_lostBelow_38 rfl (tk_1 hq) b7 ?_
    refine v_iload_n C dX6_lostBelow_39 rfl rfl 2 rfl ?_
    obtain ⟨r9, e8, h⟩ := bdS h
    refine v_callSi C ys_X0_under m_530 (c_X0_under e8) (Sub.whole hD _ _) (As := [.int (K (q + 1) (Int32.toNatClampNeg a5)), .int a3]) rfl rfl (Nat.le_of_ble_eq_true rfl) ⟨Nat.le_of_ble_eq_true rfl, Nat.le_of_ble_eq_true rfl⟩ dX6_lostBelow_40 rfl ?_
    refine v_istore_n C dX6_lostBelow_43 rfl rfl (by decide) (L' := [(3, .int r9), (4, .int v6), (0, .ref (ad q)), (5, .int a5)]) rfl ?_
    obtain ⟨v10, ev10, h⟩ := nmS h
    refine v_iinc C dX6_lostBelow_44 rfl 3 rfl (v := v10) (by rw [ev10]; rfl) (by decide) (L' := [(5, .int v10), (3, .int r9), (4, .int v6), (0, .ref (ad q))]) rfl ?_
    refine v_goto C dX6_lostBelow_47 (tgt := 10) (by decide) ?_
    refine v_sub [3, 1, 2, 0] rfl ?_
    exact hk10 h
theorem wL_X6_lostBelow_10 {G : Ctx} {ad : Nat → Nat} {q : Nat} {K : Mem} (C : Cx G RX6 cX6_lostBelow 6 2 41) (hD : ∀ K, va_D (gA G) (wd (gC G) ad K 0 shsK)) {res : Int32} (RET : RI G cX6_lostBelow 6 (wd (gC G) ad K 0 shsK) res) (hq : isTown q) : ∀ (n : Nat) {a3 : Int32} {a4 : Int32} {a5 : Int32} (h : L_X6_lostBelow_10 q K n a3 a4 a5 = some res), V G 6 (wd (gC G) ad K 0 shsK) 10 [(0, .ref (ad q)), (3, .int a3), (4, .int a4), (5, .int a5)] [] := by
  intro n
  induction n with
  | zero =>
    intro a3 a4 a5 h
    cases (show (none : Option Int32) = some res from h)
  | succ n ih =>
    intro a3 a4 a5 h
    exact wF_X6_lostBelow_10 (k10 := fun a3 a4 a5 => L_X6_lostBelow_10 q K n a3 a4 a5) C hD RET (fun h => ih h) hq h
def F_X6_lostBelow_0 (q : Nat) (K : Mem) (a1 : Int32) (a2 : Int32) : Option Int32 :=
  nm (jshl 1 a2) fun v1 =>
  L_X6_lostBelow_10 q K FU v1 0 a1
set_option maxRecDepth 100000 in
set_option maxHeartbeats 4000000 in
theorem wF_X6_lostBelow_0 {G : Ctx} {ad : Nat → Nat} {q : Nat} {K : Mem} (C : Cx G RX6 cX6_lostBelow 6 2 41) (hD : ∀ K, va_D (gA G) (wd (gC G) ad K 0 shsK)) {res : Int32} (RET : RI G cX6_lostBelow 6 (wd (gC G) ad K 0 shsK) res) (hq : isTown q) {a1 : Int32} {a2 : Int32} (h : F_X6_lostBelow_0 q K a1 a2 = some res) : V G 6 (wd (gC G) ad K 0 shsK) 0 [(0, .ref (ad q)), (1, .int a1), (2, .int a2)] [] := by
  unfold F_X6_lostBelow_0 at h
  refine v_iconst C dX6_lostBelow_0 rfl ic_1 ?_
  refine v_iload_n C dX6_lostBelow_1 rfl rfl 2 rfl ?_
  refine v_ishl C dX6_lostBelow_2 rfl ?_
  obtain ⟨v1, ev1, h⟩ := nmS h
  refine v_nmi ev1 ?_
  refine v_istore_n C dX6_lostBelow_3 rfl rfl (by decide) (L' := [(3, .int v1), (0, .ref (ad q)), (1, .int a1), (2, .int a2)]) rfl ?_
  refine v_iconst C dX6_lostBelow_4 rfl ic_0 ?_
  refine v_istore C dX6_lostBelow_5 rfl (by decide) (L' := [(4, .int 0), (3, .int v1), (0, .ref (ad q)), (1, .int a1), (2, .int a2)]) rfl ?_
  refine v_iload_n C dX6_lostBelow_7 rfl rfl 3 rfl ?_
  refine v_istore C dX6_lostBelow_8 rfl (by decide) (L' := [(5, .int a1), (4, .int 0), (3, .int v1), (0, .ref (ad q)), (1, .int a1), (2, .int a2)]) rfl ?_
  refine v_sub [3, 2, 1, 0] rfl ?_
  exact wL_X6_lostBelow_10 C hD RET hq FU h
def C_X6_lostBelow (q : Nat) (K : Mem) (a1 : Int32) (a2 : Int32) : Option Int32 := F_X6_lostBelow_0 q K a1 a2
set_option maxRecDepth 100000 in
theorem c_X6_lostBelow {l : Launch} {D : va_G} {cA : FieldType → ClassId} {X : Ex} {ad : Nat → Nat} {q : Nat} (hq : isTown q) {a1 : Int32} {a2 : Int32} {K : Mem} {r : Int32} (h : C_X6_lostBelow q K a1 a2 = some r) : MI l D cA X yX6_lostBelow cX6_lostBelow 6 (some .int) 2 41 [.ref (ad q), .int a1, .int a2] (wd cA ad K 0 shsK) (wd cA ad K 0 shsK) r :=
  mI_of (by decide +kernel) (Nat.le_of_ble_eq_true rfl) (fun G h1 h2 h3 h4 C hD RET => by subst h1 h2 h3 h4; exact wF_X6_lostBelow_0 C (fun K' => wd_D K' hD) RET hq h)
def F_X8_heldWithin_0 (a0 : Int32) (a1 : Int32) : Option Int32 :=
  some (jmax 0 (jmin a1 a0))
set_option maxRecDepth 100000 in
set_option maxHeartbeats 4000000 in
theorem wF_X8_heldWithin_0 {G : Ctx} {w : va_W} (C : Cx G RX8 cX8_heldWithin 2 1 30) (hD : va_D (gA G) w) {res : Int32} (RET : RI G cX8_heldWithin 2 w res) {a0 : Int32} {a1 : Int32} (h : F_X8_heldWithin_0 a0 a1 = some res) : V G 2 w 0 [(0, .int a0), (1, .int a1)] [] := by
  unfold F_X8_heldWithin_0 at h
  refine v_iconst C dX8_heldWithin_0 rfl ic_0 ?_
  refine v_iload_n C dX8_heldWithin_1 rfl rfl 1 rfl ?_
  refine v_iload_n C dX8_heldWithin_2 rfl rfl 0 rfl ?_
  refine v_min C dX8_heldWithin_3 rfl m_357 m_358 m_11 m_359 (Nat.le_of_ble_eq_true rfl) (Nat.le_of_ble_eq_true rfl) ?_
  refine v_max C dX8_heldWithin_6 rfl m_360 m_361 m_11 m_362 (Nat.le_of_ble_eq_true rfl) (Nat.le_of_ble_eq_true rfl) ?_
  obtain rfl := Option.some.inj h
  exact RET _ _ dX8_heldWithin_9
def C_X8_heldWithin (a0 : Int32) (a1 : Int32) : Option Int32 := F_X8_heldWithin_0 a0 a1
set_option maxRecDepth 100000 in
theorem c_X8_heldWithin {l : Launch} {D : va_G} {cA : FieldType → ClassId} {X : Ex} {w : va_W} {a0 : Int32} {a1 : Int32} {r : Int32} (h : C_X8_heldWithin a0 a1 = some r) : MI l D cA X yX8_heldWithin cX8_heldWithin 2 (some .int) 1 30 [.int a0, .int a1] w w r :=
  mI_of (by decide +kernel) (Nat.le_of_ble_eq_true rfl) (fun G h1 h2 h3 h4 C hD RET => by subst h1 h2 h3 h4; exact wF_X8_heldWithin_0 C hD RET  h)
def F_X6_wears_0 (q : Nat) (a1 : Int32) (K : Mem) : Option (Int32 × Mem) :=
  gd (inb 0 3) <|
  nm (K (q + 6) (Int32.toNatClampNeg 0)) fun v2 =>
  if 0 ≤ v2 then (
    bd2 (C_X5_gives q v2 a1 K) fun r6 K5 =>
    bd (C_X8_heldWithin r6 99) fun r8 =>
    gd (inb a1 12) <|
    bd (C_X0_wears (K5 (q + 1) (Int32.toNatClampNeg a1)) r8) fun r11 =>
    some (r11, K5)
  ) else (
    gd (inb a1 12) <|
    bd (C_X0_wears (K (q + 1) (Int32.toNatClampNeg a1)) 6) fun r14 =>
    some (r14, K)
  )
set_option maxRecDepth 100000 in
set_option maxHeartbeats 4000000 in
theorem wF_X6_wears_0 {G : Ctx} {ad : Nat → Nat} {q : Nat} (C : Cx G RX6 cX6_wears 4 3 70) (hD : ∀ K, va_D (gA G) (wd (gC G) ad K 0 shsK)) {res : (Int32 × Mem)} (RET : RI G cX6_wears 4 (wd (gC G) ad res.2 0 shsK) res.1) (hq : isTown q) {a1 : Int32} {K : Mem} (h : F_X6_wears_0 q a1 K = some res) : V G 4 (wd (gC G) ad K 0 shsK) 0 [(0, .ref (ad q)), (1, .int a1)] [] := by
  unfold F_X6_wears_0 at h
  refine v_aload_n C dX6_wears_0 rfl rfl 0 rfl ?_
  refine v_getr C dX6_wears_1 rfl ff_X6_27 (tk_0 hq) rfl ?_
  refine v_iconst C dX6_wears_4 rfl ic_0 ?_
  obtain ⟨b1, h⟩ := gdS h
  refine v_iald C dX6_wears_5 rfl (tk_6 hq) b1 ?_
  obtain ⟨v2, ev2, h⟩ := nmS h
  refine v_nmi ev2 ?_
  refine v_istore_n C dX6_wears_6 rfl rfl (by decide) (L' := [(2, .int v2), (0, .ref (ad q)), (1, .int a1)]) rfl ?_
  refine v_iload_n C dX6_wears_7 rfl rfl 0 rfl ?_
  refine v_if_ge C dX6_wears_8 (tgt := 16) (by decide) rfl (fun c3 => ?_) (fun c3 => ?_)
  · have h := ifp c3 h
    refine v_aload_n C dX6_wears_16 rfl rfl 1 rfl ?_
    refine v_getr C dX6_wears_17 rfl ff_X6_34 (tk_0 hq) rfl ?_
    refine v_iload_n C dX6_wears_20 rfl rfl 0 rfl ?_
    refine v_aload_n C dX6_wears_21 rfl rfl 1 rfl ?_
    refine v_iload_n C dX6_wears_22 rfl rfl 2 rfl ?_
    obtain ⟨r6, K5, e4, h⟩ := bd2S h
    refine v_callVi C yv_X5_gives m_330 (c_X5_gives hq e4) (Sub.whole hD _ _) ⟨_, _, _, _, _, wd_at sk_1, rfl⟩ (As := [.int v2, .ref (ad q), .int a1]) rfl rfl (Nat.le_of_ble_eq_true rfl) ⟨Nat.le_of_ble_eq_true rfl, Nat.le_of_ble_eq_true rfl⟩ dX6_wears_23 rfl ?_
    refine v_bipush C dX6_wears_26 rfl bi_99 ?_
    obtain ⟨r8, e7, h⟩ := bdS h
    refine v_callSNi C ys_X8_heldWithin C.hE.2.2.2.2.2.2.2.2.1 (c_X8_heldWithin e7) (Sub.whole hD _ _) (As := [.int r6, .int 99]) rfl rfl (Nat.le_of_ble_eq_true rfl) ⟨Nat.le_of_ble_eq_true rfl, Nat.le_of_ble_eq_true rfl⟩ dX6_wears_28 rfl ?_
    refine v_istore_n C dX6_wears_31 rfl rfl (by decide) (L' := [(3, .int r8), (2, .int v2), (0, .ref (ad q)), (1, .int a1)]) rfl ?_
    refine v_aload_n C dX6_wears_32 rfl rfl 2 rfl ?_
    refine v_getr C dX6_wears_33 rfl ff_X6_9 (tk_0 hq) rfl ?_
    refine v_iload_n C dX6_wears_36 rfl rfl 3 rfl ?_
    obtain ⟨b9, h⟩ := gdS h
    refine v_iald C dX6_wears_37 rfl (tk_1 hq) b9 ?_
    refine v_iload_n C dX6_wears_38 rfl rfl 0 rfl ?_
    obtain ⟨r11, e10, h⟩ := bdS h
    refine v_callSi C ys_X0_wears m_363 (c_X0_wears e10) (Sub.whole hD _ _) (As := [.int (K5 (q + 1) (Int32.toNatClampNeg a1)), .int r8]) rfl rfl (Nat.le_of_ble_eq_true rfl) ⟨Nat.le_of_ble_eq_true rfl, Nat.le_of_ble_eq_true rfl⟩ dX6_wears_39 rfl ?_
    obtain rfl := Option.some.inj h
    exact RET _ _ dX6_wears_42
  · have h := ifn c3 h
    refine v_bipush C dX6_wears_11 rfl bi_6 ?_
    refine v_goto C dX6_wears_13 (tgt := 31) (by decide) ?_
    refine v_istore_n C dX6_wears_31 rfl rfl (by decide) (L' := [(3, .int 6), (2, .int v2), (0, .ref (ad q)), (1, .int a1)]) rfl ?_
    refine v_aload_n C dX6_wears_32 rfl rfl 2 rfl ?_
    refine v_getr C dX6_wears_33 rfl ff_X6_9 (tk_0 hq) rfl ?_
    refine v_iload_n C dX6_wears_36 rfl rfl 3 rfl ?_
    obtain ⟨b12, h⟩ := gdS h
    refine v_iald C dX6_wears_37 rfl (tk_1 hq) b12 ?_
    refine v_iload_n C dX6_wears_38 rfl rfl 0 rfl ?_
    obtain ⟨r14, e13, h⟩ := bdS h
    refine v_callSi C ys_X0_wears m_363 (c_X0_wears e13) (Sub.whole hD _ _) (As := [.int (K (q + 1) (Int32.toNatClampNeg a1)), .int 6]) rfl rfl (Nat.le_of_ble_eq_true rfl) ⟨Nat.le_of_ble_eq_true rfl, Nat.le_of_ble_eq_true rfl⟩ dX6_wears_39 rfl ?_
    obtain rfl := Option.some.inj h
    exact RET _ _ dX6_wears_42
def C_X6_wears (q : Nat) (a1 : Int32) (K : Mem) : Option (Int32 × Mem) := F_X6_wears_0 q a1 K
set_option maxRecDepth 100000 in
theorem c_X6_wears {l : Launch} {D : va_G} {cA : FieldType → ClassId} {X : Ex} {ad : Nat → Nat} {q : Nat} (hq : isTown q) {a1 : Int32} {K : Mem} {r : Int32} {K' : Mem} (h : C_X6_wears q a1 K = some (r, K')) : MI l D cA X yX6_wears cX6_wears 4 (some .int) 3 70 [.ref (ad q), .int a1] (wd cA ad K 0 shsK) (wd cA ad K' 0 shsK) r :=
  mI_of (by decide +kernel) (Nat.le_of_ble_eq_true rfl) (fun G h1 h2 h3 h4 C hD RET => by subst h1 h2 h3 h4; exact wF_X6_wears_0 C (fun K' => wd_D K' hD) RET hq h)
def F_X6_lose_0 (q : Nat) (a1 : Int32) (a2 : Int32) (K : Mem) : Option Mem :=
  nm (jshl 1 a2) fun v1 =>
  gd (inb a1 12) <|
  if ((K (q + 4) (Int32.toNatClampNeg a1)) &&& v1) = 0 then (
    gd (inb a1 12) <|
    gd (inb a1 12) <|
    nm (up K (q + 4) (Int32.toNatClampNeg a1) ((K (q + 4) (Int32.toNatClampNeg a1)) ||| v1)) fun K6 =>
    nm (up K6 q 9 ((K6 q 9) + 1)) fun K7 =>
    some K7
  ) else (
    some K
  )
set_option maxRecDepth 100000 in
set_option maxHeartbeats 4000000 in
theorem wF_X6_lose_0 {G : Ctx} {ad : Nat → Nat} {q : Nat} (C : Cx G RX6 cX6_lose 4 0 0) (hD : ∀ K, va_D (gA G) (wd (gC G) ad K 0 shsK)) {res : Mem} (RET : RV G cX6_lose 4 (wd (gC G) ad res 0 shsK)) (hq : isTown q) {a1 : Int32} {a2 : Int32} {K : Mem} (h : F_X6_lose_0 q a1 a2 K = some res) : V G 4 (wd (gC G) ad K 0 shsK) 0 [(0, .ref (ad q)), (1, .int a1), (2, .int a2)] [] := by
  unfold F_X6_lose_0 at h
  refine v_iconst C dX6_lose_0 rfl ic_1 ?_
  refine v_iload_n C dX6_lose_1 rfl rfl 2 rfl ?_
  refine v_ishl C dX6_lose_2 rfl ?_
  obtain ⟨v1, ev1, h⟩ := nmS h
  refine v_nmi ev1 ?_
  refine v_istore_n C dX6_lose_3 rfl rfl (by decide) (L' := [(3, .int v1), (0, .ref (ad q)), (1, .int a1), (2, .int a2)]) rfl ?_
  refine v_aload_n C dX6_lose_4 rfl rfl 1 rfl ?_
  refine v_getr C dX6_lose_5 rfl ff_X6_21 (tk_0 hq) rfl ?_
  refine v_iload_n C dX6_lose_8 rfl rfl 2 rfl ?_
  obtain ⟨b2, h⟩ := gdS h
  refine v_iald C dX6_lose_9 rfl (tk_4 hq) b2 ?_
  refine v_iload_n C dX6_lose_10 rfl rfl 0 rfl ?_
  refine v_iand C dX6_lose_11 rfl ?_
  refine v_if_ne C dX6_lose_12 (tgt := 35) (by decide) rfl (fun c3 => ?_) (fun c3 => ?_)
  · have h := ifn c3 h
    obtain rfl := Option.some.inj h
    exact RET _ _ dX6_lose_35
  · have h := ifp c3 h
    refine v_aload_n C dX6_lose_15 rfl rfl 1 rfl ?_
    refine v_getr C dX6_lose_16 rfl ff_X6_21 (tk_0 hq) rfl ?_
    refine v_iload_n C dX6_lose_19 rfl rfl 2 rfl ?_
    refine v_dup2 C dX6_lose_20 rfl rfl rfl ?_
    obtain ⟨b4, h⟩ := gdS h
    refine v_iald C dX6_lose_21 rfl (tk_4 hq) b4 ?_
    refine v_iload_n C dX6_lose_22 rfl rfl 0 rfl ?_
    refine v_ior C dX6_lose_23 rfl ?_
    obtain ⟨b5, h⟩ := gdS h
    obtain ⟨K6, eK6, h⟩ := nmS h
    refine v_iast C hD dX6_lose_24 rfl (tk_4 hq) b5 eK6 ?_
    refine v_aload_n C dX6_lose_25 rfl rfl 1 rfl ?_
    refine v_dup C dX6_lose_26 rfl rfl ?_
    refine v_getf C dX6_lose_27 rfl ff_X6_50 (tk_0 hq) rfl ?_
    refine v_iconst C dX6_lose_30 rfl ic_1 ?_
    refine v_iadd C dX6_lose_31 rfl ?_
    obtain ⟨K7, eK7, h⟩ := nmS h
    refine v_putf C hD dX6_lose_32 rfl fp_X6_50 (tk_0 hq) rfl eK7 ?_
    obtain rfl := Option.some.inj h
    exact RET _ _ dX6_lose_35
def C_X6_lose (q : Nat) (a1 : Int32) (a2 : Int32) (K : Mem) : Option Mem := F_X6_lose_0 q a1 a2 K
set_option maxRecDepth 100000 in
theorem c_X6_lose {l : Launch} {D : va_G} {cA : FieldType → ClassId} {X : Ex} {ad : Nat → Nat} {q : Nat} (hq : isTown q) {a1 : Int32} {a2 : Int32} {K : Mem} {K' : Mem} (h : C_X6_lose q a1 a2 K = some K') : MV l D cA X yX6_lose cX6_lose 4 0 0 [.ref (ad q), .int a1, .int a2] (wd cA ad K 0 shsK) (wd cA ad K' 0 shsK) :=
  mV_of (by decide +kernel) (Nat.le_of_ble_eq_true rfl) (fun G h1 h2 h3 h4 C hD RET => by subst h1 h2 h3 h4; exact wF_X6_lose_0 C (fun K' => wd_D K' hD) RET hq h)
def F_X6_walkSomewhere_0 (q : Nat) (K : Mem) : Option Mem :=
  if 0 < (K q 7) then (
    bd2 (C_X6_draw q K) fun r4 K3 =>
    gd (nz (K3 q 7)) <|
    nm (jrem r4 (K3 q 7)) fun v6 =>
    bd2 (C_X6_draw q K3) fun r9 K8 =>
    nm (jrem r9 8) fun v10 =>
    nm (up K8 q 8 ((K8 q 8) + 1)) fun K11 =>
    gd (inb v6 12) <|
    bd2 (C_X6_wears q v6 K11) fun r15 K14 =>
    gd (inb v6 12) <|
    nm (up K14 (q + 3) (Int32.toNatClampNeg v6) (jmin 99 ((K11 (q + 3) (Int32.toNatClampNeg v6)) + r15))) fun K17 =>
    gd (inb v6 12) <|
    gd (inb v6 12) <|
    gd (inb v6 12) <|
    bd (C_X0_bears (K17 (q + 1) (Int32.toNatClampNeg v6)) (K17 (q + 2) (Int32.toNatClampNeg v6))) fun r22 =>
    if (K17 (q + 3) (Int32.toNatClampNeg v6)) ≤ r22 then (
      some K17
    ) else (
      gd (inb v6 12) <|
      nm (up K17 (q + 3) (Int32.toNatClampNeg v6) 0) fun K25 =>
      bd (C_X6_lose q v6 v10 K25) fun K27 =>
      some K27
    )
  ) else (
    some K
  )
set_option maxRecDepth 100000 in
set_option maxHeartbeats 4000000 in
theorem wF_X6_walkSomewhere_0 {G : Ctx} {ad : Nat → Nat} {q : Nat} (C : Cx G RX6 cX6_walkSomewhere 3 4 93) (hD : ∀ K, va_D (gA G) (wd (gC G) ad K 0 shsK)) {res : Mem} (RET : RV G cX6_walkSomewhere 3 (wd (gC G) ad res 0 shsK)) (hq : isTown q) {K : Mem} (h : F_X6_walkSomewhere_0 q K = some res) : V G 3 (wd (gC G) ad K 0 shsK) 0 [(0, .ref (ad q))] [] := by
  unfold F_X6_walkSomewhere_0 at h
  refine v_aload_n C dX6_walkSomewhere_0 rfl rfl 0 rfl ?_
  refine v_getf C dX6_walkSomewhere_1 rfl ff_X6_44 (tk_0 hq) rfl ?_
  refine v_if_gt C dX6_walkSomewhere_4 (tgt := 8) (by decide) rfl (fun c1 => ?_) (fun c1 => ?_)
  · have h := ifp c1 h
    refine v_aload_n C dX6_walkSomewhere_8 rfl rfl 0 rfl ?_
    obtain ⟨r4, K3, e2, h⟩ := bd2S h
    refine v_callVi C yv_X6_draw m_431 (c_X6_draw hq e2) (Sub.whole hD _ _) ⟨_, _, _, _, _, wd_at (tk_0 hq), rfl⟩ (As := []) rfl rfl (Nat.le_of_ble_eq_true rfl) ⟨Nat.le_of_ble_eq_true rfl, Nat.le_of_ble_eq_true rfl⟩ dX6_walkSomewhere_9 rfl ?_
    refine v_aload_n C dX6_walkSomewhere_12 rfl rfl 0 rfl ?_
    refine v_getf C dX6_walkSomewhere_13 rfl ff_X6_44 (tk_0 hq) rfl ?_
    obtain ⟨b5, h⟩ := gdS h
    refine v_irem C dX6_walkSomewhere_16 rfl (nzS b5) ?_
    obtain ⟨v6, ev6, h⟩ := nmS h
    refine v_nmi ev6 ?_
    refine v_istore_n C dX6_walkSomewhere_17 rfl rfl (by decide) (L' := [(1, .int v6), (0, .ref (ad q))]) rfl ?_
    refine v_aload_n C dX6_walkSomewhere_18 rfl rfl 1 rfl ?_
    obtain ⟨r9, K8, e7, h⟩ := bd2S h
    refine v_callVi C yv_X6_draw m_431 (c_X6_draw hq e7) (Sub.whole hD _ _) ⟨_, _, _, _, _, wd_at (tk_0 hq), rfl⟩ (As := []) rfl rfl (Nat.le_of_ble_eq_true rfl) ⟨Nat.le_of_ble_eq_true rfl, Nat.le_of_ble_eq_true rfl⟩ dX6_walkSomewhere_19 rfl ?_
    refine v_bipush C dX6_walkSomewhere_22 rfl bi_8 ?_
    refine v_irem C dX6_walkSomewhere_24 rfl (by decide) ?_
    obtain ⟨v10, ev10, h⟩ := nmS h
    refine v_nmi ev10 ?_
    refine v_istore_n C dX6_walkSomewhere_25 rfl rfl (by decide) (L' := [(2, .int v10), (1, .int v6), (0, .ref (ad q))]) rfl ?_
    refine v_aload_n C dX6_walkSomewhere_26 rfl rfl 2 rfl ?_
    refine v_dup C dX6_walkSomewhere_27 rfl rfl ?_
    refine v_getf C dX6_walkSomewhere_28 rfl ff_X6_47 (tk_0 hq) rfl ?_
    refine v_iconst C dX6_walkSomewhere_31 rfl ic_1 ?_
    refine v_iadd C dX6_walkSomewhere_32 rfl ?_
    obtain ⟨K11, eK11, h⟩ := nmS h
    refine v_putf C hD dX6_walkSomewhere_33 rfl fp_X6_47 (tk_0 hq) rfl eK11 ?_
    refine v_aload_n C dX6_walkSomewhere_36 rfl rfl 2 rfl ?_
    refine v_getr C dX6_walkSomewhere_37 rfl ff_X6_18 (tk_0 hq) rfl ?_
    refine v_iload_n C dX6_walkSomewhere_40 rfl rfl 1 rfl ?_
    refine v_bipush C dX6_walkSomewhere_41 rfl bi_99 ?_
    refine v_aload_n C dX6_walkSomewhere_43 rfl rfl 2 rfl ?_
    refine v_getr C dX6_walkSomewhere_44 rfl ff_X6_18 (tk_0 hq) rfl ?_
    refine v_iload_n C dX6_walkSomewhere_47 rfl rfl 1 rfl ?_
    obtain ⟨b12, h⟩ := gdS h
    refine v_iald C dX6_walkSomewhere_48 rfl (tk_3 hq) b12 ?_
    refine v_aload_n C dX6_walkSomewhere_49 rfl rfl 2 rfl ?_
    refine v_iload_n C dX6_walkSomewhere_50 rfl rfl 1 rfl ?_
    obtain ⟨r15, K14, e13, h⟩ := bd2S h
    refine v_callVi C yv_X6_wears m_453 (c_X6_wears hq e13) (Sub.whole hD _ _) ⟨_, _, _, _, _, wd_at (tk_0 hq), rfl⟩ (As := [.int v6]) rfl rfl (Nat.le_of_ble_eq_true rfl) ⟨Nat.le_of_ble_eq_true rfl, Nat.le_of_ble_eq_true rfl⟩ dX6_walkSomewhere_51 rfl ?_
    refine v_iadd C dX6_walkSomewhere_54 rfl ?_
    refine v_min C dX6_walkSomewhere_55 rfl m_454 m_358 m_11 m_359 (Nat.le_of_ble_eq_true rfl) (Nat.le_of_ble_eq_true rfl) ?_
    obtain ⟨b16, h⟩ := gdS h
    obtain ⟨K17, eK17, h⟩ := nmS h
    refine v_iast C hD dX6_walkSomewhere_58 rfl (tk_3 hq) b16 eK17 ?_
    refine v_aload_n C dX6_walkSomewhere_59 rfl rfl 2 rfl ?_
    refine v_getr C dX6_walkSomewhere_60 rfl ff_X6_18 (tk_0 hq) rfl ?_
    refine v_iload_n C dX6_walkSomewhere_63 rfl rfl 1 rfl ?_
    obtain ⟨b18, h⟩ := gdS h
    refine v_iald C dX6_walkSomewhere_64 rfl (tk_3 hq) b18 ?_
    refine v_aload_n C dX6_walkSomewhere_65 rfl rfl 2 rfl ?_
    refine v_getr C dX6_walkSomewhere_66 rfl ff_X6_9 (tk_0 hq) rfl ?_
    refine v_iload_n C dX6_walkSomewhere_69 rfl rfl 1 rfl ?_
    obtain ⟨b19, h⟩ := gdS h
    refine v_iald C dX6_walkSomewhere_70 rfl (tk_1 hq) b19 ?_
    refine v_aload_n C dX6_walkSomewhere_71 rfl rfl 2 rfl ?_
    refine v_getr C dX6_walkSomewhere_72 rfl ff_X6_15 (tk_0 hq) rfl ?_
    refine v_iload_n C dX6_walkSomewhere_75 rfl rfl 1 rfl ?_
    obtain ⟨b20, h⟩ := gdS h
    refine v_iald C dX6_walkSomewhere_76 rfl (tk_2 hq) b20 ?_
    obtain ⟨r22, e21, h⟩ := bdS h
    refine v_callSi C ys_X0_bears m_455 (c_X0_bears e21) (Sub.whole hD _ _) (As := [.int (K17 (q + 1) (Int32.toNatClampNeg v6)), .int (K17 (q + 2) (Int32.toNatClampNeg v6))]) rfl rfl (Nat.le_of_ble_eq_true rfl) ⟨Nat.le_of_ble_eq_true rfl, Nat.le_of_ble_eq_true rfl⟩ dX6_walkSomewhere_77 rfl ?_
    refine v_icmp_le C dX6_walkSomewhere_80 (tgt := 96) (by decide) rfl (fun c23 => ?_) (fun c23 => ?_)
    · have h := ifp c23 h
      obtain rfl := Option.some.inj h
      exact RET _ _ dX6_walkSomewhere_96
    · have h := ifn c23 h
      refine v_aload_n C dX6_walkSomewhere_83 rfl rfl 2 rfl ?_
      refine v_getr C dX6_walkSomewhere_84 rfl ff_X6_18 (tk_0 hq) rfl ?_
      refine v_iload_n C dX6_walkSomewhere_87 rfl rfl 1 rfl ?_
      refine v_iconst C dX6_walkSomewhere_88 rfl ic_0 ?_
      obtain ⟨b24, h⟩ := gdS h
      obtain ⟨K25, eK25, h⟩ := nmS h
      refine v_iast C hD dX6_walkSomewhere_89 rfl (tk_3 hq) b24 eK25 ?_
      refine v_aload_n C dX6_walkSomewhere_90 rfl rfl 2 rfl ?_
      refine v_iload_n C dX6_walkSomewhere_91 rfl rfl 1 rfl ?_
      refine v_iload_n C dX6_walkSomewhere_92 rfl rfl 0 rfl ?_
      obtain ⟨K27, e26, h⟩ := bdS h
      refine v_callVv C yv_X6_lose m_456 (c_X6_lose hq e26) (Sub.whole hD _ _) ⟨_, _, _, _, _, wd_at (tk_0 hq), rfl⟩ (As := [.int v6, .int v10]) rfl rfl (Nat.le_of_ble_eq_true rfl) ⟨Nat.le_of_ble_eq_true rfl, Nat.le_of_ble_eq_true rfl⟩ dX6_walkSomewhere_93 rfl ?_
      obtain rfl := Option.some.inj h
      exact RET _ _ dX6_walkSomewhere_96
  · have h := ifn c1 h
    obtain rfl := Option.some.inj h
    exact RET _ _ dX6_walkSomewhere_7
def C_X6_walkSomewhere (q : Nat) (K : Mem) : Option Mem := F_X6_walkSomewhere_0 q K
set_option maxRecDepth 100000 in
theorem c_X6_walkSomewhere {l : Launch} {D : va_G} {cA : FieldType → ClassId} {X : Ex} {ad : Nat → Nat} {q : Nat} (hq : isTown q) {K : Mem} {K' : Mem} (h : C_X6_walkSomewhere q K = some K') : MV l D cA X yX6_walkSomewhere cX6_walkSomewhere 3 4 93 [.ref (ad q)] (wd cA ad K 0 shsK) (wd cA ad K' 0 shsK) :=
  mV_of (by decide +kernel) (Nat.le_of_ble_eq_true rfl) (fun G h1 h2 h3 h4 C hD RET => by subst h1 h2 h3 h4; exact wF_X6_walkSomewhere_0 C (fun K' => wd_D K' hD) RET hq h)
def F_X6_mendFirst_2 (k2 : Int32 → Mem → Option Mem) (q : Nat) (a1 : Int32) (K : Mem) : Option Mem :=
  if (K q 7) ≤ a1 then (
    some K
  ) else (
    gd (inb a1 12) <|
    if (K (q + 4) (Int32.toNatClampNeg a1)) = 0 then (
      nm (a1 + 1) fun v4 =>
      k2 v4 K
    ) else (
      gd (inb a1 12) <|
      gd (inb a1 12) <|
      gd (inb a1 12) <|
      nm (up K (q + 4) (Int32.toNatClampNeg a1) ((K (q + 4) (Int32.toNatClampNeg a1)) &&& ((K (q + 4) (Int32.toNatClampNeg a1)) - 1))) fun K8 =>
      nm (up K8 q 10 ((K8 q 10) + 1)) fun K9 =>
      some K9
    )
  )
def L_X6_mendFirst_2 (q : Nat) : Nat → Int32 → Mem → Option Mem
  | 0, _, _ => none
  | n + 1, a1, K => F_X6_mendFirst_2 (fun a1 K => L_X6_mendFirst_2 q n a1 K) q a1 K
set_option maxRecDepth 100000 in
set_option maxHeartbeats 4000000 in
theorem wF_X6_mendFirst_2 {G : Ctx} {ad : Nat → Nat} {q : Nat} {k2 : Int32 → Mem → Option Mem} (C : Cx G RX6 cX6_mendFirst 2 0 0) (hD : ∀ K, va_D (gA G) (wd (gC G) ad K 0 shsK)) {res : Mem} (RET : RV G cX6_mendFirst 2 (wd (gC G) ad res 0 shsK)) (hk2 : ∀ {a1 : Int32} {K : Mem} , k2 a1 K = some res → V G 2 (wd (gC G) ad K 0 shsK) 2 [(0, .ref (ad q)), (1, .int a1)] []) (hq : isTown q) {a1 : Int32} {K : Mem} (h : F_X6_mendFirst_2 k2 q a1 K = some res) : V G 2 (wd (gC G) ad K 0 shsK) 2 [(0, .ref (ad q)), (1, .int a1)] [] := by
  unfold F_X6_mendFirst_2 at h
  refine v_iload_n C dX6_mendFirst_2 rfl rfl 1 rfl ?_
  refine v_aload_n C dX6_mendFirst_3 rfl rfl 0 rfl ?_
  refine v_getf C dX6_mendFirst_4 rfl ff_X6_44 (tk_0 hq) rfl ?_
  refine v_icmp_ge C dX6_mendFirst_7 (tgt := 53) (by decide) rfl (fun c1 => ?_) (fun c1 => ?_)
  · have h := ifp c1 h
    obtain rfl := Option.some.inj h
    exact RET _ _ dX6_mendFirst_53
  · have h := ifn c1 h
    refine v_aload_n C dX6_mendFirst_10 rfl rfl 0 rfl ?_
    refine v_getr C dX6_mendFirst_11 rfl ff_X6_21 (tk_0 hq) rfl ?_
    refine v_iload_n C dX6_mendFirst_14 rfl rfl 1 rfl ?_
    obtain ⟨b2, h⟩ := gdS h
    refine v_iald C dX6_mendFirst_15 rfl (tk_4 hq) b2 ?_
    refine v_if_eq C dX6_mendFirst_16 (tgt := 47) (by decide) rfl (fun c3 => ?_) (fun c3 => ?_)
    · have h := ifp c3 h
      obtain ⟨v4, ev4, h⟩ := nmS h
      refine v_iinc C dX6_mendFirst_47 rfl 1 rfl (v := v4) (by rw [ev4]; rfl) (by decide) (L' := [(1, .int v4), (0, .ref (ad q))]) rfl ?_
      refine v_goto C dX6_mendFirst_50 (tgt := 2) (by decide) ?_
      refine v_sub [1, 0] rfl ?_
      exact hk2 h
    · have h := ifn c3 h
      refine v_aload_n C dX6_mendFirst_19 rfl rfl 0 rfl ?_
      refine v_getr C dX6_mendFirst_20 rfl ff_X6_21 (tk_0 hq) rfl ?_
      refine v_iload_n C dX6_mendFirst_23 rfl rfl 1 rfl ?_
      refine v_dup2 C dX6_mendFirst_24 rfl rfl rfl ?_
      obtain ⟨b5, h⟩ := gdS h
      refine v_iald C dX6_mendFirst_25 rfl (tk_4 hq) b5 ?_
      refine v_aload_n C dX6_mendFirst_26 rfl rfl 0 rfl ?_
      refine v_getr C dX6_mendFirst_27 rfl ff_X6_21 (tk_0 hq) rfl ?_
      refine v_iload_n C dX6_mendFirst_30 rfl rfl 1 rfl ?_
      obtain ⟨b6, h⟩ := gdS h
      refine v_iald C dX6_mendFirst_31 rfl (tk_4 hq) b6 ?_
      refine v_iconst C dX6_mendFirst_32 rfl ic_1 ?_
      refine v_isub C dX6_mendFirst_33 rfl ?_
      refine v_iand C dX6_mendFirst_34 rfl ?_
      obtain ⟨b7, h⟩ := gdS h
      obtain ⟨K8, eK8, h⟩ := nmS h
      refine v_iast C hD dX6_mendFirst_35 rfl (tk_4 hq) b7 eK8 ?_
      refine v_aload_n C dX6_mendFirst_36 rfl rfl 0 rfl ?_
      refine v_dup C dX6_mendFirst_37 rfl rfl ?_
      refine v_getf C dX6_mendFirst_38 rfl ff_X6_53 (tk_0 hq) rfl ?_
      refine v_iconst C dX6_mendFirst_41 rfl ic_1 ?_
      refine v_iadd C dX6_mendFirst_42 rfl ?_
      obtain ⟨K9, eK9, h⟩ := nmS h
      refine v_putf C hD dX6_mendFirst_43 rfl fp_X6_53 (tk_0 hq) rfl eK9 ?_
      obtain rfl := Option.some.inj h
      exact RET _ _ dX6_mendFirst_46
theorem wL_X6_mendFirst_2 {G : Ctx} {ad : Nat → Nat} {q : Nat} (C : Cx G RX6 cX6_mendFirst 2 0 0) (hD : ∀ K, va_D (gA G) (wd (gC G) ad K 0 shsK)) {res : Mem} (RET : RV G cX6_mendFirst 2 (wd (gC G) ad res 0 shsK)) (hq : isTown q) : ∀ (n : Nat) {a1 : Int32} {K : Mem} (h : L_X6_mendFirst_2 q n a1 K = some res), V G 2 (wd (gC G) ad K 0 shsK) 2 [(0, .ref (ad q)), (1, .int a1)] [] := by
  intro n
  induction n with
  | zero =>
    intro a1 K h
    cases (show (none : Option Mem) = some res from h)
  | succ n ih =>
    intro a1 K h
    exact wF_X6_mendFirst_2 (k2 := fun a1 K => L_X6_mendFirst_2 q n a1 K) C hD RET (fun h => ih h) hq h
def F_X6_mendFirst_0 (q : Nat) (K : Mem) : Option Mem :=
  L_X6_mendFirst_2 q FU 0 K
set_option maxRecDepth 100000 in
set_option maxHeartbeats 4000000 in
theorem wF_X6_mendFirst_0 {G : Ctx} {ad : Nat → Nat} {q : Nat} (C : Cx G RX6 cX6_mendFirst 2 0 0) (hD : ∀ K, va_D (gA G) (wd (gC G) ad K 0 shsK)) {res : Mem} (RET : RV G cX6_mendFirst 2 (wd (gC G) ad res 0 shsK)) (hq : isTown q) {K : Mem} (h : F_X6_mendFirst_0 q K = some res) : V G 2 (wd (gC G) ad K 0 shsK) 0 [(0, .ref (ad q))] [] := by
  unfold F_X6_mendFirst_0 at h
  refine v_iconst C dX6_mendFirst_0 rfl ic_0 ?_
  refine v_istore_n C dX6_mendFirst_1 rfl rfl (by decide) (L' := [(1, .int 0), (0, .ref (ad q))]) rfl ?_
  refine v_sub [1, 0] rfl ?_
  exact wL_X6_mendFirst_2 C hD RET hq FU h
def C_X6_mendFirst (q : Nat) (K : Mem) : Option Mem := F_X6_mendFirst_0 q K
set_option maxRecDepth 100000 in
theorem c_X6_mendFirst {l : Launch} {D : va_G} {cA : FieldType → ClassId} {X : Ex} {ad : Nat → Nat} {q : Nat} (hq : isTown q) {K : Mem} {K' : Mem} (h : C_X6_mendFirst q K = some K') : MV l D cA X yX6_mendFirst cX6_mendFirst 2 0 0 [.ref (ad q)] (wd cA ad K 0 shsK) (wd cA ad K' 0 shsK) :=
  mV_of (by decide +kernel) (Nat.le_of_ble_eq_true rfl) (fun G h1 h2 h3 h4 C hD RET => by subst h1 h2 h3 h4; exact wF_X6_mendFirst_0 C (fun K' => wd_D K' hD) RET hq h)
def F_X6_passNight_112 (q : Nat) (K : Mem) : Option Mem :=
  bd2 (C_X6_draw q K) fun r40 K39 =>
  gd (inb 2 3) <|
  if (K39 (q + 5) (Int32.toNatClampNeg 2)) ≤ (jrem r40 100) then (
    nm (up K39 q 11 ((K39 q 11) + 1)) fun K43 =>
    some K43
  ) else (
    bd (C_X6_mendFirst q K39) fun K45 =>
    nm (up K45 q 11 ((K45 q 11) + 1)) fun K46 =>
    some K46
  )
set_option maxRecDepth 100000 in
set_option maxHeartbeats 4000000 in
theorem wF_X6_passNight_112 {G : Ctx} {ad : Nat → Nat} {q : Nat} (C : Cx G RX6 cX6_passNight 3 5 115) (hD : ∀ K, va_D (gA G) (wd (gC G) ad K 0 shsK)) {res : Mem} (RET : RV G cX6_passNight 3 (wd (gC G) ad res 0 shsK)) (hq : isTown q) {K : Mem} (h : F_X6_passNight_112 q K = some res) : V G 3 (wd (gC G) ad K 0 shsK) 112 [(0, .ref (ad q))] [] := by
  unfold F_X6_passNight_112 at h
  refine v_aload_n C dX6_passNight_112 rfl rfl 0 rfl ?_
  obtain ⟨r40, K39, e38, h⟩ := bd2S h
  refine v_callVi C yv_X6_draw m_431 (c_X6_draw hq e38) (Sub.whole hD _ _) ⟨_, _, _, _, _, wd_at (tk_0 hq), rfl⟩ (As := []) rfl rfl (Nat.le_of_ble_eq_true rfl) ⟨Nat.le_of_ble_eq_true rfl, Nat.le_of_ble_eq_true rfl⟩ dX6_passNight_113 rfl ?_
  refine v_bipush C dX6_passNight_116 rfl bi_100 ?_
  refine v_irem C dX6_passNight_118 rfl (by decide) ?_
  refine v_aload_n C dX6_passNight_119 rfl rfl 0 rfl ?_
  refine v_getr C dX6_passNight_120 rfl ff_X6_24 (tk_0 hq) rfl ?_
  refine v_iconst C dX6_passNight_123 rfl ic_2 ?_
  obtain ⟨b41, h⟩ := gdS h
  refine v_iald C dX6_passNight_124 rfl (tk_5 hq) b41 ?_
  refine v_icmp_ge C dX6_passNight_125 (tgt := 132) (by decide) rfl (fun c42 => ?_) (fun c42 => ?_)
  · have h := ifp c42 h
    refine v_aload_n C dX6_passNight_132 rfl rfl 0 rfl ?_
    refine v_dup C dX6_passNight_133 rfl rfl ?_
    refine v_getf C dX6_passNight_134 rfl ff_X6_56 (tk_0 hq) rfl ?_
    refine v_iconst C dX6_passNight_137 rfl ic_1 ?_
    refine v_iadd C dX6_passNight_138 rfl ?_
    obtain ⟨K43, eK43, h⟩ := nmS h
    refine v_putf C hD dX6_passNight_139 rfl fp_X6_56 (tk_0 hq) rfl eK43 ?_
    obtain rfl := Option.some.inj h
    exact RET _ _ dX6_passNight_142
  · have h := ifn c42 h
    refine v_aload_n C dX6_passNight_128 rfl rfl 0 rfl ?_
    obtain ⟨K45, e44, h⟩ := bdS h
    refine v_callVv C yv_X6_mendFirst m_460 (c_X6_mendFirst hq e44) (Sub.whole hD _ _) ⟨_, _, _, _, _, wd_at (tk_0 hq), rfl⟩ (As := []) rfl rfl (Nat.le_of_ble_eq_true rfl) ⟨Nat.le_of_ble_eq_true rfl, Nat.le_of_ble_eq_true rfl⟩ dX6_passNight_129 rfl ?_
    refine v_aload_n C dX6_passNight_132 rfl rfl 0 rfl ?_
    refine v_dup C dX6_passNight_133 rfl rfl ?_
    refine v_getf C dX6_passNight_134 rfl ff_X6_56 (tk_0 hq) rfl ?_
    refine v_iconst C dX6_passNight_137 rfl ic_1 ?_
    refine v_iadd C dX6_passNight_138 rfl ?_
    obtain ⟨K46, eK46, h⟩ := nmS h
    refine v_putf C hD dX6_passNight_139 rfl fp_X6_56 (tk_0 hq) rfl eK46 ?_
    obtain rfl := Option.some.inj h
    exact RET _ _ dX6_passNight_142
def F_X6_passNight_65 (q : Nat) (K : Mem) : Option Mem :=
  bd2 (C_X6_draw q K) fun r23 K22 =>
  gd (inb 1 3) <|
  if (K22 (q + 5) (Int32.toNatClampNeg 1)) ≤ (jrem r23 100) then (
    F_X6_passNight_112 q K22
  ) else (
    if (K22 q 7) ≤ 0 then (
      F_X6_passNight_112 q K22
    ) else (
      bd2 (C_X6_draw q K22) fun r29 K28 =>
      gd (nz (K28 q 7)) <|
      nm (jrem r29 (K28 q 7)) fun v31 =>
      bd2 (C_X6_draw q K28) fun r34 K33 =>
      nm (jrem r34 8) fun v35 =>
      bd (C_X6_lose q v31 v35 K33) fun K37 =>
      F_X6_passNight_112 q K37
    )
  )
set_option maxRecDepth 100000 in
set_option maxHeartbeats 4000000 in
theorem wF_X6_passNight_65 {G : Ctx} {ad : Nat → Nat} {q : Nat} (C : Cx G RX6 cX6_passNight 3 5 115) (hD : ∀ K, va_D (gA G) (wd (gC G) ad K 0 shsK)) {res : Mem} (RET : RV G cX6_passNight 3 (wd (gC G) ad res 0 shsK)) (hq : isTown q) {K : Mem} (h : F_X6_passNight_65 q K = some res) : V G 3 (wd (gC G) ad K 0 shsK) 65 [(0, .ref (ad q))] [] := by
  unfold F_X6_passNight_65 at h
  refine v_aload_n C dX6_passNight_65 rfl rfl 0 rfl ?_
  obtain ⟨r23, K22, e21, h⟩ := bd2S h
  refine v_callVi C yv_X6_draw m_431 (c_X6_draw hq e21) (Sub.whole hD _ _) ⟨_, _, _, _, _, wd_at (tk_0 hq), rfl⟩ (As := []) rfl rfl (Nat.le_of_ble_eq_true rfl) ⟨Nat.le_of_ble_eq_true rfl, Nat.le_of_ble_eq_true rfl⟩ dX6_passNight_66 rfl ?_
  refine v_bipush C dX6_passNight_69 rfl bi_100 ?_
  refine v_irem C dX6_passNight_71 rfl (by decide) ?_
  refine v_aload_n C dX6_passNight_72 rfl rfl 0 rfl ?_
  refine v_getr C dX6_passNight_73 rfl ff_X6_24 (tk_0 hq) rfl ?_
  refine v_iconst C dX6_passNight_76 rfl ic_1 ?_
  obtain ⟨b24, h⟩ := gdS h
  refine v_iald C dX6_passNight_77 rfl (tk_5 hq) b24 ?_
  refine v_icmp_ge C dX6_passNight_78 (tgt := 112) (by decide) rfl (fun c25 => ?_) (fun c25 => ?_)
  · have h := ifp c25 h
    exact wF_X6_passNight_112 C hD RET hq h
  · have h := ifn c25 h
    refine v_aload_n C dX6_passNight_81 rfl rfl 0 rfl ?_
    refine v_getf C dX6_passNight_82 rfl ff_X6_44 (tk_0 hq) rfl ?_
    refine v_if_le C dX6_passNight_85 (tgt := 112) (by decide) rfl (fun c26 => ?_) (fun c26 => ?_)
    · have h := ifp c26 h
      exact wF_X6_passNight_112 C hD RET hq h
    · have h := ifn c26 h
      refine v_aload_n C dX6_passNight_88 rfl rfl 0 rfl ?_
      obtain ⟨r29, K28, e27, h⟩ := bd2S h
      refine v_callVi C yv_X6_draw m_431 (c_X6_draw hq e27) (Sub.whole hD _ _) ⟨_, _, _, _, _, wd_at (tk_0 hq), rfl⟩ (As := []) rfl rfl (Nat.le_of_ble_eq_true rfl) ⟨Nat.le_of_ble_eq_true rfl, Nat.le_of_ble_eq_true rfl⟩ dX6_passNight_89 rfl ?_
      refine v_aload_n C dX6_passNight_92 rfl rfl 0 rfl ?_
      refine v_getf C dX6_passNight_93 rfl ff_X6_44 (tk_0 hq) rfl ?_
      obtain ⟨b30, h⟩ := gdS h
      refine v_irem C dX6_passNight_96 rfl (nzS b30) ?_
      obtain ⟨v31, ev31, h⟩ := nmS h
      refine v_nmi ev31 ?_
      refine v_istore_n C dX6_passNight_97 rfl rfl (by decide) (L' := [(1, .int v31), (0, .ref (ad q))]) rfl ?_
      refine v_aload_n C dX6_passNight_98 rfl rfl 1 rfl ?_
      obtain ⟨r34, K33, e32, h⟩ := bd2S h
      refine v_callVi C yv_X6_draw m_431 (c_X6_draw hq e32) (Sub.whole hD _ _) ⟨_, _, _, _, _, wd_at (tk_0 hq), rfl⟩ (As := []) rfl rfl (Nat.le_of_ble_eq_true rfl) ⟨Nat.le_of_ble_eq_true rfl, Nat.le_of_ble_eq_true rfl⟩ dX6_passNight_99 rfl ?_
      refine v_bipush C dX6_passNight_102 rfl bi_8 ?_
      refine v_irem C dX6_passNight_104 rfl (by decide) ?_
      obtain ⟨v35, ev35, h⟩ := nmS h
      refine v_nmi ev35 ?_
      refine v_istore_n C dX6_passNight_105 rfl rfl (by decide) (L' := [(2, .int v35), (1, .int v31), (0, .ref (ad q))]) rfl ?_
      refine v_aload_n C dX6_passNight_106 rfl rfl 2 rfl ?_
      refine v_iload_n C dX6_passNight_107 rfl rfl 1 rfl ?_
      refine v_iload_n C dX6_passNight_108 rfl rfl 0 rfl ?_
      obtain ⟨K37, e36, h⟩ := bdS h
      refine v_callVv C yv_X6_lose m_456 (c_X6_lose hq e36) (Sub.whole hD _ _) ⟨_, _, _, _, _, wd_at (tk_0 hq), rfl⟩ (As := [.int v31, .int v35]) rfl rfl (Nat.le_of_ble_eq_true rfl) ⟨Nat.le_of_ble_eq_true rfl, Nat.le_of_ble_eq_true rfl⟩ dX6_passNight_109 rfl ?_
      refine v_sub [2] rfl ?_
      exact wF_X6_passNight_112 C hD RET hq h
def F_X6_passNight_43 (k43 : Int32 → Mem → Option Mem) (q : Nat) (a1 : Int32) (K : Mem) : Option Mem :=
  if 3 ≤ a1 then (
    F_X6_passNight_65 q K
  ) else (
    if (K q 7) ≤ 0 then (
      F_X6_passNight_65 q K
    ) else (
      bd (C_X6_walkSomewhere q K) fun K19 =>
      nm (a1 + 1) fun v20 =>
      k43 v20 K19
    )
  )
def L_X6_passNight_43 (q : Nat) : Nat → Int32 → Mem → Option Mem
  | 0, _, _ => none
  | n + 1, a1, K => F_X6_passNight_43 (fun a1 K => L_X6_passNight_43 q n a1 K) q a1 K
set_option maxRecDepth 100000 in
set_option maxHeartbeats 4000000 in
theorem wF_X6_passNight_43 {G : Ctx} {ad : Nat → Nat} {q : Nat} {k43 : Int32 → Mem → Option Mem} (C : Cx G RX6 cX6_passNight 3 5 115) (hD : ∀ K, va_D (gA G) (wd (gC G) ad K 0 shsK)) {res : Mem} (RET : RV G cX6_passNight 3 (wd (gC G) ad res 0 shsK)) (hk43 : ∀ {a1 : Int32} {K : Mem} , k43 a1 K = some res → V G 3 (wd (gC G) ad K 0 shsK) 43 [(0, .ref (ad q)), (1, .int a1)] []) (hq : isTown q) {a1 : Int32} {K : Mem} (h : F_X6_passNight_43 k43 q a1 K = some res) : V G 3 (wd (gC G) ad K 0 shsK) 43 [(0, .ref (ad q)), (1, .int a1)] [] := by
  unfold F_X6_passNight_43 at h
  refine v_iload_n C dX6_passNight_43 rfl rfl 1 rfl ?_
  refine v_iconst C dX6_passNight_44 rfl ic_3 ?_
  refine v_icmp_ge C dX6_passNight_45 (tgt := 65) (by decide) rfl (fun c16 => ?_) (fun c16 => ?_)
  · have h := ifp c16 h
    refine v_sub [0] rfl ?_
    exact wF_X6_passNight_65 C hD RET hq h
  · have h := ifn c16 h
    refine v_aload_n C dX6_passNight_48 rfl rfl 0 rfl ?_
    refine v_getf C dX6_passNight_49 rfl ff_X6_44 (tk_0 hq) rfl ?_
    refine v_if_le C dX6_passNight_52 (tgt := 65) (by decide) rfl (fun c17 => ?_) (fun c17 => ?_)
    · have h := ifp c17 h
      refine v_sub [0] rfl ?_
      exact wF_X6_passNight_65 C hD RET hq h
    · have h := ifn c17 h
      refine v_aload_n C dX6_passNight_55 rfl rfl 0 rfl ?_
      obtain ⟨K19, e18, h⟩ := bdS h
      refine v_callVv C yv_X6_walkSomewhere m_449 (c_X6_walkSomewhere hq e18) (Sub.whole hD _ _) ⟨_, _, _, _, _, wd_at (tk_0 hq), rfl⟩ (As := []) rfl rfl (Nat.le_of_ble_eq_true rfl) ⟨Nat.le_of_ble_eq_true rfl, Nat.le_of_ble_eq_true rfl⟩ dX6_passNight_56 rfl ?_
      obtain ⟨v20, ev20, h⟩ := nmS h
      refine v_iinc C dX6_passNight_59 rfl 1 rfl (v := v20) (by rw [ev20]; rfl) (by decide) (L' := [(1, .int v20), (0, .ref (ad q))]) rfl ?_
      refine v_goto C dX6_passNight_62 (tgt := 43) (by decide) ?_
      refine v_sub [1, 0] rfl ?_
      exact hk43 h
theorem wL_X6_passNight_43 {G : Ctx} {ad : Nat → Nat} {q : Nat} (C : Cx G RX6 cX6_passNight 3 5 115) (hD : ∀ K, va_D (gA G) (wd (gC G) ad K 0 shsK)) {res : Mem} (RET : RV G cX6_passNight 3 (wd (gC G) ad res 0 shsK)) (hq : isTown q) : ∀ (n : Nat) {a1 : Int32} {K : Mem} (h : L_X6_passNight_43 q n a1 K = some res), V G 3 (wd (gC G) ad K 0 shsK) 43 [(0, .ref (ad q)), (1, .int a1)] [] := by
  intro n
  induction n with
  | zero =>
    intro a1 K h
    cases (show (none : Option Mem) = some res from h)
  | succ n ih =>
    intro a1 K h
    exact wF_X6_passNight_43 (k43 := fun a1 K => L_X6_passNight_43 q n a1 K) C hD RET (fun h => ih h) hq h
def F_X6_passNight_0 (q : Nat) (K : Mem) : Option Mem :=
  bd2 (C_X6_draw q K) fun r3 K2 =>
  gd (inb 0 3) <|
  if (K2 (q + 5) (Int32.toNatClampNeg 0)) ≤ (jrem r3 100) then (
    L_X6_passNight_43 q FU 0 K2
  ) else (
    bd2 (C_X6_draw q K2) fun r8 K7 =>
    nm (jrem r8 6) fun v9 =>
    bd2 (C_X6_draw q K7) fun r12 K11 =>
    nm (1 + (jrem r12 9)) fun v13 =>
    bd (C_X6_add q v9 v13 0 K11) fun K15 =>
    L_X6_passNight_43 q FU 0 K15
  )
set_option maxRecDepth 100000 in
set_option maxHeartbeats 4000000 in
theorem wF_X6_passNight_0 {G : Ctx} {ad : Nat → Nat} {q : Nat} (C : Cx G RX6 cX6_passNight 3 5 115) (hD : ∀ K, va_D (gA G) (wd (gC G) ad K 0 shsK)) {res : Mem} (RET : RV G cX6_passNight 3 (wd (gC G) ad res 0 shsK)) (hq : isTown q) {K : Mem} (h : F_X6_passNight_0 q K = some res) : V G 3 (wd (gC G) ad K 0 shsK) 0 [(0, .ref (ad q))] [] := by
  unfold F_X6_passNight_0 at h
  refine v_aload_n C dX6_passNight_0 rfl rfl 0 rfl ?_
  obtain ⟨r3, K2, e1, h⟩ := bd2S h
  refine v_callVi C yv_X6_draw m_431 (c_X6_draw hq e1) (Sub.whole hD _ _) ⟨_, _, _, _, _, wd_at (tk_0 hq), rfl⟩ (As := []) rfl rfl (Nat.le_of_ble_eq_true rfl) ⟨Nat.le_of_ble_eq_true rfl, Nat.le_of_ble_eq_true rfl⟩ dX6_passNight_1 rfl ?_
  refine v_bipush C dX6_passNight_4 rfl bi_100 ?_
  refine v_irem C dX6_passNight_6 rfl (by decide) ?_
  refine v_aload_n C dX6_passNight_7 rfl rfl 0 rfl ?_
  refine v_getr C dX6_passNight_8 rfl ff_X6_24 (tk_0 hq) rfl ?_
  refine v_iconst C dX6_passNight_11 rfl ic_0 ?_
  obtain ⟨b4, h⟩ := gdS h
  refine v_iald C dX6_passNight_12 rfl (tk_5 hq) b4 ?_
  refine v_icmp_ge C dX6_passNight_13 (tgt := 41) (by decide) rfl (fun c5 => ?_) (fun c5 => ?_)
  · have h := ifp c5 h
    refine v_iconst C dX6_passNight_41 rfl ic_0 ?_
    refine v_istore_n C dX6_passNight_42 rfl rfl (by decide) (L' := [(1, .int 0), (0, .ref (ad q))]) rfl ?_
    refine v_sub [1, 0] rfl ?_
    exact wL_X6_passNight_43 C hD RET hq FU h
  · have h := ifn c5 h
    refine v_aload_n C dX6_passNight_16 rfl rfl 0 rfl ?_
    obtain ⟨r8, K7, e6, h⟩ := bd2S h
    refine v_callVi C yv_X6_draw m_431 (c_X6_draw hq e6) (Sub.whole hD _ _) ⟨_, _, _, _, _, wd_at (tk_0 hq), rfl⟩ (As := []) rfl rfl (Nat.le_of_ble_eq_true rfl) ⟨Nat.le_of_ble_eq_true rfl, Nat.le_of_ble_eq_true rfl⟩ dX6_passNight_17 rfl ?_
    refine v_bipush C dX6_passNight_20 rfl bi_6 ?_
    refine v_irem C dX6_passNight_22 rfl (by decide) ?_
    obtain ⟨v9, ev9, h⟩ := nmS h
    refine v_nmi ev9 ?_
    refine v_istore_n C dX6_passNight_23 rfl rfl (by decide) (L' := [(1, .int v9), (0, .ref (ad q))]) rfl ?_
    refine v_iconst C dX6_passNight_24 rfl ic_1 ?_
    refine v_aload_n C dX6_passNight_25 rfl rfl 1 rfl ?_
    obtain ⟨r12, K11, e10, h⟩ := bd2S h
    refine v_callVi C yv_X6_draw m_431 (c_X6_draw hq e10) (Sub.whole hD _ _) ⟨_, _, _, _, _, wd_at (tk_0 hq), rfl⟩ (As := []) rfl rfl (Nat.le_of_ble_eq_true rfl) ⟨Nat.le_of_ble_eq_true rfl, Nat.le_of_ble_eq_true rfl⟩ dX6_passNight_26 rfl ?_
    refine v_bipush C dX6_passNight_29 rfl bi_9 ?_
    refine v_irem C dX6_passNight_31 rfl (by decide) ?_
    refine v_iadd C dX6_passNight_32 rfl ?_
    obtain ⟨v13, ev13, h⟩ := nmS h
    refine v_nmi ev13 ?_
    refine v_istore_n C dX6_passNight_33 rfl rfl (by decide) (L' := [(2, .int v13), (1, .int v9), (0, .ref (ad q))]) rfl ?_
    refine v_aload_n C dX6_passNight_34 rfl rfl 2 rfl ?_
    refine v_iload_n C dX6_passNight_35 rfl rfl 1 rfl ?_
    refine v_iload_n C dX6_passNight_36 rfl rfl 0 rfl ?_
    refine v_iconst C dX6_passNight_37 rfl ic_0 ?_
    obtain ⟨K15, e14, h⟩ := bdS h
    refine v_callVv C yv_X6_add m_436 (c_X6_add hq e14) (Sub.whole hD _ _) ⟨_, _, _, _, _, wd_at (tk_0 hq), rfl⟩ (As := [.int v9, .int v13, .int 0]) rfl rfl (Nat.le_of_ble_eq_true rfl) ⟨Nat.le_of_ble_eq_true rfl, Nat.le_of_ble_eq_true rfl⟩ dX6_passNight_38 rfl ?_
    refine v_iconst C dX6_passNight_41 rfl ic_0 ?_
    refine v_istore_n C dX6_passNight_42 rfl rfl (by decide) (L' := [(1, .int 0), (2, .int v13), (0, .ref (ad q))]) rfl ?_
    refine v_sub [2, 0] rfl ?_
    exact wL_X6_passNight_43 C hD RET hq FU h
def C_X6_passNight (q : Nat) (K : Mem) : Option Mem := F_X6_passNight_0 q K
set_option maxRecDepth 100000 in
theorem c_X6_passNight {l : Launch} {D : va_G} {cA : FieldType → ClassId} {X : Ex} {ad : Nat → Nat} {q : Nat} (hq : isTown q) {K : Mem} {K' : Mem} (h : C_X6_passNight q K = some K') : MV l D cA X yX6_passNight cX6_passNight 3 5 115 [.ref (ad q)] (wd cA ad K 0 shsK) (wd cA ad K' 0 shsK) :=
  mV_of (by decide +kernel) (Nat.le_of_ble_eq_true rfl) (fun G h1 h2 h3 h4 C hD RET => by subst h1 h2 h3 h4; exact wF_X6_passNight_0 C (fun K' => wd_D K' hD) RET hq h)
def F_X6_passNights_2 (k2 : Int32 → Int32 → Mem → Option Mem) (q : Nat) (a1 : Int32) (a2 : Int32) (K : Mem) : Option Mem :=
  if a1 ≤ a2 then (
    some K
  ) else (
    bd (C_X6_passNight q K) fun K3 =>
    nm (a2 + 1) fun v4 =>
    k2 a1 v4 K3
  )
def L_X6_passNights_2 (q : Nat) : Nat → Int32 → Int32 → Mem → Option Mem
  | 0, _, _, _ => none
  | n + 1, a1, a2, K => F_X6_passNights_2 (fun a1 a2 K => L_X6_passNights_2 q n a1 a2 K) q a1 a2 K
set_option maxRecDepth 100000 in
set_option maxHeartbeats 4000000 in
theorem wF_X6_passNights_2 {G : Ctx} {ad : Nat → Nat} {q : Nat} {k2 : Int32 → Int32 → Mem → Option Mem} (C : Cx G RX6 cX6_passNights 3 6 137) (hD : ∀ K, va_D (gA G) (wd (gC G) ad K 0 shsK)) {res : Mem} (RET : RV G cX6_passNights 3 (wd (gC G) ad res 0 shsK)) (hk2 : ∀ {a1 : Int32} {a2 : Int32} {K : Mem} , k2 a1 a2 K = some res → V G 3 (wd (gC G) ad K 0 shsK) 2 [(0, .ref (ad q)), (1, .int a1), (2, .int a2)] []) (hq : isTown q) {a1 : Int32} {a2 : Int32} {K : Mem} (h : F_X6_passNights_2 k2 q a1 a2 K = some res) : V G 3 (wd (gC G) ad K 0 shsK) 2 [(0, .ref (ad q)), (1, .int a1), (2, .int a2)] [] := by
  unfold F_X6_passNights_2 at h
  refine v_iload_n C dX6_passNights_2 rfl rfl 2 rfl ?_
  refine v_iload_n C dX6_passNights_3 rfl rfl 1 rfl ?_
  refine v_icmp_ge C dX6_passNights_4 (tgt := 17) (by decide) rfl (fun c1 => ?_) (fun c1 => ?_)
  · have h := ifp c1 h
    obtain rfl := Option.some.inj h
    exact RET _ _ dX6_passNights_17
  · have h := ifn c1 h
    refine v_aload_n C dX6_passNights_7 rfl rfl 0 rfl ?_
    obtain ⟨K3, e2, h⟩ := bdS h
    refine v_callVv C yv_X6_passNight m_546 (c_X6_passNight hq e2) (Sub.whole hD _ _) ⟨_, _, _, _, _, wd_at (tk_0 hq), rfl⟩ (As := []) rfl rfl (Nat.le_of_ble_eq_true rfl) ⟨Nat.le_of_ble_eq_true rfl, Nat.le_of_ble_eq_true rfl⟩ dX6_passNights_8 rfl ?_
    obtain ⟨v4, ev4, h⟩ := nmS h
    refine v_iinc C dX6_passNights_11 rfl 2 rfl (v := v4) (by rw [ev4]; rfl) (by decide) (L' := [(2, .int v4), (0, .ref (ad q)), (1, .int a1)]) rfl ?_
    refine v_goto C dX6_passNights_14 (tgt := 2) (by decide) ?_
    refine v_sub [1, 2, 0] rfl ?_
    exact hk2 h
theorem wL_X6_passNights_2 {G : Ctx} {ad : Nat → Nat} {q : Nat} (C : Cx G RX6 cX6_passNights 3 6 137) (hD : ∀ K, va_D (gA G) (wd (gC G) ad K 0 shsK)) {res : Mem} (RET : RV G cX6_passNights 3 (wd (gC G) ad res 0 shsK)) (hq : isTown q) : ∀ (n : Nat) {a1 : Int32} {a2 : Int32} {K : Mem} (h : L_X6_passNights_2 q n a1 a2 K = some res), V G 3 (wd (gC G) ad K 0 shsK) 2 [(0, .ref (ad q)), (1, .int a1), (2, .int a2)] [] := by
  intro n
  induction n with
  | zero =>
    intro a1 a2 K h
    cases (show (none : Option Mem) = some res from h)
  | succ n ih =>
    intro a1 a2 K h
    exact wF_X6_passNights_2 (k2 := fun a1 a2 K => L_X6_passNights_2 q n a1 a2 K) C hD RET (fun h => ih h) hq h
def F_X6_passNights_0 (q : Nat) (a1 : Int32) (K : Mem) : Option Mem :=
  L_X6_passNights_2 q FU a1 0 K
set_option maxRecDepth 100000 in
set_option maxHeartbeats 4000000 in
theorem wF_X6_passNights_0 {G : Ctx} {ad : Nat → Nat} {q : Nat} (C : Cx G RX6 cX6_passNights 3 6 137) (hD : ∀ K, va_D (gA G) (wd (gC G) ad K 0 shsK)) {res : Mem} (RET : RV G cX6_passNights 3 (wd (gC G) ad res 0 shsK)) (hq : isTown q) {a1 : Int32} {K : Mem} (h : F_X6_passNights_0 q a1 K = some res) : V G 3 (wd (gC G) ad K 0 shsK) 0 [(0, .ref (ad q)), (1, .int a1)] [] := by
  unfold F_X6_passNights_0 at h
  refine v_iconst C dX6_passNights_0 rfl ic_0 ?_
  refine v_istore_n C dX6_passNights_1 rfl rfl (by decide) (L' := [(2, .int 0), (0, .ref (ad q)), (1, .int a1)]) rfl ?_
  refine v_sub [1, 2, 0] rfl ?_
  exact wL_X6_passNights_2 C hD RET hq FU h
def C_X6_passNights (q : Nat) (a1 : Int32) (K : Mem) : Option Mem := F_X6_passNights_0 q a1 K
set_option maxRecDepth 100000 in
theorem c_X6_passNights {l : Launch} {D : va_G} {cA : FieldType → ClassId} {X : Ex} {ad : Nat → Nat} {q : Nat} (hq : isTown q) {a1 : Int32} {K : Mem} {K' : Mem} (h : C_X6_passNights q a1 K = some K') : MV l D cA X yX6_passNights cX6_passNights 3 6 137 [.ref (ad q), .int a1] (wd cA ad K 0 shsK) (wd cA ad K' 0 shsK) :=
  mV_of (by decide +kernel) (Nat.le_of_ble_eq_true rfl) (fun G h1 h2 h3 h4 C hD RET => by subst h1 h2 h3 h4; exact wF_X6_passNights_0 C (fun K' => wd_D K' hD) RET hq h)
def F_X7_begin_8 (k8 : Int32 → Int32 → Int32 → Int32 → Mem → Option (Int32 × Mem)) (q1 : Nat) (a2 : Int32) (a3 : Int32) (a4 : Int32) (a5 : Int32) (K : Mem) : Option (Int32 × Mem) :=
  if (K q1 7) ≤ a5 then (
    gd (inb a2 12) <|
    gd (inb a2 12) <|
    nm (up K 44 (Int32.toNatClampNeg a2) ((K 43 (Int32.toNatClampNeg a2)) &&& (jshl 1 a3))) fun K4 =>
    gd (inb a2 12) <|
    gd (inb a2 12) <|
    gd (inb a2 12) <|
    nm (up K4 43 (Int32.toNatClampNeg a2) ((K4 43 (Int32.toNatClampNeg a2)) &&& ((K4 44 (Int32.toNatClampNeg a2)) ^^^ (-1)))) fun K8 =>
    gd (inb a2 12) <|
    bd (C_J6_bitCount_0f7a4 (K8 44 (Int32.toNatClampNeg a2))) fun r11 =>
    some (r11, K8)
  ) else (
    bd (C_X6_holdingOn q1 K a5 a4) fun r13 =>
    gd (inb a5 12) <|
    nm (up K 43 (Int32.toNatClampNeg a5) r13) fun K15 =>
    gd (inb a5 12) <|
    nm (up K15 44 (Int32.toNatClampNeg a5) 0) fun K17 =>
    nm (a5 + 1) fun v18 =>
    k8 a2 a3 r13 v18 K17
  )
def L_X7_begin_8 (q1 : Nat) : Nat → Int32 → Int32 → Int32 → Int32 → Mem → Option (Int32 × Mem)
  | 0, _, _, _, _, _ => none
  | n + 1, a2, a3, a4, a5, K => F_X7_begin_8 (fun a2 a3 a4 a5 K => L_X7_begin_8 q1 n a2 a3 a4 a5 K) q1 a2 a3 a4 a5 K
set_option maxRecDepth 100000 in
set_option maxHeartbeats 4000000 in
theorem wF_X7_begin_8 {G : Ctx} {ad : Nat → Nat} {q1 : Nat} {k8 : Int32 → Int32 → Int32 → Int32 → Mem → Option (Int32 × Mem)} (C : Cx G RX7 cX7_begin 6 3 63) (hD : ∀ K, va_D (gA G) (wd (gC G) ad K 0 shsK)) {res : (Int32 × Mem)} (RET : RI G cX7_begin 6 (wd (gC G) ad res.2 0 shsK) res.1) (hk8 : ∀ {a2 : Int32} {a3 : Int32} {a4 : Int32} {a5 : Int32} {K : Mem} , k8 a2 a3 a4 a5 K = some res → V G 6 (wd (gC G) ad K 0 shsK) 8 [(0, .ref (ad 42)), (1, .ref (ad q1)), (2, .int a2), (3, .int a3), (4, .int a4), (5, .int a5)] []) (hq1 : isTown q1) {a2 : Int32} {a3 : Int32} {a4 : Int32} {a5 : Int32} {K : Mem} (h : F_X7_begin_8 k8 q1 a2 a3 a4 a5 K = some res) : V G 6 (wd (gC G) ad K 0 shsK) 8 [(0, .ref (ad 42)), (1, .ref (ad q1)), (2, .int a2), (3, .int a3), (4, .int a4), (5, .int a5)] [] := by
  unfold F_X7_begin_8 at h
  refine v_iload C dX7_begin_8 rfl 5 rfl ?_
  refine v_aload_n C dX7_begin_10 rfl rfl 1 rfl ?_
  refine v_getf C dX7_begin_11 rfl ff_X7_30 (tk_0 hq1) rfl ?_
  refine v_icmp_ge C dX7_begin_14 (tgt := 50) (by decide) rfl (fun c1 => ?_) (fun c1 => ?_)
  · have h := ifp c1 h
    refine v_aload_n C dX7_begin_50 rfl rfl 0 rfl ?_
    refine v_getr C dX7_begin_51 rfl ff_X7_15 sk_42 rfl ?_
    refine v_iload_n C dX7_begin_54 rfl rfl 2 rfl ?_
    refine v_aload_n C dX7_begin_55 rfl rfl 0 rfl ?_
    refine v_getr C dX7_begin_56 rfl ff_X7_9 sk_42 rfl ?_
    refine v_iload_n C dX7_begin_59 rfl rfl 2 rfl ?_
    obtain ⟨b2, h⟩ := gdS h
    refine v_iald C dX7_begin_60 rfl sk_43 b2 ?_
    refine v_iconst C dX7_begin_61 rfl ic_1 ?_
    refine v_iload_n C dX7_begin_62 rfl rfl 3 rfl ?_
    refine v_ishl C dX7_begin_63 rfl ?_
    refine v_iand C dX7_begin_64 rfl ?_
    obtain ⟨b3, h⟩ := gdS h
    obtain ⟨K4, eK4, h⟩ := nmS h
    refine v_iast C hD dX7_begin_65 rfl sk_44 b3 eK4 ?_
    refine v_aload_n C dX7_begin_66 rfl rfl 0 rfl ?_
    refine v_getr C dX7_begin_67 rfl ff_X7_9 sk_42 rfl ?_
    refine v_iload_n C dX7_begin_70 rfl rfl 2 rfl ?_
    refine v_dup2 C dX7_begin_71 rfl rfl rfl ?_
    obtain ⟨b5, h⟩ := gdS h
    refine v_iald C dX7_begin_72 rfl sk_43 b5 ?_
    refine v_aload_n C dX7_begin_73 rfl rfl 0 rfl ?_
    refine v_getr C dX7_begin_74 rfl ff_X7_15 sk_42 rfl ?_
    refine v_iload_n C dX7_begin_77 rfl rfl 2 rfl ?_
    obtain ⟨b6, h⟩ := gdS h
    refine v_iald C dX7_begin_78 rfl sk_44 b6 ?_
    refine v_iconst C dX7_begin_79 rfl ic_n1 ?_
    refine v_ixor C dX7_begin_80 rfl ?_
    refine v_iand C dX7_begin_81 rfl ?_
    obtain ⟨b7, h⟩ := gdS h
    obtain ⟨K8, eK8, h⟩ := nmS h
    refine v_iast C hD dX7_begin_82 rfl sk_43 b7 eK8 ?_
    refine v_aload_n C dX7_begin_83 rfl rfl 0 rfl ?_
    refine v_getr C dX7_begin_84 rfl ff_X7_15 sk_42 rfl ?_
    refine v_iload_n C dX7_begin_87 rfl rfl 2 rfl ?_
    obtain ⟨b9, h⟩ := gdS h
    refine v_iald C dX7_begin_88 rfl sk_44 b9 ?_
    obtain ⟨r11, e10, h⟩ := bdS h
    refine v_callSi C ys_J6_bitCount_0f7a4 m_485 (c_J6_bitCount_0f7a4 e10) (Sub.whole hD _ _) (As := [.int (K8 44 (Int32.toNatClampNeg a2))]) rfl rfl (Nat.le_of_ble_eq_true rfl) ⟨Nat.le_of_ble_eq_true rfl, Nat.le_of_ble_eq_true rfl⟩ dX7_begin_89 rfl ?_
    obtain rfl := Option.some.inj h
    exact RET _ _ dX7_begin_92
  · have h := ifn c1 h
    refine v_aload_n C dX7_begin_17 rfl rfl 1 rfl ?_
    refine v_iload C dX7_begin_18 rfl 5 rfl ?_
    refine v_iload C dX7_begin_20 rfl 4 rfl ?_
    obtain ⟨r13, e12, h⟩ := bdS h
    refine v_callVi C yv_X6_holdingOn m_484 (c_X6_holdingOn hq1 e12) (Sub.whole hD _ _) ⟨_, _, _, _, _, wd_at (tk_0 hq1), rfl⟩ (As := [.int a5, .int a4]) rfl rfl (Nat.le_of_ble_eq_true rfl) ⟨Nat.le_of_ble_eq_true rfl, Nat.le_of_ble_eq_true rfl⟩ dX7_begin_22 rfl ?_
    refine v_istore C dX7_begin_25 rfl (by decide) (L' := [(4, .int r13), (0, .ref (ad 42)), (1, .ref (ad q1)), (2, .int a2), (3, .int a3), (5, .int a5)]) rfl ?_
    refine v_aload_n C dX7_begin_27 rfl rfl 1 rfl ?_
    refine v_getr C dX7_begin_28 rfl ff_X7_9 sk_42 rfl ?_
    refine v_iload C dX7_begin_31 rfl 5 rfl ?_
    refine v_iload C dX7_begin_33 rfl 0 rfl ?_
    obtain ⟨b14, h⟩ := gdS h
    obtain ⟨K15, eK15, h⟩ := nmS h
    refine v_iast C hD dX7_begin_35 rfl sk_43 b14 eK15 ?_
    refine v_aload_n C dX7_begin_36 rfl rfl 1 rfl ?_
    refine v_getr C dX7_begin_37 rfl ff_X7_15 sk_42 rfl ?_
    refine v_iload C dX7_begin_40 rfl 5 rfl ?_
    refine v_iconst C dX7_begin_42 rfl ic_0 ?_
    obtain ⟨b16, h⟩ := gdS h
    obtain ⟨K17, eK17, h⟩ := nmS h
    refine v_iast C hD dX7_begin_43 rfl sk_44 b16 eK17 ?_
    obtain ⟨v18, ev18, h⟩ := nmS h
    refine v_iinc C dX7_begin_44 rfl 5 rfl (v := v18) (by rw [ev18]; rfl) (by decide) (L' := [(5, .int v18), (4, .int r13), (0, .ref (ad 42)), (1, .ref (ad q1)), (2, .int a2), (3, .int a3)]) rfl ?_
    refine v_goto C dX7_begin_47 (tgt := 8) (by decide) ?_
    refine v_sub [2, 3, 4, 5, 1, 0] rfl ?_
    exact hk8 h
theorem wL_X7_begin_8 {G : Ctx} {ad : Nat → Nat} {q1 : Nat} (C : Cx G RX7 cX7_begin 6 3 63) (hD : ∀ K, va_D (gA G) (wd (gC G) ad K 0 shsK)) {res : (Int32 × Mem)} (RET : RI G cX7_begin 6 (wd (gC G) ad res.2 0 shsK) res.1) (hq1 : isTown q1) : ∀ (n : Nat) {a2 : Int32} {a3 : Int32} {a4 : Int32} {a5 : Int32} {K : Mem} (h : L_X7_begin_8 q1 n a2 a3 a4 a5 K = some res), V G 6 (wd (gC G) ad K 0 shsK) 8 [(0, .ref (ad 42)), (1, .ref (ad q1)), (2, .int a2), (3, .int a3), (4, .int a4), (5, .int a5)] [] := by
  intro n
  induction n with
  | zero =>
    intro a2 a3 a4 a5 K h
    cases (show (none : Option (Int32 × Mem)) = some res from h)
  | succ n ih =>
    intro a2 a3 a4 a5 K h
    exact wF_X7_begin_8 (k8 := fun a2 a3 a4 a5 K => L_X7_begin_8 q1 n a2 a3 a4 a5 K) C hD RET (fun h => ih h) hq1 h
def F_X7_begin_0 (q1 : Nat) (a2 : Int32) (a3 : Int32) (K : Mem) : Option (Int32 × Mem) :=
  L_X7_begin_8 q1 FU a2 a3 255 0 K
set_option maxRecDepth 100000 in
set_option maxHeartbeats 4000000 in
theorem wF_X7_begin_0 {G : Ctx} {ad : Nat → Nat} {q1 : Nat} (C : Cx G RX7 cX7_begin 6 3 63) (hD : ∀ K, va_D (gA G) (wd (gC G) ad K 0 shsK)) {res : (Int32 × Mem)} (RET : RI G cX7_begin 6 (wd (gC G) ad res.2 0 shsK) res.1) (hq1 : isTown q1) {a2 : Int32} {a3 : Int32} {K : Mem} (h : F_X7_begin_0 q1 a2 a3 K = some res) : V G 6 (wd (gC G) ad K 0 shsK) 0 [(0, .ref (ad 42)), (1, .ref (ad q1)), (2, .int a2), (3, .int a3)] [] := by
  unfold F_X7_begin_0 at h
  refine v_sipush C dX7_begin_0 rfl si_255 ?_
  refine v_istore C dX7_begin_3 rfl (by decide) (L' := [(4, .int 255), (0, .ref (ad 42)), (1, .ref (ad q1)), (2, .int a2), (3, .int a3)]) rfl ?_
  refine v_iconst C dX7_begin_5 rfl ic_0 ?_
  refine v_istore C dX7_begin_6 rfl (by decide) (L' := [(5, .int 0), (4, .int 255), (0, .ref (ad 42)), (1, .ref (ad q1)), (2, .int a2), (3, .int a3)]) rfl ?_
  refine v_sub [2, 3, 4, 5, 1, 0] rfl ?_
  exact wL_X7_begin_8 C hD RET hq1 FU h
def C_X7_begin (q1 : Nat) (a2 : Int32) (a3 : Int32) (K : Mem) : Option (Int32 × Mem) := F_X7_begin_0 q1 a2 a3 K
set_option maxRecDepth 100000 in
theorem c_X7_begin {l : Launch} {D : va_G} {cA : FieldType → ClassId} {X : Ex} {ad : Nat → Nat} {q1 : Nat} (hq1 : isTown q1) {a2 : Int32} {a3 : Int32} {K : Mem} {r : Int32} {K' : Mem} (h : C_X7_begin q1 a2 a3 K = some (r, K')) : MI l D cA X yX7_begin cX7_begin 6 (some .int) 3 63 [.ref (ad 42), .ref (ad q1), .int a2, .int a3] (wd cA ad K 0 shsK) (wd cA ad K' 0 shsK) r :=
  mI_of (by decide +kernel) (Nat.le_of_ble_eq_true rfl) (fun G h1 h2 h3 h4 C hD RET => by subst h1 h2 h3 h4; exact wF_X7_begin_0 C (fun K' => wd_D K' hD) RET hq1 h)
def F_X7_near_42 (q1 : Nat) (K : Mem) (a2 : Int32) (a3 : Int32) : Option Int32 :=
  if (K q1 7) ≤ (a2 + 1) then (
    some a3
  ) else (
    gd (inb (a2 + 1) 12) <|
    gd (inb (a2 + 1) 12) <|
    bd (C_X0_under (K (q1 + 1) (Int32.toNatClampNeg (a2 + 1))) (K 44 (Int32.toNatClampNeg (a2 + 1)))) fun r14 =>
    nm (a3 ||| r14) fun v15 =>
    some v15
  )
set_option maxRecDepth 100000 in
set_option maxHeartbeats 4000000 in
theorem wF_X7_near_42 {G : Ctx} {ad : Nat → Nat} {q1 : Nat} {K : Mem} (C : Cx G RX7 cX7_near 4 2 41) (hD : ∀ K, va_D (gA G) (wd (gC G) ad K 0 shsK)) {res : Int32} (RET : RI G cX7_near 4 (wd (gC G) ad K 0 shsK) res) (hq1 : isTown q1) {a2 : Int32} {a3 : Int32} (h : F_X7_near_42 q1 K a2 a3 = some res) : V G 4 (wd (gC G) ad K 0 shsK) 42 [(0, .ref (ad 42)), (1, .ref (ad q1)), (2, .int a2), (3, .int a3)] [] := by
  unfold F_X7_near_42 at h
  refine v_iload_n C dX7_near_42 rfl rfl 2 rfl ?_
  refine v_iconst C dX7_near_43 rfl ic_1 ?_
  refine v_iadd C dX7_near_44 rfl ?_
  refine v_aload_n C dX7_near_45 rfl rfl 1 rfl ?_
  refine v_getf C dX7_near_46 rfl ff_X7_30 (tk_0 hq1) rfl ?_
  refine v_icmp_ge C dX7_near_49 (tgt := 74) (by decide) rfl (fun c10 => ?_) (fun c10 => ?_)
  · have h := ifp c10 h
    refine v_iload_n C dX7_near_74 rfl rfl 3 rfl ?_
    obtain rfl := Option.some.inj h
    exact RET _ _ dX7_near_75
  · have h := ifn c10 h
    refine v_iload_n C dX7_near_52 rfl rfl 3 rfl ?_
    refine v_aload_n C dX7_near_53 rfl rfl 1 rfl ?_
    refine v_getr C dX7_near_54 rfl ff_X7_50 (tk_0 hq1) rfl ?_
    refine v_iload_n C dX7_near_57 rfl rfl 2 rfl ?_
    refine v_iconst C dX7_near_58 rfl ic_1 ?_
    refine v_iadd C dX7_near_59 rfl ?_
    obtain ⟨b11, h⟩ := gdS h
    refine v_iald C dX7_near_60 rfl (tk_1 hq1) b11 ?_
    refine v_aload_n C dX7_near_61 rfl rfl 0 rfl ?_
    refine v_getr C dX7_near_62 rfl ff_X7_15 sk_42 rfl ?_
    refine v_iload_n C dX7_near_65 rfl rfl 2 rfl ?_
    refine v_iconst C dX7_near_66 rfl ic_1 ?_
    refine v_iadd C dX7_near_67 rfl ?_
    obtain ⟨b12, h⟩ := gdS h
    refine v_iald C dX7_near_68 rfl sk_44 b12 ?_
    obtain ⟨r14, e13, h⟩ := bdS h
    refine v_callSi C ys_X0_under m_497 (c_X0_under e13) (Sub.whole hD _ _) (As := [.int (K (q1 + 1) (Int32.toNatClampNeg (a2 + 1))), .int (K 44 (Int32.toNatClampNeg (a2 + 1)))]) rfl rfl (Nat.le_of_ble_eq_true rfl) ⟨Nat.le_of_ble_eq_true rfl, Nat.le_of_ble_eq_true rfl⟩ dX7_near_69 rfl ?_
    refine v_ior C dX7_near_72 rfl ?_
    obtain ⟨v15, ev15, h⟩ := nmS h
    refine v_nmi ev15 ?_
    refine v_istore_n C dX7_near_73 rfl rfl (by decide) (L' := [(3, .int v15), (0, .ref (ad 42)), (1, .ref (ad q1)), (2, .int a2)]) rfl ?_
    refine v_iload_n C dX7_near_74 rfl rfl 0 rfl ?_
    obtain rfl := Option.some.inj h
    exact RET _ _ dX7_near_75
def F_X7_near_0 (q1 : Nat) (K : Mem) (a2 : Int32) : Option Int32 :=
  gd (inb a2 12) <|
  gd (inb a2 12) <|
  nm ((jshl (K 44 (Int32.toNatClampNeg a2)) 1) ||| (jshr (K 44 (Int32.toNatClampNeg a2)) 1)) fun v3 =>
  if a2 ≤ 0 then (
    F_X7_near_42 q1 K a2 v3
  ) else (
    gd (inb a2 12) <|
    gd (inb (a2 - 1) 12) <|
    bd (C_X0_over (K (q1 + 1) (Int32.toNatClampNeg a2)) (K 44 (Int32.toNatClampNeg (a2 - 1)))) fun r8 =>
    nm (v3 ||| r8) fun v9 =>
    F_X7_near_42 q1 K a2 v9
  )
set_option maxRecDepth 100000 in
set_option maxHeartbeats 4000000 in
theorem wF_X7_near_0 {G : Ctx} {ad : Nat → Nat} {q1 : Nat} {K : Mem} (C : Cx G RX7 cX7_near 4 2 41) (hD : ∀ K, va_D (gA G) (wd (gC G) ad K 0 shsK)) {res : Int32} (RET : RI G cX7_near 4 (wd (gC G) ad K 0 shsK) res) (hq1 : isTown q1) {a2 : Int32} (h : F_X7_near_0 q1 K a2 = some res) : V G 4 (wd (gC G) ad K 0 shsK) 0 [(0, .ref (ad 42)), (1, .ref (ad q1)), (2, .int a2)] [] := by
  unfold F_X7_near_0 at h
  refine v_aload_n C dX7_near_0 rfl rfl 0 rfl ?_
  refine v_getr C dX7_near_1 rfl ff_X7_15 sk_42 rfl ?_
  refine v_iload_n C dX7_near_4 rfl rfl 2 rfl ?_
  obtain ⟨b1, h⟩ := gdS h
  refine v_iald C dX7_near_5 rfl sk_44 b1 ?_
  refine v_iconst C dX7_near_6 rfl ic_1 ?_
  refine v_ishl C dX7_near_7 rfl ?_
  refine v_aload_n C dX7_near_8 rfl rfl 0 rfl ?_
  refine v_getr C dX7_near_9 rfl ff_X7_15 sk_42 rfl ?_
  refine v_iload_n C dX7_near_12 rfl rfl 2 rfl ?_
  obtain ⟨b2, h⟩ := gdS h
  refine v_iald C dX7_near_13 rfl sk_44 b2 ?_
  refine v_iconst C dX7_near_14 rfl ic_1 ?_
  refine v_ishr C dX7_near_15 rfl ?_
  refine v_ior C dX7_near_16 rfl ?_
  obtain ⟨v3, ev3, h⟩ := nmS h
  refine v_nmi ev3 ?_
  refine v_istore_n C dX7_near_17 rfl rfl (by decide) (L' := [(3, .int v3), (0, .ref (ad 42)), (1, .ref (ad q1)), (2, .int a2)]) rfl ?_
  refine v_iload_n C dX7_near_18 rfl rfl 3 rfl ?_
  refine v_if_le C dX7_near_19 (tgt := 42) (by decide) rfl (fun c4 => ?_) (fun c4 => ?_)
  · have h := ifp c4 h
    refine v_sub [1, 2, 3, 0] rfl ?_
    exact wF_X7_near_42 C hD RET hq1 h
  · have h := ifn c4 h
    refine v_iload_n C dX7_near_22 rfl rfl 0 rfl ?_
    refine v_aload_n C dX7_near_23 rfl rfl 2 rfl ?_
    refine v_getr C dX7_near_24 rfl ff_X7_50 (tk_0 hq1) rfl ?_
    refine v_iload_n C dX7_near_27 rfl rfl 3 rfl ?_
    obtain ⟨b5, h⟩ := gdS h
    refine v_iald C dX7_near_28 rfl (tk_1 hq1) b5 ?_
    refine v_aload_n C dX7_near_29 rfl rfl 1 rfl ?_
    refine v_getr C dX7_near_30 rfl ff_X7_15 sk_42 rfl ?_
    refine v_iload_n C dX7_near_33 rfl rfl 3 rfl ?_
    refine v_iconst C dX7_near_34 rfl ic_1 ?_
    refine v_isub C dX7_near_35 rfl ?_
    obtain ⟨b6, h⟩ := gdS h
    refine v_iald C dX7_near_36 rfl sk_44 b6 ?_
    obtain ⟨r8, e7, h⟩ := bdS h
    refine v_callSi C ys_X0_over m_494 (c_X0_over e7) (Sub.whole hD _ _) (As := [.int (K (q1 + 1) (Int32.toNatClampNeg a2)), .int (K 44 (Int32.toNatClampNeg (a2 - 1)))]) rfl rfl (Nat.le_of_ble_eq_true rfl) ⟨Nat.le_of_ble_eq_true rfl, Nat.le_of_ble_eq_true rfl⟩ dX7_near_37 rfl ?_
    refine v_ior C dX7_near_40 rfl ?_
    obtain ⟨v9, ev9, h⟩ := nmS h
    refine v_nmi ev9 ?_
    refine v_istore_n C dX7_near_41 rfl rfl (by decide) (L' := [(3, .int v9), (0, .ref (ad 42)), (1, .ref (ad q1)), (2, .int a2)]) rfl ?_
    refine v_sub [1, 2, 3, 0] rfl ?_
    exact wF_X7_near_42 C hD RET hq1 h
def C_X7_near (q1 : Nat) (K : Mem) (a2 : Int32) : Option Int32 := F_X7_near_0 q1 K a2
set_option maxRecDepth 100000 in
theorem c_X7_near {l : Launch} {D : va_G} {cA : FieldType → ClassId} {X : Ex} {ad : Nat → Nat} {q1 : Nat} (hq1 : isTown q1) {a2 : Int32} {K : Mem} {r : Int32} (h : C_X7_near q1 K a2 = some r) : MI l D cA X yX7_near cX7_near 4 (some .int) 2 41 [.ref (ad 42), .ref (ad q1), .int a2] (wd cA ad K 0 shsK) (wd cA ad K 0 shsK) r :=
  mI_of (by decide +kernel) (Nat.le_of_ble_eq_true rfl) (fun G h1 h2 h3 h4 C hD RET => by subst h1 h2 h3 h4; exact wF_X7_near_0 C (fun K' => wd_D K' hD) RET hq1 h)
def F_X7_step_51 (k51 : Int32 → Int32 → Mem → Option (Int32 × Mem)) (q1 : Nat) (a2 : Int32) (a3 : Int32) (K : Mem) : Option (Int32 × Mem) :=
  if (K q1 7) ≤ a3 then (
    some (a2, K)
  ) else (
    gd (inb a3 12) <|
    gd (inb a3 12) <|
    gd (inb a3 12) <|
    nm (up K 43 (Int32.toNatClampNeg a3) ((K 43 (Int32.toNatClampNeg a3)) &&& ((K 45 (Int32.toNatClampNeg a3)) ^^^ (-1)))) fun K16 =>
    gd (inb a3 12) <|
    gd (inb a3 12) <|
    nm (up K16 44 (Int32.toNatClampNeg a3) (K16 45 (Int32.toNatClampNeg a3))) fun K19 =>
    nm (a3 + 1) fun v20 =>
    k51 a2 v20 K19
  )
def L_X7_step_51 (q1 : Nat) : Nat → Int32 → Int32 → Mem → Option (Int32 × Mem)
  | 0, _, _, _ => none
  | n + 1, a2, a3, K => F_X7_step_51 (fun a2 a3 K => L_X7_step_51 q1 n a2 a3 K) q1 a2 a3 K
set_option maxRecDepth 100000 in
set_option maxHeartbeats 4000000 in
theorem wF_X7_step_51 {G : Ctx} {ad : Nat → Nat} {q1 : Nat} {k51 : Int32 → Int32 → Mem → Option (Int32 × Mem)} (C : Cx G RX7 cX7_step 4 3 64) (hD : ∀ K, va_D (gA G) (wd (gC G) ad K 0 shsK)) {res : (Int32 × Mem)} (RET : RI G cX7_step 4 (wd (gC G) ad res.2 0 shsK) res.1) (hk51 : ∀ {a2 : Int32} {a3 : Int32} {K : Mem} , k51 a2 a3 K = some res → V G 4 (wd (gC G) ad K 0 shsK) 51 [(0, .ref (ad 42)), (1, .ref (ad q1)), (2, .int a2), (3, .int a3)] []) (hq1 : isTown q1) {a2 : Int32} {a3 : Int32} {K : Mem} (h : F_X7_step_51 k51 q1 a2 a3 K = some res) : V G 4 (wd (gC G) ad K 0 shsK) 51 [(0, .ref (ad 42)), (1, .ref (ad q1)), (2, .int a2), (3, .int a3)] [] := by
  unfold F_X7_step_51 at h
  refine v_iload_n C dX7_step_51 rfl rfl 3 rfl ?_
  refine v_aload_n C dX7_step_52 rfl rfl 1 rfl ?_
  refine v_getf C dX7_step_53 rfl ff_X7_30 (tk_0 hq1) rfl ?_
  refine v_icmp_ge C dX7_step_56 (tgt := 94) (by decide) rfl (fun c12 => ?_) (fun c12 => ?_)
  · have h := ifp c12 h
    refine v_iload_n C dX7_step_94 rfl rfl 2 rfl ?_
    obtain rfl := Option.some.inj h
    exact RET _ _ dX7_step_95
  · have h := ifn c12 h
    refine v_aload_n C dX7_step_59 rfl rfl 0 rfl ?_
    refine v_getr C dX7_step_60 rfl ff_X7_9 sk_42 rfl ?_
    refine v_iload_n C dX7_step_63 rfl rfl 3 rfl ?_
    refine v_dup2 C dX7_step_64 rfl rfl rfl ?_
    obtain ⟨b13, h⟩ := gdS h
    refine v_iald C dX7_step_65 rfl sk_43 b13 ?_
    refine v_aload_n C dX7_step_66 rfl rfl 0 rfl ?_
    refine v_getr C dX7_step_67 rfl ff_X7_18 sk_42 rfl ?_
    refine v_iload_n C dX7_step_70 rfl rfl 3 rfl ?_
    obtain ⟨b14, h⟩ := gdS h
    refine v_iald C dX7_step_71 rfl sk_45 b14 ?_
    refine v_iconst C dX7_step_72 rfl ic_n1 ?_
    refine v_ixor C dX7_step_73 rfl ?_
    refine v_iand C dX7_step_74 rfl ?_
    obtain ⟨b15, h⟩ := gdS h
    obtain ⟨K16, eK16, h⟩ := nmS h
    refine v_iast C hD dX7_step_75 rfl sk_43 b15 eK16 ?_
    refine v_aload_n C dX7_step_76 rfl rfl 0 rfl ?_
    refine v_getr C dX7_step_77 rfl ff_X7_15 sk_42 rfl ?_
    refine v_iload_n C dX7_step_80 rfl rfl 3 rfl ?_
    refine v_aload_n C dX7_step_81 rfl rfl 0 rfl ?_
    refine v_getr C dX7_step_82 rfl ff_X7_18 sk_42 rfl ?_
    refine v_iload_n C dX7_step_85 rfl rfl 3 rfl ?_
    obtain ⟨b17, h⟩ := gdS h
    refine v_iald C dX7_step_86 rfl sk_45 b17 ?_
    obtain ⟨b18, h⟩ := gdS h
    obtain ⟨K19, eK19, h⟩ := nmS h
    refine v_iast C hD dX7_step_87 rfl sk_44 b18 eK19 ?_
    obtain ⟨v20, ev20, h⟩ := nmS h
    refine v_iinc C dX7_step_88 rfl 3 rfl (v := v20) (by rw [ev20]; rfl) (by decide) (L' := [(3, .int v20), (0, .ref (ad 42)), (1, .ref (ad q1)), (2, .int a2)]) rfl ?_
    refine v_goto C dX7_step_91 (tgt := 51) (by decide) ?_
    refine v_sub [1, 2, 3, 0] rfl ?_
    exact hk51 h
theorem wL_X7_step_51 {G : Ctx} {ad : Nat → Nat} {q1 : Nat} (C : Cx G RX7 cX7_step 4 3 64) (hD : ∀ K, va_D (gA G) (wd (gC G) ad K 0 shsK)) {res : (Int32 × Mem)} (RET : RI G cX7_step 4 (wd (gC G) ad res.2 0 shsK) res.1) (hq1 : isTown q1) : ∀ (n : Nat) {a2 : Int32} {a3 : Int32} {K : Mem} (h : L_X7_step_51 q1 n a2 a3 K = some res), V G 4 (wd (gC G) ad K 0 shsK) 51 [(0, .ref (ad 42)), (1, .ref (ad q1)), (2, .int a2), (3, .int a3)] [] := by
  intro n
  induction n with
  | zero =>
    intro a2 a3 K h
    cases (show (none : Option (Int32 × Mem)) = some res from h)
  | succ n ih =>
    intro a2 a3 K h
    exact wF_X7_step_51 (k51 := fun a2 a3 K => L_X7_step_51 q1 n a2 a3 K) C hD RET (fun h => ih h) hq1 h
def F_X7_step_4 (k4 : Int32 → Int32 → Mem → Option (Int32 × Mem)) (q1 : Nat) (a2 : Int32) (a3 : Int32) (K : Mem) : Option (Int32 × Mem) :=
  if (K q1 7) ≤ a3 then (
    L_X7_step_51 q1 FU a2 0 K
  ) else (
    bd (C_X7_near q1 K a3) fun r3 =>
    gd (inb a3 12) <|
    gd (inb a3 12) <|
    nm (up K 45 (Int32.toNatClampNeg a3) (r3 &&& (K 43 (Int32.toNatClampNeg a3)))) fun K6 =>
    gd (inb a3 12) <|
    bd (C_J6_bitCount_0f7a4 (K6 45 (Int32.toNatClampNeg a3))) fun r9 =>
    nm (a2 + r9) fun v10 =>
    nm (a3 + 1) fun v11 =>
    k4 v10 v11 K6
  )
def L_X7_step_4 (q1 : Nat) : Nat → Int32 → Int32 → Mem → Option (Int32 × Mem)
  | 0, _, _, _ => none
  | n + 1, a2, a3, K => F_X7_step_4 (fun a2 a3 K => L_X7_step_4 q1 n a2 a3 K) q1 a2 a3 K
set_option maxRecDepth 100000 in
set_option maxHeartbeats 4000000 in
theorem wF_X7_step_4 {G : Ctx} {ad : Nat → Nat} {q1 : Nat} {k4 : Int32 → Int32 → Mem → Option (Int32 × Mem)} (C : Cx G RX7 cX7_step 4 3 64) (hD : ∀ K, va_D (gA G) (wd (gC G) ad K 0 shsK)) {res : (Int32 × Mem)} (RET : RI G cX7_step 4 (wd (gC G) ad res.2 0 shsK) res.1) (hk4 : ∀ {a2 : Int32} {a3 : Int32} {K : Mem} , k4 a2 a3 K = some res → V G 4 (wd (gC G) ad K 0 shsK) 4 [(0, .ref (ad 42)), (1, .ref (ad q1)), (2, .int a2), (3, .int a3)] []) (hq1 : isTown q1) {a2 : Int32} {a3 : Int32} {K : Mem} (h : F_X7_step_4 k4 q1 a2 a3 K = some res) : V G 4 (wd (gC G) ad K 0 shsK) 4 [(0, .ref (ad 42)), (1, .ref (ad q1)), (2, .int a2), (3, .int a3)] [] := by
  unfold F_X7_step_4 at h
  refine v_iload_n C dX7_step_4 rfl rfl 3 rfl ?_
  refine v_aload_n C dX7_step_5 rfl rfl 1 rfl ?_
  refine v_getf C dX7_step_6 rfl ff_X7_30 (tk_0 hq1) rfl ?_
  refine v_icmp_ge C dX7_step_9 (tgt := 49) (by decide) rfl (fun c1 => ?_) (fun c1 => ?_)
  · have h := ifp c1 h
    refine v_iconst C dX7_step_49 rfl ic_0 ?_
    refine v_istore_n C dX7_step_50 rfl rfl (by decide) (L' := [(3, .int 0), (0, .ref (ad 42)), (1, .ref (ad q1)), (2, .int a2)]) rfl ?_
    refine v_sub [1, 2, 3, 0] rfl ?_
    exact wL_X7_step_51 C hD RET hq1 FU h
  · have h := ifn c1 h
    refine v_aload_n C dX7_step_12 rfl rfl 0 rfl ?_
    refine v_getr C dX7_step_13 rfl ff_X7_18 sk_42 rfl ?_
    refine v_iload_n C dX7_step_16 rfl rfl 3 rfl ?_
    refine v_aload_n C dX7_step_17 rfl rfl 0 rfl ?_
    refine v_aload_n C dX7_step_18 rfl rfl 1 rfl ?_
    refine v_iload_n C dX7_step_19 rfl rfl 3 rfl ?_
    obtain ⟨r3, e2, h⟩ := bdS h
    refine v_callVi C yv_X7_near m_490 (c_X7_near hq1 e2) (Sub.whole hD _ _) ⟨_, _, _, _, _, wd_at sk_42, rfl⟩ (As := [.ref (ad q1), .int a3]) rfl rfl (Nat.le_of_ble_eq_true rfl) ⟨Nat.le_of_ble_eq_true rfl, Nat.le_of_ble_eq_true rfl⟩ dX7_step_20 rfl ?_
    refine v_aload_n C dX7_step_23 rfl rfl 0 rfl ?_
    refine v_getr C dX7_step_24 rfl ff_X7_9 sk_42 rfl ?_
    refine v_iload_n C dX7_step_27 rfl rfl 3 rfl ?_
    obtain ⟨b4, h⟩ := gdS h
    refine v_iald C dX7_step_28 rfl sk_43 b4 ?_
    refine v_iand C dX7_step_29 rfl ?_
    obtain ⟨b5, h⟩ := gdS h
    obtain ⟨K6, eK6, h⟩ := nmS h
    refine v_iast C hD dX7_step_30 rfl sk_45 b5 eK6 ?_
    refine v_iload_n C dX7_step_31 rfl rfl 2 rfl ?_
    refine v_aload_n C dX7_step_32 rfl rfl 0 rfl ?_
    refine v_getr C dX7_step_33 rfl ff_X7_18 sk_42 rfl ?_
    refine v_iload_n C dX7_step_36 rfl rfl 3 rfl ?_
    obtain ⟨b7, h⟩ := gdS h
    refine v_iald C dX7_step_37 rfl sk_45 b7 ?_
    obtain ⟨r9, e8, h⟩ := bdS h
    refine v_callSi C ys_J6_bitCount_0f7a4 m_485 (c_J6_bitCount_0f7a4 e8) (Sub.whole hD _ _) (As := [.int (K6 45 (Int32.toNatClampNeg a3))]) rfl rfl (Nat.le_of_ble_eq_true rfl) ⟨Nat.le_of_ble_eq_true rfl, Nat.le_of_ble_eq_true rfl⟩ dX7_step_38 rfl ?_
    refine v_iadd C dX7_step_41 rfl ?_
    obtain ⟨v10, ev10, h⟩ := nmS h
    refine v_nmi ev10 ?_
    refine v_istore_n C dX7_step_42 rfl rfl (by decide) (L' := [(2, .int v10), (0, .ref (ad 42)), (1, .ref (ad q1)), (3, .int a3)]) rfl ?_
    obtain ⟨v11, ev11, h⟩ := nmS h
    refine v_iinc C dX7_step_43 rfl 3 rfl (v := v11) (by rw [ev11]; rfl) (by decide) (L' := [(3, .int v11), (2, .int v10), (0, .ref (ad 42)), (1, .ref (ad q1))]) rfl ?_
    refine v_goto C dX7_step_46 (tgt := 4) (by decide) ?_
    refine v_sub [2, 3, 1, 0] rfl ?_
    exact hk4 h
theorem wL_X7_step_4 {G : Ctx} {ad : Nat → Nat} {q1 : Nat} (C : Cx G RX7 cX7_step 4 3 64) (hD : ∀ K, va_D (gA G) (wd (gC G) ad K 0 shsK)) {res : (Int32 × Mem)} (RET : RI G cX7_step 4 (wd (gC G) ad res.2 0 shsK) res.1) (hq1 : isTown q1) : ∀ (n : Nat) {a2 : Int32} {a3 : Int32} {K : Mem} (h : L_X7_step_4 q1 n a2 a3 K = some res), V G 4 (wd (gC G) ad K 0 shsK) 4 [(0, .ref (ad 42)), (1, .ref (ad q1)), (2, .int a2), (3, .int a3)] [] := by
  intro n
  induction n with
  | zero =>
    intro a2 a3 K h
    cases (show (none : Option (Int32 × Mem)) = some res from h)
  | succ n ih =>
    intro a2 a3 K h
    exact wF_X7_step_4 (k4 := fun a2 a3 K => L_X7_step_4 q1 n a2 a3 K) C hD RET (fun h => ih h) hq1 h
def F_X7_step_0 (q1 : Nat) (K : Mem) : Option (Int32 × Mem) :=
  L_X7_step_4 q1 FU 0 0 K
set_option maxRecDepth 100000 in
set_option maxHeartbeats 4000000 in
theorem wF_X7_step_0 {G : Ctx} {ad : Nat → Nat} {q1 : Nat} (C : Cx G RX7 cX7_step 4 3 64) (hD : ∀ K, va_D (gA G) (wd (gC G) ad K 0 shsK)) {res : (Int32 × Mem)} (RET : RI G cX7_step 4 (wd (gC G) ad res.2 0 shsK) res.1) (hq1 : isTown q1) {K : Mem} (h : F_X7_step_0 q1 K = some res) : V G 4 (wd (gC G) ad K 0 shsK) 0 [(0, .ref (ad 42)), (1, .ref (ad q1))] [] := by
  unfold F_X7_step_0 at h
  refine v_iconst C dX7_step_0 rfl ic_0 ?_
  refine v_istore_n C dX7_step_1 rfl rfl (by decide) (L' := [(2, .int 0), (0, .ref (ad 42)), (1, .ref (ad q1))]) rfl ?_
  refine v_iconst C dX7_step_2 rfl ic_0 ?_
  refine v_istore_n C dX7_step_3 rfl rfl (by decide) (L' := [(3, .int 0), (2, .int 0), (0, .ref (ad 42)), (1, .ref (ad q1))]) rfl ?_
  refine v_sub [2, 3, 1, 0] rfl ?_
  exact wL_X7_step_4 C hD RET hq1 FU h
def C_X7_step (q1 : Nat) (K : Mem) : Option (Int32 × Mem) := F_X7_step_0 q1 K
set_option maxRecDepth 100000 in
theorem c_X7_step {l : Launch} {D : va_G} {cA : FieldType → ClassId} {X : Ex} {ad : Nat → Nat} {q1 : Nat} (hq1 : isTown q1) {K : Mem} {r : Int32} {K' : Mem} (h : C_X7_step q1 K = some (r, K')) : MI l D cA X yX7_step cX7_step 4 (some .int) 3 64 [.ref (ad 42), .ref (ad q1)] (wd cA ad K 0 shsK) (wd cA ad K' 0 shsK) r :=
  mI_of (by decide +kernel) (Nat.le_of_ble_eq_true rfl) (fun G h1 h2 h3 h4 C hD RET => by subst h1 h2 h3 h4; exact wF_X7_step_0 C (fun K' => wd_D K' hD) RET hq1 h)
def F_X7_steps_12 (k12 : Int32 → Int32 → Int32 → Int32 → Mem → Option (Int32 × Mem)) (q1 : Nat) (a4 : Int32) (a5 : Int32) (a6 : Int32) (a7 : Int32) (K : Mem) : Option (Int32 × Mem) :=
  if 96 < a7 then (
    some ((-1000000005), K)
  ) else (
    if a6 ≤ 0 then (
      some ((-1000000005), K)
    ) else (
      gd (inb a4 12) <|
      if ((jshr (K 44 (Int32.toNatClampNeg a4)) a5) &&& 1) = 0 then (
        bd2 (C_X7_step q1 K) fun r10 K9 =>
        nm (a7 + 1) fun v11 =>
        k12 a4 a5 r10 v11 K9
      ) else (
        some (a7, K)
      )
    )
  )
def L_X7_steps_12 (q1 : Nat) : Nat → Int32 → Int32 → Int32 → Int32 → Mem → Option (Int32 × Mem)
  | 0, _, _, _, _, _ => none
  | n + 1, a4, a5, a6, a7, K => F_X7_steps_12 (fun a4 a5 a6 a7 K => L_X7_steps_12 q1 n a4 a5 a6 a7 K) q1 a4 a5 a6 a7 K
set_option maxRecDepth 100000 in
set_option maxHeartbeats 4000000 in
theorem wF_X7_steps_12 {G : Ctx} {ad : Nat → Nat} {q1 : Nat} {k12 : Int32 → Int32 → Int32 → Int32 → Mem → Option (Int32 × Mem)} (C : Cx G RX7 cX7_steps 8 4 88) (hD : ∀ K, va_D (gA G) (wd (gC G) ad K 0 shsK)) {res : (Int32 × Mem)} (RET : RI G cX7_steps 8 (wd (gC G) ad res.2 0 shsK) res.1) (hk12 : ∀ {a4 : Int32} {a5 : Int32} {a6 : Int32} {a7 : Int32} {K : Mem} , k12 a4 a5 a6 a7 K = some res → V G 8 (wd (gC G) ad K 0 shsK) 12 [(0, .ref (ad 42)), (1, .ref (ad q1)), (4, .int a4), (5, .int a5), (6, .int a6), (7, .int a7)] []) (hq1 : isTown q1) {a4 : Int32} {a5 : Int32} {a6 : Int32} {a7 : Int32} {K : Mem} (h : F_X7_steps_12 k12 q1 a4 a5 a6 a7 K = some res) : V G 8 (wd (gC G) ad K 0 shsK) 12 [(0, .ref (ad 42)), (1, .ref (ad q1)), (4, .int a4), (5, .int a5), (6, .int a6), (7, .int a7)] [] := by
  unfold F_X7_steps_12 at h
  refine v_iload C dX7_steps_12 rfl 5 rfl ?_
  refine v_bipush C dX7_steps_14 rfl bi_96 ?_
  refine v_icmp_gt C dX7_steps_16 (tgt := 55) (by decide) rfl (fun c4 => ?_) (fun c4 => ?_)
  · have h := ifp c4 h
    refine v_ldc C dX7_steps_55 rfl m_503 ?_
    obtain rfl := Option.some.inj h
    exact RET _ _ dX7_steps_57
  · have h := ifn c4 h
    refine v_iload C dX7_steps_19 rfl 4 rfl ?_
    refine v_if_le C dX7_steps_21 (tgt := 55) (by decide) rfl (fun c5 => ?_) (fun c5 => ?_)
    · have h := ifp c5 h
      refine v_ldc C dX7_steps_55 rfl m_503 ?_
      obtain rfl := Option.some.inj h
      exact RET _ _ dX7_steps_57
    · have h := ifn c5 h
      refine v_aload_n C dX7_steps_24 rfl rfl 0 rfl ?_
      refine v_getr C dX7_steps_25 rfl ff_X7_15 sk_42 rfl ?_
      refine v_iload C dX7_steps_28 rfl 2 rfl ?_
      obtain ⟨b6, h⟩ := gdS h
      refine v_iald C dX7_steps_30 rfl sk_44 b6 ?_
      refine v_iload C dX7_steps_31 rfl 3 rfl ?_
      refine v_ishr C dX7_steps_33 rfl ?_
      refine v_iconst C dX7_steps_34 rfl ic_1 ?_
      refine v_iand C dX7_steps_35 rfl ?_
      refine v_if_eq C dX7_steps_36 (tgt := 42) (by decide) rfl (fun c7 => ?_) (fun c7 => ?_)
      · have h := ifp c7 h
        refine v_aload_n C dX7_steps_42 rfl rfl 0 rfl ?_
        refine v_aload_n C dX7_steps_43 rfl rfl 1 rfl ?_
        obtain ⟨r10, K9, e8, h⟩ := bd2S h
        refine v_callVi C yv_X7_step m_486 (c_X7_step hq1 e8) (Sub.whole hD _ _) ⟨_, _, _, _, _, wd_at sk_42, rfl⟩ (As := [.ref (ad q1)]) rfl rfl (Nat.le_of_ble_eq_true rfl) ⟨Nat.le_of_ble_eq_true rfl, Nat.le_of_ble_eq_true rfl⟩ dX7_steps_44 rfl ?_
        refine v_istore C dX7_steps_47 rfl (by decide) (L' := [(6, .int r10), (0, .ref (ad 42)), (1, .ref (ad q1)), (4, .int a4), (5, .int a5), (7, .int a7)]) rfl ?_
        obtain ⟨v11, ev11, h⟩ := nmS h
        refine v_iinc C dX7_steps_49 rfl 5 rfl (v := v11) (by rw [ev11]; rfl) (by decide) (L' := [(7, .int v11), (6, .int r10), (0, .ref (ad 42)), (1, .ref (ad q1)), (4, .int a4), (5, .int a5)]) rfl ?_
        refine v_goto C dX7_steps_52 (tgt := 12) (by decide) ?_
        refine v_sub [2, 3, 4, 5, 1, 0] rfl ?_
        exact hk12 h
      · have h := ifn c7 h
        refine v_iload C dX7_steps_39 rfl 5 rfl ?_
        obtain rfl := Option.some.inj h
        exact RET _ _ dX7_steps_41
theorem wL_X7_steps_12 {G : Ctx} {ad : Nat → Nat} {q1 : Nat} (C : Cx G RX7 cX7_steps 8 4 88) (hD : ∀ K, va_D (gA G) (wd (gC G) ad K 0 shsK)) {res : (Int32 × Mem)} (RET : RI G cX7_steps 8 (wd (gC G) ad res.2 0 shsK) res.1) (hq1 : isTown q1) : ∀ (n : Nat) {a4 : Int32} {a5 : Int32} {a6 : Int32} {a7 : Int32} {K : Mem} (h : L_X7_steps_12 q1 n a4 a5 a6 a7 K = some res), V G 8 (wd (gC G) ad K 0 shsK) 12 [(0, .ref (ad 42)), (1, .ref (ad q1)), (4, .int a4), (5, .int a5), (6, .int a6), (7, .int a7)] [] := by
  intro n
  induction n with
  | zero =>
    intro a4 a5 a6 a7 K h
    cases (show (none : Option (Int32 × Mem)) = some res from h)
  | succ n ih =>
    intro a4 a5 a6 a7 K h
    exact wF_X7_steps_12 (k12 := fun a4 a5 a6 a7 K => L_X7_steps_12 q1 n a4 a5 a6 a7 K) C hD RET (fun h => ih h) hq1 h
def F_X7_steps_0 (q1 : Nat) (a2 : Int32) (a3 : Int32) (a4 : Int32) (a5 : Int32) (K : Mem) : Option (Int32 × Mem) :=
  bd2 (C_X7_begin q1 a2 a3 K) fun r3 K2 =>
  L_X7_steps_12 q1 FU a4 a5 r3 0 K2
set_option maxRecDepth 100000 in
set_option maxHeartbeats 4000000 in
theorem wF_X7_steps_0 {G : Ctx} {ad : Nat → Nat} {q1 : Nat} (C : Cx G RX7 cX7_steps 8 4 88) (hD : ∀ K, va_D (gA G) (wd (gC G) ad K 0 shsK)) {res : (Int32 × Mem)} (RET : RI G cX7_steps 8 (wd (gC G) ad res.2 0 shsK) res.1) (hq1 : isTown q1) {a2 : Int32} {a3 : Int32} {a4 : Int32} {a5 : Int32} {K : Mem} (h : F_X7_steps_0 q1 a2 a3 a4 a5 K = some res) : V G 8 (wd (gC G) ad K 0 shsK) 0 [(0, .ref (ad 42)), (1, .ref (ad q1)), (2, .int a2), (3, .int a3), (4, .int a4), (5, .int a5)] [] := by
  unfold F_X7_steps_0 at h
  refine v_aload_n C dX7_steps_0 rfl rfl 0 rfl ?_
  refine v_aload_n C dX7_steps_1 rfl rfl 1 rfl ?_
  refine v_iload_n C dX7_steps_2 rfl rfl 2 rfl ?_
  refine v_iload_n C dX7_steps_3 rfl rfl 3 rfl ?_
  obtain ⟨r3, K2, e1, h⟩ := bd2S h
  refine v_callVi C yv_X7_begin m_480 (c_X7_begin hq1 e1) (Sub.whole hD _ _) ⟨_, _, _, _, _, wd_at sk_42, rfl⟩ (As := [.ref (ad q1), .int a2, .int a3]) rfl rfl (Nat.le_of_ble_eq_true rfl) ⟨Nat.le_of_ble_eq_true rfl, Nat.le_of_ble_eq_true rfl⟩ dX7_steps_4 rfl ?_
  refine v_istore C dX7_steps_7 rfl (by decide) (L' := [(6, .int r3), (0, .ref (ad 42)), (1, .ref (ad q1)), (2, .int a2), (3, .int a3), (4, .int a4), (5, .int a5)]) rfl ?_
  refine v_iconst C dX7_steps_9 rfl ic_0 ?_
  refine v_istore C dX7_steps_10 rfl (by decide) (L' := [(7, .int 0), (6, .int r3), (0, .ref (ad 42)), (1, .ref (ad q1)), (2, .int a2), (3, .int a3), (4, .int a4), (5, .int a5)]) rfl ?_
  refine v_sub [2, 3, 6, 7, 1, 0] rfl ?_
  exact wL_X7_steps_12 C hD RET hq1 FU h
def C_X7_steps (q1 : Nat) (a2 : Int32) (a3 : Int32) (a4 : Int32) (a5 : Int32) (K : Mem) : Option (Int32 × Mem) := F_X7_steps_0 q1 a2 a3 a4 a5 K
set_option maxRecDepth 100000 in
theorem c_X7_steps {l : Launch} {D : va_G} {cA : FieldType → ClassId} {X : Ex} {ad : Nat → Nat} {q1 : Nat} (hq1 : isTown q1) {a2 : Int32} {a3 : Int32} {a4 : Int32} {a5 : Int32} {K : Mem} {r : Int32} {K' : Mem} (h : C_X7_steps q1 a2 a3 a4 a5 K = some (r, K')) : MI l D cA X yX7_steps cX7_steps 8 (some .int) 4 88 [.ref (ad 42), .ref (ad q1), .int a2, .int a3, .int a4, .int a5] (wd cA ad K 0 shsK) (wd cA ad K' 0 shsK) r :=
  mI_of (by decide +kernel) (Nat.le_of_ble_eq_true rfl) (fun G h1 h2 h3 h4 C hD RET => by subst h1 h2 h3 h4; exact wF_X7_steps_0 C (fun K' => wd_D K' hD) RET hq1 h)
def F_X7_reached_16 (k16 : Int32 → Int32 → Int32 → Mem → Option (Int32 × Mem)) (q1 : Nat) (a4 : Int32) (a5 : Int32) (a6 : Int32) (K : Mem) : Option (Int32 × Mem) :=
  if 96 < a6 then (
    some (a5, K)
  ) else (
    if a4 ≤ 0 then (
      some (a5, K)
    ) else (
      bd2 (C_X7_step q1 K) fun r8 K7 =>
      nm (a5 + r8) fun v9 =>
      nm (a6 + 1) fun v10 =>
      k16 r8 v9 v10 K7
    )
  )
def L_X7_reached_16 (q1 : Nat) : Nat → Int32 → Int32 → Int32 → Mem → Option (Int32 × Mem)
  | 0, _, _, _, _ => none
  | n + 1, a4, a5, a6, K => F_X7_reached_16 (fun a4 a5 a6 K => L_X7_reached_16 q1 n a4 a5 a6 K) q1 a4 a5 a6 K
set_option maxRecDepth 100000 in
set_option maxHeartbeats 4000000 in
theorem wF_X7_reached_16 {G : Ctx} {ad : Nat → Nat} {q1 : Nat} {k16 : Int32 → Int32 → Int32 → Mem → Option (Int32 × Mem)} (C : Cx G RX7 cX7_reached 7 4 88) (hD : ∀ K, va_D (gA G) (wd (gC G) ad K 0 shsK)) {res : (Int32 × Mem)} (RET : RI G cX7_reached 7 (wd (gC G) ad res.2 0 shsK) res.1) (hk16 : ∀ {a4 : Int32} {a5 : Int32} {a6 : Int32} {K : Mem} , k16 a4 a5 a6 K = some res → V G 7 (wd (gC G) ad K 0 shsK) 16 [(0, .ref (ad 42)), (1, .ref (ad q1)), (4, .int a4), (5, .int a5), (6, .int a6)] []) (hq1 : isTown q1) {a4 : Int32} {a5 : Int32} {a6 : Int32} {K : Mem} (h : F_X7_reached_16 k16 q1 a4 a5 a6 K = some res) : V G 7 (wd (gC G) ad K 0 shsK) 16 [(0, .ref (ad 42)), (1, .ref (ad q1)), (4, .int a4), (5, .int a5), (6, .int a6)] [] := by
  unfold F_X7_reached_16 at h
  refine v_iload C dX7_reached_16 rfl 4 rfl ?_
  refine v_bipush C dX7_reached_18 rfl bi_96 ?_
  refine v_icmp_gt C dX7_reached_20 (tgt := 48) (by decide) rfl (fun c4 => ?_) (fun c4 => ?_)
  · have h := ifp c4 h
    refine v_iload C dX7_reached_48 rfl 3 rfl ?_
    obtain rfl := Option.some.inj h
    exact RET _ _ dX7_reached_50
  · have h := ifn c4 h
    refine v_iload C dX7_reached_23 rfl 2 rfl ?_
    refine v_if_le C dX7_reached_25 (tgt := 48) (by decide) rfl (fun c5 => ?_) (fun c5 => ?_)
    · have h := ifp c5 h
      refine v_iload C dX7_reached_48 rfl 3 rfl ?_
      obtain rfl := Option.some.inj h
      exact RET _ _ dX7_reached_50
    · have h := ifn c5 h
      refine v_aload_n C dX7_reached_28 rfl rfl 0 rfl ?_
      refine v_aload_n C dX7_reached_29 rfl rfl 1 rfl ?_
      obtain ⟨r8, K7, e6, h⟩ := bd2S h
      refine v_callVi C yv_X7_step m_486 (c_X7_step hq1 e6) (Sub.whole hD _ _) ⟨_, _, _, _, _, wd_at sk_42, rfl⟩ (As := [.ref (ad q1)]) rfl rfl (Nat.le_of_ble_eq_true rfl) ⟨Nat.le_of_ble_eq_true rfl, Nat.le_of_ble_eq_true rfl⟩ dX7_reached_30 rfl ?_
      refine v_istore C dX7_reached_33 rfl (by decide) (L' := [(4, .int r8), (0, .ref (ad 42)), (1, .ref (ad q1)), (5, .int a5), (6, .int a6)]) rfl ?_
      refine v_iload C dX7_reached_35 rfl 3 rfl ?_
      refine v_iload C dX7_reached_37 rfl 0 rfl ?_
      refine v_iadd C dX7_reached_39 rfl ?_
      obtain ⟨v9, ev9, h⟩ := nmS h
      refine v_nmi ev9 ?_
      refine v_istore C dX7_reached_40 rfl (by decide) (L' := [(5, .int v9), (4, .int r8), (0, .ref (ad 42)), (1, .ref (ad q1)), (6, .int a6)]) rfl ?_
      obtain ⟨v10, ev10, h⟩ := nmS h
      refine v_iinc C dX7_reached_42 rfl 4 rfl (v := v10) (by rw [ev10]; rfl) (by decide) (L' := [(6, .int v10), (5, .int v9), (4, .int r8), (0, .ref (ad 42)), (1, .ref (ad q1))]) rfl ?_
      refine v_goto C dX7_reached_45 (tgt := 16) (by decide) ?_
      refine v_sub [3, 4, 2, 1, 0] rfl ?_
      exact hk16 h
theorem wL_X7_reached_16 {G : Ctx} {ad : Nat → Nat} {q1 : Nat} (C : Cx G RX7 cX7_reached 7 4 88) (hD : ∀ K, va_D (gA G) (wd (gC G) ad K 0 shsK)) {res : (Int32 × Mem)} (RET : RI G cX7_reached 7 (wd (gC G) ad res.2 0 shsK) res.1) (hq1 : isTown q1) : ∀ (n : Nat) {a4 : Int32} {a5 : Int32} {a6 : Int32} {K : Mem} (h : L_X7_reached_16 q1 n a4 a5 a6 K = some res), V G 7 (wd (gC G) ad K 0 shsK) 16 [(0, .ref (ad 42)), (1, .ref (ad q1)), (4, .int a4), (5, .int a5), (6, .int a6)] [] := by
  intro n
  induction n with
  | zero =>
    intro a4 a5 a6 K h
    cases (show (none : Option (Int32 × Mem)) = some res from h)
  | succ n ih =>
    intro a4 a5 a6 K h
    exact wF_X7_reached_16 (k16 := fun a4 a5 a6 K => L_X7_reached_16 q1 n a4 a5 a6 K) C hD RET (fun h => ih h) hq1 h
def F_X7_reached_0 (q1 : Nat) (a2 : Int32) (a3 : Int32) (K : Mem) : Option (Int32 × Mem) :=
  bd2 (C_X7_begin q1 a2 a3 K) fun r3 K2 =>
  L_X7_reached_16 q1 FU r3 r3 0 K2
set_option maxRecDepth 100000 in
set_option maxHeartbeats 4000000 in
theorem wF_X7_reached_0 {G : Ctx} {ad : Nat → Nat} {q1 : Nat} (C : Cx G RX7 cX7_reached 7 4 88) (hD : ∀ K, va_D (gA G) (wd (gC G) ad K 0 shsK)) {res : (Int32 × Mem)} (RET : RI G cX7_reached 7 (wd (gC G) ad res.2 0 shsK) res.1) (hq1 : isTown q1) {a2 : Int32} {a3 : Int32} {K : Mem} (h : F_X7_reached_0 q1 a2 a3 K = some res) : V G 7 (wd (gC G) ad K 0 shsK) 0 [(0, .ref (ad 42)), (1, .ref (ad q1)), (2, .int a2), (3, .int a3)] [] := by
  unfold F_X7_reached_0 at h
  refine v_aload_n C dX7_reached_0 rfl rfl 0 rfl ?_
  refine v_aload_n C dX7_reached_1 rfl rfl 1 rfl ?_
  refine v_iload_n C dX7_reached_2 rfl rfl 2 rfl ?_
  refine v_iload_n C dX7_reached_3 rfl rfl 3 rfl ?_
  obtain ⟨r3, K2, e1, h⟩ := bd2S h
  refine v_callVi C yv_X7_begin m_480 (c_X7_begin hq1 e1) (Sub.whole hD _ _) ⟨_, _, _, _, _, wd_at sk_42, rfl⟩ (As := [.ref (ad q1), .int a2, .int a3]) rfl rfl (Nat.le_of_ble_eq_true rfl) ⟨Nat.le_of_ble_eq_true rfl, Nat.le_of_ble_eq_true rfl⟩ dX7_reached_4 rfl ?_
  refine v_istore C dX7_reached_7 rfl (by decide) (L' := [(4, .int r3), (0, .ref (ad 42)), (1, .ref (ad q1)), (2, .int a2), (3, .int a3)]) rfl ?_
  refine v_iload C dX7_reached_9 rfl 0 rfl ?_
  refine v_istore C dX7_reached_11 rfl (by decide) (L' := [(5, .int r3), (4, .int r3), (0, .ref (ad 42)), (1, .ref (ad q1)), (2, .int a2), (3, .int a3)]) rfl ?_
  refine v_iconst C dX7_reached_13 rfl ic_0 ?_
  refine v_istore C dX7_reached_14 rfl (by decide) (L' := [(6, .int 0), (5, .int r3), (4, .int r3), (0, .ref (ad 42)), (1, .ref (ad q1)), (2, .int a2), (3, .int a3)]) rfl ?_
  refine v_sub [3, 4, 2, 1, 0] rfl ?_
  exact wL_X7_reached_16 C hD RET hq1 FU h
def C_X7_reached (q1 : Nat) (a2 : Int32) (a3 : Int32) (K : Mem) : Option (Int32 × Mem) := F_X7_reached_0 q1 a2 a3 K
set_option maxRecDepth 100000 in
theorem c_X7_reached {l : Launch} {D : va_G} {cA : FieldType → ClassId} {X : Ex} {ad : Nat → Nat} {q1 : Nat} (hq1 : isTown q1) {a2 : Int32} {a3 : Int32} {K : Mem} {r : Int32} {K' : Mem} (h : C_X7_reached q1 a2 a3 K = some (r, K')) : MI l D cA X yX7_reached cX7_reached 7 (some .int) 4 88 [.ref (ad 42), .ref (ad q1), .int a2, .int a3] (wd cA ad K 0 shsK) (wd cA ad K' 0 shsK) r :=
  mI_of (by decide +kernel) (Nat.le_of_ble_eq_true rfl) (fun G h1 h2 h3 h4 C hD RET => by subst h1 h2 h3 h4; exact wF_X7_reached_0 C (fun K' => wd_D K' hD) RET hq1 h)
def F_X8_isGauge_0 (a0 : Int32) : Option Int32 :=
  if a0 < 1 then (
    some 0
  ) else (
    if 9 < a0 then (
      some 0
    ) else (
      some 1
    )
  )
set_option maxRecDepth 100000 in
set_option maxHeartbeats 4000000 in
theorem wF_X8_isGauge_0 {G : Ctx} {w : va_W} (C : Cx G RX8 cX8_isGauge 1 0 0) (hD : va_D (gA G) w) {res : Int32} (RET : RZ G cX8_isGauge 1 w res) {a0 : Int32} (h : F_X8_isGauge_0 a0 = some res) : V G 1 w 0 [(0, .int a0)] [] := by
  unfold F_X8_isGauge_0 at h
  refine v_iload_n C dX8_isGauge_0 rfl rfl 0 rfl ?_
  refine v_iconst C dX8_isGauge_1 rfl ic_1 ?_
  refine v_icmp_lt C dX8_isGauge_2 (tgt := 15) (by decide) rfl (fun c1 => ?_) (fun c1 => ?_)
  · have h := ifp c1 h
    refine v_iconst C dX8_isGauge_15 rfl ic_0 ?_
    obtain rfl := Option.some.inj h
    exact RET _ _ dX8_isGauge_16 (Or.inl rfl)
  · have h := ifn c1 h
    refine v_iload_n C dX8_isGauge_5 rfl rfl 0 rfl ?_
    refine v_bipush C dX8_isGauge_6 rfl bi_9 ?_
    refine v_icmp_gt C dX8_isGauge_8 (tgt := 15) (by decide) rfl (fun c2 => ?_) (fun c2 => ?_)
    · have h := ifp c2 h
      refine v_iconst C dX8_isGauge_15 rfl ic_0 ?_
      obtain rfl := Option.some.inj h
      exact RET _ _ dX8_isGauge_16 (Or.inl rfl)
    · have h := ifn c2 h
      refine v_iconst C dX8_isGauge_11 rfl ic_1 ?_
      refine v_goto C dX8_isGauge_12 (tgt := 16) (by decide) ?_
      obtain rfl := Option.some.inj h
      exact RET _ _ dX8_isGauge_16 (Or.inr rfl)
def C_X8_isGauge (a0 : Int32) : Option Int32 := F_X8_isGauge_0 a0
set_option maxRecDepth 100000 in
theorem c_X8_isGauge {l : Launch} {D : va_G} {cA : FieldType → ClassId} {X : Ex} {w : va_W} {a0 : Int32} {r : Int32} (h : C_X8_isGauge a0 = some r) : MI l D cA X yX8_isGauge cX8_isGauge 1 (some .boolean) 0 0 [.int a0] w w r :=
  mZ_of (by decide +kernel) (Nat.le_of_ble_eq_true rfl) (fun G h1 h2 h3 h4 C hD RET => by subst h1 h2 h3 h4; exact wF_X8_isGauge_0 C hD RET  h)
def F_X8_knit_0 (a1 : Int32) (a2 : Int32) (K : Mem) : Option (Int32 × Mem) :=
  bd (C_X0_isKind a1) fun r2 =>
  if r2 = 0 then (
    some ((-1000000001), K)
  ) else (
    bd (C_X8_isGauge a2) fun r5 =>
    if r5 = 0 then (
      some ((-1000000001), K)
    ) else (
      bd (C_X6_isFull 21 K) fun r8 =>
      if r8 = 0 then (
        bd (C_X6_add 21 a1 a2 0 K) fun K11 =>
        some ((K11 21 7) - 1, K11)
      ) else (
        some ((-1000000003), K)
      )
    )
  )
set_option maxRecDepth 100000 in
set_option maxHeartbeats 4000000 in
theorem wF_X8_knit_0 {G : Ctx} {ad : Nat → Nat} (C : Cx G RX8 cX8_knit 3 2 43) (hD : ∀ K, va_D (gA G) (wd (gC G) ad K 0 shsK)) {res : (Int32 × Mem)} (RET : RI G cX8_knit 3 (wd (gC G) ad res.2 0 shsK) res.1) {a1 : Int32} {a2 : Int32} {K : Mem} (h : F_X8_knit_0 a1 a2 K = some res) : V G 3 (wd (gC G) ad K 0 shsK) 0 [(0, .ref (ad 0)), (1, .int a1), (2, .int a2)] [] := by
  unfold F_X8_knit_0 at h
  refine v_iload_n C dX8_knit_0 rfl rfl 1 rfl ?_
  obtain ⟨r2, e1, h⟩ := bdS h
  refine v_callSi C ys_X0_isKind m_284 (c_X0_isKind e1) (Sub.whole hD _ _) (As := [.int a1]) rfl rfl (Nat.le_of_ble_eq_true rfl) ⟨Nat.le_of_ble_eq_true rfl, Nat.le_of_ble_eq_true rfl⟩ dX8_knit_1 rfl ?_
  refine v_if_eq C dX8_knit_4 (tgt := 14) (by decide) rfl (fun c3 => ?_) (fun c3 => ?_)
  · have h := ifp c3 h
    refine v_ldc C dX8_knit_14 rfl m_290 ?_
    obtain rfl := Option.some.inj h
    exact RET _ _ dX8_knit_16
  · have h := ifn c3 h
    refine v_iload_n C dX8_knit_7 rfl rfl 2 rfl ?_
    obtain ⟨r5, e4, h⟩ := bdS h
    refine v_callSi C ys_X8_isGauge m_287 (c_X8_isGauge e4) (Sub.whole hD _ _) (As := [.int a2]) rfl rfl (Nat.le_of_ble_eq_true rfl) ⟨Nat.le_of_ble_eq_true rfl, Nat.le_of_ble_eq_true rfl⟩ dX8_knit_8 rfl ?_
    refine v_if_ne C dX8_knit_11 (tgt := 17) (by decide) rfl (fun c6 => ?_) (fun c6 => ?_)
    · have h := ifn c6 h
      refine v_aload_n C dX8_knit_17 rfl rfl 0 rfl ?_
      refine v_getr C dX8_knit_18 rfl ff_X8_21 sk_0 rfl ?_
      obtain ⟨r8, e7, h⟩ := bdS h
      refine v_callVi C yv_X6_isFull m_291 (c_X6_isFull isTown_21 e7) (Sub.whole hD _ _) ⟨_, _, _, _, _, wd_at sk_21, rfl⟩ (As := []) rfl rfl (Nat.le_of_ble_eq_true rfl) ⟨Nat.le_of_ble_eq_true rfl, Nat.le_of_ble_eq_true rfl⟩ dX8_knit_21 rfl ?_
      refine v_if_eq C dX8_knit_24 (tgt := 30) (by decide) rfl (fun c9 => ?_) (fun c9 => ?_)
      · have h := ifp c9 h
        refine v_aload_n C dX8_knit_30 rfl rfl 0 rfl ?_
        refine v_getr C dX8_knit_31 rfl ff_X8_21 sk_0 rfl ?_
        refine v_iload_n C dX8_knit_34 rfl rfl 1 rfl ?_
        refine v_iload_n C dX8_knit_35 rfl rfl 2 rfl ?_
        refine v_iconst C dX8_knit_36 rfl ic_0 ?_
        obtain ⟨K11, e10, h⟩ := bdS h
        refine v_callVv C yv_X6_add m_296 (c_X6_add isTown_21 e10) (Sub.whole hD _ _) ⟨_, _, _, _, _, wd_at sk_21, rfl⟩ (As := [.int a1, .int a2, .int 0]) rfl rfl (Nat.le_of_ble_eq_true rfl) ⟨Nat.le_of_ble_eq_true rfl, Nat.le_of_ble_eq_true rfl⟩ dX8_knit_37 rfl ?_
        refine v_aload_n C dX8_knit_40 rfl rfl 0 rfl ?_
        refine v_getr C dX8_knit_41 rfl ff_X8_21 sk_0 rfl ?_
        refine v_getf C dX8_knit_44 rfl ff_X8_91 sk_21 rfl ?_
        refine v_iconst C dX8_knit_47 rfl ic_1 ?_
        refine v_isub C dX8_knit_48 rfl ?_
        obtain rfl := Option.some.inj h
        exact RET _ _ dX8_knit_49
      · have h := ifn c9 h
        refine v_ldc C dX8_knit_27 rfl m_295 ?_
        obtain rfl := Option.some.inj h
        exact RET _ _ dX8_knit_29
    · have h := ifp c6 h
      refine v_ldc C dX8_knit_14 rfl m_290 ?_
      obtain rfl := Option.some.inj h
      exact RET _ _ dX8_knit_16
def C_X8_knit (a1 : Int32) (a2 : Int32) (K : Mem) : Option (Int32 × Mem) := F_X8_knit_0 a1 a2 K
set_option maxRecDepth 100000 in
theorem c_X8_knit {l : Launch} {D : va_G} {cA : FieldType → ClassId} {X : Ex} {ad : Nat → Nat} {a1 : Int32} {a2 : Int32} {K : Mem} {r : Int32} {K' : Mem} (h : C_X8_knit a1 a2 K = some (r, K')) : MI l D cA X yX8_knit cX8_knit 3 (some .int) 2 43 [.ref (ad 0), .int a1, .int a2] (wd cA ad K 0 shsK) (wd cA ad K' 0 shsK) r :=
  mI_of (by decide +kernel) (Nat.le_of_ble_eq_true rfl) (fun G h1 h2 h3 h4 C hD RET => by subst h1 h2 h3 h4; exact wF_X8_knit_0 C (fun K' => wd_D K' hD) RET  h)
def F_X8_told_0 (a1 : Int32) (a2 : Int32) (K : Mem) : Option (Int32 × Mem) :=
  bd (C_X6_has 21 K a1) fun r2 =>
  if r2 = 0 then (
    some ((-1000000001), K)
  ) else (
    if a2 = 0 then (
      gd (inb a1 12) <|
      some (K 22 (Int32.toNatClampNeg a1), K)
    ) else (
      if a2 = 1 then (
        gd (inb a1 12) <|
        some (K 23 (Int32.toNatClampNeg a1), K)
      ) else (
        if a2 = 2 then (
          gd (inb a1 12) <|
          some (K 24 (Int32.toNatClampNeg a1), K)
        ) else (
          if a2 = 3 then (
            gd (inb a1 12) <|
            some (K 25 (Int32.toNatClampNeg a1), K)
          ) else (
            if a2 = 4 then (
              bd (C_X6_holding 21 K a1) fun r14 =>
              some (r14, K)
            ) else (
              if a2 = 5 then (
                bd2 (C_X6_wears 21 a1 K) fun r18 K17 =>
                some (r18, K17)
              ) else (
                if a2 = 6 then (
                  gd (inb a1 12) <|
                  gd (inb a1 12) <|
                  bd (C_X0_bears (K 22 (Int32.toNatClampNeg a1)) (K 23 (Int32.toNatClampNeg a1))) fun r23 =>
                  some (r23, K)
                ) else (
                  if a2 = 7 then (
                    gd (inb a1 12) <|
                    gd (inb a1 12) <|
                    bd (C_X0_worth (K 22 (Int32.toNatClampNeg a1)) (K 23 (Int32.toNatClampNeg a1))) fun r28 =>
                    some (r28, K)
                  ) else (
                    some ((-1000000001), K)
                  )
                )
              )
            )
          )
        )
      )
    )
  )
set_option maxRecDepth 100000 in
set_option maxHeartbeats 4000000 in
theorem wF_X8_told_0 {G : Ctx} {ad : Nat → Nat} (C : Cx G RX8 cX8_told 3 4 93) (hD : ∀ K, va_D (gA G) (wd (gC G) ad K 0 shsK)) {res : (Int32 × Mem)} (RET : RI G cX8_told 3 (wd (gC G) ad res.2 0 shsK) res.1) {a1 : Int32} {a2 : Int32} {K : Mem} (h : F_X8_told_0 a1 a2 K = some res) : V G 3 (wd (gC G) ad K 0 shsK) 0 [(0, .ref (ad 0)), (1, .int a1), (2, .int a2)] [] := by
  unfold F_X8_told_0 at h
  refine v_aload_n C dX8_told_0 rfl rfl 0 rfl ?_
  refine v_getr C dX8_told_1 rfl ff_X8_21 sk_0 rfl ?_
  refine v_iload_n C dX8_told_4 rfl rfl 1 rfl ?_
  obtain ⟨r2, e1, h⟩ := bdS h
  refine v_callVi C yv_X6_has m_305 (c_X6_has isTown_21 e1) (Sub.whole hD _ _) ⟨_, _, _, _, _, wd_at sk_21, rfl⟩ (As := [.int a1]) rfl rfl (Nat.le_of_ble_eq_true rfl) ⟨Nat.le_of_ble_eq_true rfl, Nat.le_of_ble_eq_true rfl⟩ dX8_told_5 rfl ?_
  refine v_if_ne C dX8_told_8 (tgt := 14) (by decide) rfl (fun c3 => ?_) (fun c3 => ?_)
  · have h := ifn c3 h
    refine v_iload_n C dX8_told_14 rfl rfl 2 rfl ?_
    by_cases c4 : a2 = 0
    · have h := ifp c4 h
      refine v_tsIn C dX8_told_15 c4 (by decide) (by decide) (off := 45) (by decide) (tgt := 60) (by decide) ?_
      refine v_aload_n C dX8_told_60 rfl rfl 0 rfl ?_
      refine v_getr C dX8_told_61 rfl ff_X8_21 sk_0 rfl ?_
      refine v_getr C dX8_told_64 rfl ff_X8_98 sk_21 rfl ?_
      refine v_iload_n C dX8_told_67 rfl rfl 1 rfl ?_
      obtain ⟨b5, h⟩ := gdS h
      refine v_iald C dX8_told_68 rfl sk_22 b5 ?_
      obtain rfl := Option.some.inj h
      exact RET _ _ dX8_told_69
    · have h := ifn c4 h
      by_cases c6 : a2 = 1
      · have h := ifp c6 h
        refine v_tsIn C dX8_told_15 c6 (by decide) (by decide) (off := 55) (by decide) (tgt := 70) (by decide) ?_
        refine v_aload_n C dX8_told_70 rfl rfl 0 rfl ?_
        refine v_getr C dX8_told_71 rfl ff_X8_21 sk_0 rfl ?_
        refine v_getr C dX8_told_74 rfl ff_X8_101 sk_21 rfl ?_
        refine v_iload_n C dX8_told_77 rfl rfl 1 rfl ?_
        obtain ⟨b7, h⟩ := gdS h
        refine v_iald C dX8_told_78 rfl sk_23 b7 ?_
        obtain rfl := Option.some.inj h
        exact RET _ _ dX8_told_79
      · have h := ifn c6 h
        by_cases c8 : a2 = 2
        · have h := ifp c8 h
          refine v_tsIn C dX8_told_15 c8 (by decide) (by decide) (off := 65) (by decide) (tgt := 80) (by decide) ?_
          refine v_aload_n C dX8_told_80 rfl rfl 0 rfl ?_
          refine v_getr C dX8_told_81 rfl ff_X8_21 sk_0 rfl ?_
          refine v_getr C dX8_told_84 rfl ff_X8_104 sk_21 rfl ?_
          refine v_iload_n C dX8_told_87 rfl rfl 1 rfl ?_
          obtain ⟨b9, h⟩ := gdS h
          refine v_iald C dX8_told_88 rfl sk_24 b9 ?_
          obtain rfl := Option.some.inj h
          exact RET _ _ dX8_told_89
        · have h := ifn c8 h
          by_cases c10 : a2 = 3
          · have h := ifp c10 h
            refine v_tsIn C dX8_told_15 c10 (by decide) (by decide) (off := 75) (by decide) (tgt := 90) (by decide) ?_
            refine v_aload_n C dX8_told_90 rfl rfl 0 rfl ?_
            refine v_getr C dX8_told_91 rfl ff_X8_21 sk_0 rfl ?_
            refine v_getr C dX8_told_94 rfl ff_X8_107 sk_21 rfl ?_
            refine v_iload_n C dX8_told_97 rfl rfl 1 rfl ?_
            obtain ⟨b11, h⟩ := gdS h
            refine v_iald C dX8_told_98 rfl sk_25 b11 ?_
            obtain rfl := Option.some.inj h
            exact RET _ _ dX8_told_99
          · have h := ifn c10 h
            by_cases c12 : a2 = 4
            · have h := ifp c12 h
              refine v_tsIn C dX8_told_15 c12 (by decide) (by decide) (off := 85) (by decide) (tgt := 100) (by decide) ?_
              refine v_aload_n C dX8_told_100 rfl rfl 0 rfl ?_
              refine v_getr C dX8_told_101 rfl ff_X8_21 sk_0 rfl ?_
              refine v_iload_n C dX8_told_104 rfl rfl 1 rfl ?_
              obtain ⟨r14, e13, h⟩ := bdS h
              refine v_callVi C yv_X6_holding m_309 (c_X6_holding isTown_21 e13) (Sub.whole hD _ _) ⟨_, _, _, _, _, wd_at sk_21, rfl⟩ (As := [.int a1]) rfl rfl (Nat.le_of_ble_eq_true rfl) ⟨Nat.le_of_ble_eq_true rfl, Nat.le_of_ble_eq_true rfl⟩ dX8_told_105 rfl ?_
              obtain rfl := Option.some.inj h
              exact RET _ _ dX8_told_108
            · have h := ifn c12 h
              by_cases c15 : a2 = 5
              · have h := ifp c15 h
                refine v_tsIn C dX8_told_15 c15 (by decide) (by decide) (off := 94) (by decide) (tgt := 109) (by decide) ?_
                refine v_aload_n C dX8_told_109 rfl rfl 0 rfl ?_
                refine v_getr C dX8_told_110 rfl ff_X8_21 sk_0 rfl ?_
                refine v_iload_n C dX8_told_113 rfl rfl 1 rfl ?_
                obtain ⟨r18, K17, e16, h⟩ := bd2S h
                refine v_callVi C yv_X6_wears m_326 (c_X6_wears isTown_21 e16) (Sub.whole hD _ _) ⟨_, _, _, _, _, wd_at sk_21, rfl⟩ (As := [.int a1]) rfl rfl (Nat.le_of_ble_eq_true rfl) ⟨Nat.le_of_ble_eq_true rfl, Nat.le_of_ble_eq_true rfl⟩ dX8_told_114 rfl ?_
                obtain rfl := Option.some.inj h
                exact RET _ _ dX8_told_117
              · have h := ifn c15 h
                by_cases c19 : a2 = 6
                · have h := ifp c19 h
                  refine v_tsIn C dX8_told_15 c19 (by decide) (by decide) (off := 103) (by decide) (tgt := 118) (by decide) ?_
                  refine v_aload_n C dX8_told_118 rfl rfl 0 rfl ?_
                  refine v_getr C dX8_told_119 rfl ff_X8_21 sk_0 rfl ?_
                  refine v_getr C dX8_told_122 rfl ff_X8_98 sk_21 rfl ?_
                  refine v_iload_n C dX8_told_125 rfl rfl 1 rfl ?_
                  obtain ⟨b20, h⟩ := gdS h
                  refine v_iald C dX8_told_126 rfl sk_22 b20 ?_
                  refine v_aload_n C dX8_told_127 rfl rfl 0 rfl ?_
                  refine v_getr C dX8_told_128 rfl ff_X8_21 sk_0 rfl ?_
                  refine v_getr C dX8_told_131 rfl ff_X8_101 sk_21 rfl ?_
                  refine v_iload_n C dX8_told_134 rfl rfl 1 rfl ?_
                  obtain ⟨b21, h⟩ := gdS h
                  refine v_iald C dX8_told_135 rfl sk_23 b21 ?_
                  obtain ⟨r23, e22, h⟩ := bdS h
                  refine v_callSi C ys_X0_bears m_367 (c_X0_bears e22) (Sub.whole hD _ _) (As := [.int (K 22 (Int32.toNatClampNeg a1)), .int (K 23 (Int32.toNatClampNeg a1))]) rfl rfl (Nat.le_of_ble_eq_true rfl) ⟨Nat.le_of_ble_eq_true rfl, Nat.le_of_ble_eq_true rfl⟩ dX8_told_136 rfl ?_
                  obtain rfl := Option.some.inj h
                  exact RET _ _ dX8_told_139
                · have h := ifn c19 h
                  by_cases c24 : a2 = 7
                  · have h := ifp c24 h
                    refine v_tsIn C dX8_told_15 c24 (by decide) (by decide) (off := 125) (by decide) (tgt := 140) (by decide) ?_
                    refine v_aload_n C dX8_told_140 rfl rfl 0 rfl ?_
                    refine v_getr C dX8_told_141 rfl ff_X8_21 sk_0 rfl ?_
                    refine v_getr C dX8_told_144 rfl ff_X8_98 sk_21 rfl ?_
                    refine v_iload_n C dX8_told_147 rfl rfl 1 rfl ?_
                    obtain ⟨b25, h⟩ := gdS h
                    refine v_iald C dX8_told_148 rfl sk_22 b25 ?_
                    refine v_aload_n C dX8_told_149 rfl rfl 0 rfl ?_
                    refine v_getr C dX8_told_150 rfl ff_X8_21 sk_0 rfl ?_
                    refine v_getr C dX8_told_153 rfl ff_X8_101 sk_21 rfl ?_
                    refine v_iload_n C dX8_told_156 rfl rfl 1 rfl ?_
                    obtain ⟨b26, h⟩ := gdS h
                    refine v_iald C dX8_told_157 rfl sk_23 b26 ?_
                    obtain ⟨r28, e27, h⟩ := bdS h
                    refine v_callSi C ys_X0_worth m_370 (c_X0_worth e27) (Sub.whole hD _ _) (As := [.int (K 22 (Int32.toNatClampNeg a1)), .int (K 23 (Int32.toNatClampNeg a1))]) rfl rfl (Nat.le_of_ble_eq_true rfl) ⟨Nat.le_of_ble_eq_true rfl, Nat.le_of_ble_eq_true rfl⟩ dX8_told_158 rfl ?_
                    obtain rfl := Option.some.inj h
                    exact RET _ _ dX8_told_161
                  · have h := ifn c24 h
                    refine v_tsOut C dX8_told_15 (by have ec4 := lv_neT c4 (k := 0) (a := 0) (by decide); have ec6 := lv_neT c6 (k := 1) (a := 1) (by decide); have ec8 := lv_neT c8 (k := 2) (a := 2) (by decide); have ec10 := lv_neT c10 (k := 3) (a := 3) (by decide); have ec12 := lv_neT c12 (k := 4) (a := 4) (by decide); have ec15 := lv_neT c15 (k := 5) (a := 5) (by decide); have ec19 := lv_neT c19 (k := 6) (a := 6) (by decide); have ec24 := lv_neT c24 (k := 7) (a := 7) (by decide); omega) (tgt := 162) (by decide) ?_
                    refine v_ldc C dX8_told_162 rfl m_290 ?_
                    obtain rfl := Option.some.inj h
                    exact RET _ _ dX8_told_164
  · have h := ifp c3 h
    refine v_ldc C dX8_told_11 rfl m_290 ?_
    obtain rfl := Option.some.inj h
    exact RET _ _ dX8_told_13
def C_X8_told (a1 : Int32) (a2 : Int32) (K : Mem) : Option (Int32 × Mem) := F_X8_told_0 a1 a2 K
set_option maxRecDepth 100000 in
theorem c_X8_told {l : Launch} {D : va_G} {cA : FieldType → ClassId} {X : Ex} {ad : Nat → Nat} {a1 : Int32} {a2 : Int32} {K : Mem} {r : Int32} {K' : Mem} (h : C_X8_told a1 a2 K = some (r, K')) : MI l D cA X yX8_told cX8_told 3 (some .int) 4 93 [.ref (ad 0), .int a1, .int a2] (wd cA ad K 0 shsK) (wd cA ad K' 0 shsK) r :=
  mI_of (by decide +kernel) (Nat.le_of_ble_eq_true rfl) (fun G h1 h2 h3 h4 C hD RET => by subst h1 h2 h3 h4; exact wF_X8_told_0 C (fun K' => wd_D K' hD) RET  h)
def F_X8_as_0 (K : Mem) (a1 : Int32) (a2 : Int32) : Option Int32 :=
  bd (C_X6_has 21 K a1) fun r2 =>
  if r2 = 0 then (
    some (-1000000001)
  ) else (
    bd (C_X0_isKind a2) fun r5 =>
    if r5 = 0 then (
      some (-1000000001)
    ) else (
      gd (inb a1 12) <|
      bd (C_X0_isUnder (K 22 (Int32.toNatClampNeg a1)) a2) fun r9 =>
      if r9 = 0 then (
        some (-1000000012)
      ) else (
        gd (inb a1 12) <|
        some (K 24 (Int32.toNatClampNeg a1))
      )
    )
  )
set_option maxRecDepth 100000 in
set_option maxHeartbeats 4000000 in
theorem wF_X8_as_0 {G : Ctx} {ad : Nat → Nat} {K : Mem} (C : Cx G RX8 cX8_as 3 2 43) (hD : ∀ K, va_D (gA G) (wd (gC G) ad K 0 shsK)) {res : Int32} (RET : RI G cX8_as 3 (wd (gC G) ad K 0 shsK) res) {a1 : Int32} {a2 : Int32} (h : F_X8_as_0 K a1 a2 = some res) : V G 3 (wd (gC G) ad K 0 shsK) 0 [(0, .ref (ad 0)), (1, .int a1), (2, .int a2)] [] := by
  unfold F_X8_as_0 at h
  refine v_aload_n C dX8_as_0 rfl rfl 0 rfl ?_
  refine v_getr C dX8_as_1 rfl ff_X8_21 sk_0 rfl ?_
  refine v_iload_n C dX8_as_4 rfl rfl 1 rfl ?_
  obtain ⟨r2, e1, h⟩ := bdS h
  refine v_callVi C yv_X6_has m_305 (c_X6_has isTown_21 e1) (Sub.whole hD _ _) ⟨_, _, _, _, _, wd_at sk_21, rfl⟩ (As := [.int a1]) rfl rfl (Nat.le_of_ble_eq_true rfl) ⟨Nat.le_of_ble_eq_true rfl, Nat.le_of_ble_eq_true rfl⟩ dX8_as_5 rfl ?_
  refine v_if_eq C dX8_as_8 (tgt := 18) (by decide) rfl (fun c3 => ?_) (fun c3 => ?_)
  · have h := ifp c3 h
    refine v_ldc C dX8_as_18 rfl m_290 ?_
    obtain rfl := Option.some.inj h
    exact RET _ _ dX8_as_20
  · have h := ifn c3 h
    refine v_iload_n C dX8_as_11 rfl rfl 2 rfl ?_
    obtain ⟨r5, e4, h⟩ := bdS h
    refine v_callSi C ys_X0_isKind m_284 (c_X0_isKind e4) (Sub.whole hD _ _) (As := [.int a2]) rfl rfl (Nat.le_of_ble_eq_true rfl) ⟨Nat.le_of_ble_eq_true rfl, Nat.le_of_ble_eq_true rfl⟩ dX8_as_12 rfl ?_
    refine v_if_ne C dX8_as_15 (tgt := 21) (by decide) rfl (fun c6 => ?_) (fun c6 => ?_)
    · have h := ifn c6 h
      refine v_aload_n C dX8_as_21 rfl rfl 0 rfl ?_
      refine v_getr C dX8_as_22 rfl ff_X8_21 sk_0 rfl ?_
      refine v_getr C dX8_as_25 rfl ff_X8_98 sk_21 rfl ?_
      refine v_iload_n C dX8_as_28 rfl rfl 1 rfl ?_
      obtain ⟨b7, h⟩ := gdS h
      refine v_iald C dX8_as_29 rfl sk_22 b7 ?_
      refine v_iload_n C dX8_as_30 rfl rfl 2 rfl ?_
      obtain ⟨r9, e8, h⟩ := bdS h
      refine v_callSi C ys_X0_isUnder m_377 (c_X0_isUnder e8) (Sub.whole hD _ _) (As := [.int (K 22 (Int32.toNatClampNeg a1)), .int a2]) rfl rfl (Nat.le_of_ble_eq_true rfl) ⟨Nat.le_of_ble_eq_true rfl, Nat.le_of_ble_eq_true rfl⟩ dX8_as_31 rfl ?_
      refine v_if_eq C dX8_as_34 (tgt := 49) (by decide) rfl (fun c10 => ?_) (fun c10 => ?_)
      · have h := ifp c10 h
        refine v_ldc C dX8_as_49 rfl m_383 ?_
        obtain rfl := Option.some.inj h
        exact RET _ _ dX8_as_51
      · have h := ifn c10 h
        refine v_aload_n C dX8_as_37 rfl rfl 0 rfl ?_
        refine v_getr C dX8_as_38 rfl ff_X8_21 sk_0 rfl ?_
        refine v_getr C dX8_as_41 rfl ff_X8_104 sk_21 rfl ?_
        refine v_iload_n C dX8_as_44 rfl rfl 1 rfl ?_
        obtain ⟨b11, h⟩ := gdS h
        refine v_iald C dX8_as_45 rfl sk_24 b11 ?_
        refine v_goto C dX8_as_46 (tgt := 51) (by decide) ?_
        obtain rfl := Option.some.inj h
        exact RET _ _ dX8_as_51
    · have h := ifp c6 h
      refine v_ldc C dX8_as_18 rfl m_290 ?_
      obtain rfl := Option.some.inj h
      exact RET _ _ dX8_as_20
def C_X8_as (K : Mem) (a1 : Int32) (a2 : Int32) : Option Int32 := F_X8_as_0 K a1 a2
set_option maxRecDepth 100000 in
theorem c_X8_as {l : Launch} {D : va_G} {cA : FieldType → ClassId} {X : Ex} {ad : Nat → Nat} {a1 : Int32} {a2 : Int32} {K : Mem} {r : Int32} (h : C_X8_as K a1 a2 = some r) : MI l D cA X yX8_as cX8_as 3 (some .int) 2 43 [.ref (ad 0), .int a1, .int a2] (wd cA ad K 0 shsK) (wd cA ad K 0 shsK) r :=
  mI_of (by decide +kernel) (Nat.le_of_ble_eq_true rfl) (fun G h1 h2 h3 h4 C hD RET => by subst h1 h2 h3 h4; exact wF_X8_as_0 C (fun K' => wd_D K' hD) RET  h)
def F_X8_turns_0 (a1 : Int32) (a2 : Int32) (K : Mem) : Option (Int32 × Mem) :=
  bd (C_X6_has 21 K a1) fun r2 =>
  if r2 = 0 then (
    some ((-1000000001), K)
  ) else (
    bd (C_X0_isKind a2) fun r5 =>
    if r5 = 0 then (
      some ((-1000000001), K)
    ) else (
      gd (inb a1 12) <|
      nm (K 22 (Int32.toNatClampNeg a1)) fun v8 =>
      gd (inb a1 12) <|
      nm (up K 22 (Int32.toNatClampNeg a1) a2) fun K10 =>
      some (v8, K10)
    )
  )
set_option maxRecDepth 100000 in
set_option maxHeartbeats 4000000 in
theorem wF_X8_turns_0 {G : Ctx} {ad : Nat → Nat} (C : Cx G RX8 cX8_turns 4 1 21) (hD : ∀ K, va_D (gA G) (wd (gC G) ad K 0 shsK)) {res : (Int32 × Mem)} (RET : RI G cX8_turns 4 (wd (gC G) ad res.2 0 shsK) res.1) {a1 : Int32} {a2 : Int32} {K : Mem} (h : F_X8_turns_0 a1 a2 K = some res) : V G 4 (wd (gC G) ad K 0 shsK) 0 [(0, .ref (ad 0)), (1, .int a1), (2, .int a2)] [] := by
  unfold F_X8_turns_0 at h
  refine v_aload_n C dX8_turns_0 rfl rfl 0 rfl ?_
  refine v_getr C dX8_turns_1 rfl ff_X8_21 sk_0 rfl ?_
  refine v_iload_n C dX8_turns_4 rfl rfl 1 rfl ?_
  obtain ⟨r2, e1, h⟩ := bdS h
  refine v_callVi C yv_X6_has m_305 (c_X6_has isTown_21 e1) (Sub.whole hD _ _) ⟨_, _, _, _, _, wd_at sk_21, rfl⟩ (As := [.int a1]) rfl rfl (Nat.le_of_ble_eq_true rfl) ⟨Nat.le_of_ble_eq_true rfl, Nat.le_of_ble_eq_true rfl⟩ dX8_turns_5 rfl ?_
  refine v_if_eq C dX8_turns_8 (tgt := 18) (by decide) rfl (fun c3 => ?_) (fun c3 => ?_)
  · have h := ifp c3 h
    refine v_ldc C dX8_turns_18 rfl m_290 ?_
    obtain rfl := Option.some.inj h
    exact RET _ _ dX8_turns_20
  · have h := ifn c3 h
    refine v_iload_n C dX8_turns_11 rfl rfl 2 rfl ?_
    obtain ⟨r5, e4, h⟩ := bdS h
    refine v_callSi C ys_X0_isKind m_284 (c_X0_isKind e4) (Sub.whole hD _ _) (As := [.int a2]) rfl rfl (Nat.le_of_ble_eq_true rfl) ⟨Nat.le_of_ble_eq_true rfl, Nat.le_of_ble_eq_true rfl⟩ dX8_turns_12 rfl ?_
    refine v_if_ne C dX8_turns_15 (tgt := 21) (by decide) rfl (fun c6 => ?_) (fun c6 => ?_)
    · have h := ifn c6 h
      refine v_aload_n C dX8_turns_21 rfl rfl 0 rfl ?_
      refine v_getr C dX8_turns_22 rfl ff_X8_21 sk_0 rfl ?_
      refine v_getr C dX8_turns_25 rfl ff_X8_98 sk_21 rfl ?_
      refine v_iload_n C dX8_turns_28 rfl rfl 1 rfl ?_
      obtain ⟨b7, h⟩ := gdS h
      refine v_iald C dX8_turns_29 rfl sk_22 b7 ?_
      obtain ⟨v8, ev8, h⟩ := nmS h
      refine v_nmi ev8 ?_
      refine v_istore_n C dX8_turns_30 rfl rfl (by decide) (L' := [(3, .int v8), (0, .ref (ad 0)), (1, .int a1), (2, .int a2)]) rfl ?_
      refine v_aload_n C dX8_turns_31 rfl rfl 1 rfl ?_
      refine v_getr C dX8_turns_32 rfl ff_X8_21 sk_0 rfl ?_
      refine v_getr C dX8_turns_35 rfl ff_X8_98 sk_21 rfl ?_
      refine v_iload_n C dX8_turns_38 rfl rfl 2 rfl ?_
      refine v_iload_n C dX8_turns_39 rfl rfl 3 rfl ?_
      obtain ⟨b9, h⟩ := gdS h
      obtain ⟨K10, eK10, h⟩ := nmS h
      refine v_iast C hD dX8_turns_40 rfl sk_22 b9 eK10 ?_
      refine v_iload_n C dX8_turns_41 rfl rfl 0 rfl ?_
      obtain rfl := Option.some.inj h
      exact RET _ _ dX8_turns_42
    · have h := ifp c6 h
      refine v_ldc C dX8_turns_18 rfl m_290 ?_
      obtain rfl := Option.some.inj h
      exact RET _ _ dX8_turns_20
def C_X8_turns (a1 : Int32) (a2 : Int32) (K : Mem) : Option (Int32 × Mem) := F_X8_turns_0 a1 a2 K
set_option maxRecDepth 100000 in
theorem c_X8_turns {l : Launch} {D : va_G} {cA : FieldType → ClassId} {X : Ex} {ad : Nat → Nat} {a1 : Int32} {a2 : Int32} {K : Mem} {r : Int32} {K' : Mem} (h : C_X8_turns a1 a2 K = some (r, K')) : MI l D cA X yX8_turns cX8_turns 4 (some .int) 1 21 [.ref (ad 0), .int a1, .int a2] (wd cA ad K 0 shsK) (wd cA ad K' 0 shsK) r :=
  mI_of (by decide +kernel) (Nat.le_of_ble_eq_true rfl) (fun G h1 h2 h3 h4 C hD RET => by subst h1 h2 h3 h4; exact wF_X8_turns_0 C (fun K' => wd_D K' hD) RET  h)
def F_X8_set_50 (a1 : Int32) (a2 : Int32) (a3 : Int32) (K : Mem) : Option (Int32 × Mem) :=
  if a2 = 2 then (
    if a3 < 0 then (
      some ((-1000000001), K)
    ) else (
      if 99 < a3 then (
        some ((-1000000001), K)
      ) else (
        gd (inb a1 12) <|
        nm (K 24 (Int32.toNatClampNeg a1)) fun v16 =>
        gd (inb a1 12) <|
        nm (up K 24 (Int32.toNatClampNeg a1) a3) fun K18 =>
        some (v16, K18)
      )
    )
  ) else (
    some ((-1000000001), K)
  )
set_option maxRecDepth 100000 in
set_option maxHeartbeats 4000000 in
theorem wF_X8_set_50 {G : Ctx} {ad : Nat → Nat} (C : Cx G RX8 cX8_set 5 1 21) (hD : ∀ K, va_D (gA G) (wd (gC G) ad K 0 shsK)) {res : (Int32 × Mem)} (RET : RI G cX8_set 5 (wd (gC G) ad res.2 0 shsK) res.1) {a1 : Int32} {a2 : Int32} {a3 : Int32} {K : Mem} (h : F_X8_set_50 a1 a2 a3 K = some res) : V G 5 (wd (gC G) ad K 0 shsK) 50 [(0, .ref (ad 0)), (1, .int a1), (2, .int a2), (3, .int a3)] [] := by
  unfold F_X8_set_50 at h
  refine v_iload_n C dX8_set_50 rfl rfl 2 rfl ?_
  refine v_iconst C dX8_set_51 rfl ic_2 ?_
  refine v_icmp_ne C dX8_set_52 (tgt := 89) (by decide) rfl (fun c12 => ?_) (fun c12 => ?_)
  · have h := ifn c12 h
    refine v_ldc C dX8_set_89 rfl m_290 ?_
    obtain rfl := Option.some.inj h
    exact RET _ _ dX8_set_91
  · have h := ifp c12 h
    refine v_iload_n C dX8_set_55 rfl rfl 3 rfl ?_
    refine v_if_lt C dX8_set_56 (tgt := 89) (by decide) rfl (fun c13 => ?_) (fun c13 => ?_)
    · have h := ifp c13 h
      refine v_ldc C dX8_set_89 rfl m_290 ?_
      obtain rfl := Option.some.inj h
      exact RET _ _ dX8_set_91
    · have h := ifn c13 h
      refine v_iload_n C dX8_set_59 rfl rfl 3 rfl ?_
      refine v_bipush C dX8_set_60 rfl bi_99 ?_
      refine v_icmp_gt C dX8_set_62 (tgt := 89) (by decide) rfl (fun c14 => ?_) (fun c14 => ?_)
      · have h := ifp c14 h
        refine v_ldc C dX8_set_89 rfl m_290 ?_
        obtain rfl := Option.some.inj h
        exact RET _ _ dX8_set_91
      · have h := ifn c14 h
        refine v_aload_n C dX8_set_65 rfl rfl 0 rfl ?_
        refine v_getr C dX8_set_66 rfl ff_X8_21 sk_0 rfl ?_
        refine v_getr C dX8_set_69 rfl ff_X8_104 sk_21 rfl ?_
        refine v_iload_n C dX8_set_72 rfl rfl 1 rfl ?_
        obtain ⟨b15, h⟩ := gdS h
        refine v_iald C dX8_set_73 rfl sk_24 b15 ?_
        obtain ⟨v16, ev16, h⟩ := nmS h
        refine v_nmi ev16 ?_
        refine v_istore C dX8_set_74 rfl (by decide) (L' := [(4, .int v16), (0, .ref (ad 0)), (1, .int a1), (2, .int a2), (3, .int a3)]) rfl ?_
        refine v_aload_n C dX8_set_76 rfl rfl 1 rfl ?_
        refine v_getr C dX8_set_77 rfl ff_X8_21 sk_0 rfl ?_
        refine v_getr C dX8_set_80 rfl ff_X8_104 sk_21 rfl ?_
        refine v_iload_n C dX8_set_83 rfl rfl 2 rfl ?_
        refine v_iload_n C dX8_set_84 rfl rfl 4 rfl ?_
        obtain ⟨b17, h⟩ := gdS h
        obtain ⟨K18, eK18, h⟩ := nmS h
        refine v_iast C hD dX8_set_85 rfl sk_24 b17 eK18 ?_
        refine v_iload C dX8_set_86 rfl 0 rfl ?_
        obtain rfl := Option.some.inj h
        exact RET _ _ dX8_set_88
def F_X8_set_0 (a1 : Int32) (a2 : Int32) (a3 : Int32) (K : Mem) : Option (Int32 × Mem) :=
  bd (C_X6_has 21 K a1) fun r2 =>
  if r2 = 0 then (
    some ((-1000000001), K)
  ) else (
    if a2 = 1 then (
      bd (C_X8_isGauge a3) fun r6 =>
      if r6 = 0 then (
        F_X8_set_50 a1 a2 a3 K
      ) else (
        gd (inb a1 12) <|
        nm (K 23 (Int32.toNatClampNeg a1)) fun v9 =>
        gd (inb a1 12) <|
        nm (up K 23 (Int32.toNatClampNeg a1) a3) fun K11 =>
        some (v9, K11)
      )
    ) else (
      F_X8_set_50 a1 a2 a3 K
    )
  )
set_option maxRecDepth 100000 in
set_option maxHeartbeats 4000000 in
theorem wF_X8_set_0 {G : Ctx} {ad : Nat → Nat} (C : Cx G RX8 cX8_set 5 1 21) (hD : ∀ K, va_D (gA G) (wd (gC G) ad K 0 shsK)) {res : (Int32 × Mem)} (RET : RI G cX8_set 5 (wd (gC G) ad res.2 0 shsK) res.1) {a1 : Int32} {a2 : Int32} {a3 : Int32} {K : Mem} (h : F_X8_set_0 a1 a2 a3 K = some res) : V G 5 (wd (gC G) ad K 0 shsK) 0 [(0, .ref (ad 0)), (1, .int a1), (2, .int a2), (3, .int a3)] [] := by
  unfold F_X8_set_0 at h
  refine v_aload_n C dX8_set_0 rfl rfl 0 rfl ?_
  refine v_getr C dX8_set_1 rfl ff_X8_21 sk_0 rfl ?_
  refine v_iload_n C dX8_set_4 rfl rfl 1 rfl ?_
  obtain ⟨r2, e1, h⟩ := bdS h
  refine v_callVi C yv_X6_has m_305 (c_X6_has isTown_21 e1) (Sub.whole hD _ _) ⟨_, _, _, _, _, wd_at sk_21, rfl⟩ (As := [.int a1]) rfl rfl (Nat.le_of_ble_eq_true rfl) ⟨Nat.le_of_ble_eq_true rfl, Nat.le_of_ble_eq_true rfl⟩ dX8_set_5 rfl ?_
  refine v_if_ne C dX8_set_8 (tgt := 14) (by decide) rfl (fun c3 => ?_) (fun c3 => ?_)
  · have h := ifn c3 h
    refine v_iload_n C dX8_set_14 rfl rfl 2 rfl ?_
    refine v_iconst C dX8_set_15 rfl ic_1 ?_
    refine v_icmp_ne C dX8_set_16 (tgt := 50) (by decide) rfl (fun c4 => ?_) (fun c4 => ?_)
    · have h := ifn c4 h
      exact wF_X8_set_50 C hD RET h
    · have h := ifp c4 h
      refine v_iload_n C dX8_set_19 rfl rfl 3 rfl ?_
      obtain ⟨r6, e5, h⟩ := bdS h
      refine v_callSi C ys_X8_isGauge m_287 (c_X8_isGauge e5) (Sub.whole hD _ _) (As := [.int a3]) rfl rfl (Nat.le_of_ble_eq_true rfl) ⟨Nat.le_of_ble_eq_true rfl, Nat.le_of_ble_eq_true rfl⟩ dX8_set_20 rfl ?_
      refine v_if_eq C dX8_set_23 (tgt := 50) (by decide) rfl (fun c7 => ?_) (fun c7 => ?_)
      · have h := ifp c7 h
        exact wF_X8_set_50 C hD RET h
      · have h := ifn c7 h
        refine v_aload_n C dX8_set_26 rfl rfl 0 rfl ?_
        refine v_getr C dX8_set_27 rfl ff_X8_21 sk_0 rfl ?_
        refine v_getr C dX8_set_30 rfl ff_X8_101 sk_21 rfl ?_
        refine v_iload_n C dX8_set_33 rfl rfl 1 rfl ?_
        obtain ⟨b8, h⟩ := gdS h
        refine v_iald C dX8_set_34 rfl sk_23 b8 ?_
        obtain ⟨v9, ev9, h⟩ := nmS h
        refine v_nmi ev9 ?_
        refine v_istore C dX8_set_35 rfl (by decide) (L' := [(4, .int v9), (0, .ref (ad 0)), (1, .int a1), (2, .int a2), (3, .int a3)]) rfl ?_
        refine v_aload_n C dX8_set_37 rfl rfl 1 rfl ?_
        refine v_getr C dX8_set_38 rfl ff_X8_21 sk_0 rfl ?_
        refine v_getr C dX8_set_41 rfl ff_X8_101 sk_21 rfl ?_
        refine v_iload_n C dX8_set_44 rfl rfl 2 rfl ?_
        refine v_iload_n C dX8_set_45 rfl rfl 4 rfl ?_
        obtain ⟨b10, h⟩ := gdS h
        obtain ⟨K11, eK11, h⟩ := nmS h
        refine v_iast C hD dX8_set_46 rfl sk_23 b10 eK11 ?_
        refine v_iload C dX8_set_47 rfl 0 rfl ?_
        obtain rfl := Option.some.inj h
        exact RET _ _ dX8_set_49
  · have h := ifp c3 h
    refine v_ldc C dX8_set_11 rfl m_290 ?_
    obtain rfl := Option.some.inj h
    exact RET _ _ dX8_set_13
def C_X8_set (a1 : Int32) (a2 : Int32) (a3 : Int32) (K : Mem) : Option (Int32 × Mem) := F_X8_set_0 a1 a2 a3 K
set_option maxRecDepth 100000 in
theorem c_X8_set {l : Launch} {D : va_G} {cA : FieldType → ClassId} {X : Ex} {ad : Nat → Nat} {a1 : Int32} {a2 : Int32} {a3 : Int32} {K : Mem} {r : Int32} {K' : Mem} (h : C_X8_set a1 a2 a3 K = some (r, K')) : MI l D cA X yX8_set cX8_set 5 (some .int) 1 21 [.ref (ad 0), .int a1, .int a2, .int a3] (wd cA ad K 0 shsK) (wd cA ad K' 0 shsK) r :=
  mI_of (by decide +kernel) (Nat.le_of_ble_eq_true rfl) (fun G h1 h2 h3 h4 C hD RET => by subst h1 h2 h3 h4; exact wF_X8_set_0 C (fun K' => wd_D K' hD) RET  h)
def F_X8_isLoop_0 (K : Mem) (a1 : Int32) (a2 : Int32) : Option Int32 :=
  bd (C_X6_has 21 K a1) fun r2 =>
  if r2 = 0 then (
    some 0
  ) else (
    if a2 < 0 then (
      some 0
    ) else (
      if 8 ≤ a2 then (
        some 0
      ) else (
        some 1
      )
    )
  )
set_option maxRecDepth 100000 in
set_option maxHeartbeats 4000000 in
theorem wF_X8_isLoop_0 {G : Ctx} {ad : Nat → Nat} {K : Mem} (C : Cx G RX8 cX8_isLoop 3 1 21) (hD : ∀ K, va_D (gA G) (wd (gC G) ad K 0 shsK)) {res : Int32} (RET : RZ G cX8_isLoop 3 (wd (gC G) ad K 0 shsK) res) {a1 : Int32} {a2 : Int32} (h : F_X8_isLoop_0 K a1 a2 = some res) : V G 3 (wd (gC G) ad K 0 shsK) 0 [(0, .ref (ad 0)), (1, .int a1), (2, .int a2)] [] := by
  unfold F_X8_isLoop_0 at h
  refine v_aload_n C dX8_isLoop_0 rfl rfl 0 rfl ?_
  refine v_getr C dX8_isLoop_1 rfl ff_X8_21 sk_0 rfl ?_
  refine v_iload_n C dX8_isLoop_4 rfl rfl 1 rfl ?_
  obtain ⟨r2, e1, h⟩ := bdS h
  refine v_callVi C yv_X6_has m_305 (c_X6_has isTown_21 e1) (Sub.whole hD _ _) ⟨_, _, _, _, _, wd_at sk_21, rfl⟩ (As := [.int a1]) rfl rfl (Nat.le_of_ble_eq_true rfl) ⟨Nat.le_of_ble_eq_true rfl, Nat.le_of_ble_eq_true rfl⟩ dX8_isLoop_5 rfl ?_
  refine v_if_eq C dX8_isLoop_8 (tgt := 25) (by decide) rfl (fun c3 => ?_) (fun c3 => ?_)
  · have h := ifp c3 h
    refine v_iconst C dX8_isLoop_25 rfl ic_0 ?_
    obtain rfl := Option.some.inj h
    exact RET _ _ dX8_isLoop_26 (Or.inl rfl)
  · have h := ifn c3 h
    refine v_iload_n C dX8_isLoop_11 rfl rfl 2 rfl ?_
    refine v_if_lt C dX8_isLoop_12 (tgt := 25) (by decide) rfl (fun c4 => ?_) (fun c4 => ?_)
    · have h := ifp c4 h
      refine v_iconst C dX8_isLoop_25 rfl ic_0 ?_
      obtain rfl := Option.some.inj h
      exact RET _ _ dX8_isLoop_26 (Or.inl rfl)
    · have h := ifn c4 h
      refine v_iload_n C dX8_isLoop_15 rfl rfl 2 rfl ?_
      refine v_bipush C dX8_isLoop_16 rfl bi_8 ?_
      refine v_icmp_ge C dX8_isLoop_18 (tgt := 25) (by decide) rfl (fun c5 => ?_) (fun c5 => ?_)
      · have h := ifp c5 h
        refine v_iconst C dX8_isLoop_25 rfl ic_0 ?_
        obtain rfl := Option.some.inj h
        exact RET _ _ dX8_isLoop_26 (Or.inl rfl)
      · have h := ifn c5 h
        refine v_iconst C dX8_isLoop_21 rfl ic_1 ?_
        refine v_goto C dX8_isLoop_22 (tgt := 26) (by decide) ?_
        obtain rfl := Option.some.inj h
        exact RET _ _ dX8_isLoop_26 (Or.inr rfl)
def C_X8_isLoop (K : Mem) (a1 : Int32) (a2 : Int32) : Option Int32 := F_X8_isLoop_0 K a1 a2
set_option maxRecDepth 100000 in
theorem c_X8_isLoop {l : Launch} {D : va_G} {cA : FieldType → ClassId} {X : Ex} {ad : Nat → Nat} {a1 : Int32} {a2 : Int32} {K : Mem} {r : Int32} (h : C_X8_isLoop K a1 a2 = some r) : MI l D cA X yX8_isLoop cX8_isLoop 3 (some .boolean) 1 21 [.ref (ad 0), .int a1, .int a2] (wd cA ad K 0 shsK) (wd cA ad K 0 shsK) r :=
  mZ_of (by decide +kernel) (Nat.le_of_ble_eq_true rfl) (fun G h1 h2 h3 h4 C hD RET => by subst h1 h2 h3 h4; exact wF_X8_isLoop_0 C (fun K' => wd_D K' hD) RET  h)
def F_X8_drops_0 (a1 : Int32) (a2 : Int32) (K : Mem) : Option (Int32 × Mem) :=
  bd (C_X8_isLoop K a1 a2) fun r2 =>
  if r2 = 0 then (
    some ((-1000000001), K)
  ) else (
    nm (jshl 1 a2) fun v4 =>
    gd (inb a1 12) <|
    if ((K 25 (Int32.toNatClampNeg a1)) &&& v4) = 0 then (
      bd (C_X6_held 21 K) fun r8 =>
      gd (inb a1 12) <|
      gd (inb a1 12) <|
      nm (up K 25 (Int32.toNatClampNeg a1) ((K 25 (Int32.toNatClampNeg a1)) ||| v4)) fun K11 =>
      bd (C_X6_held 21 K11) fun r13 =>
      some (r8 - r13, K11)
    ) else (
      some ((-1000000002), K)
    )
  )
set_option maxRecDepth 100000 in
set_option maxHeartbeats 4000000 in
theorem wF_X8_drops_0 {G : Ctx} {ad : Nat → Nat} (C : Cx G RX8 cX8_drops 5 5 108) (hD : ∀ K, va_D (gA G) (wd (gC G) ad K 0 shsK)) {res : (Int32 × Mem)} (RET : RI G cX8_drops 5 (wd (gC G) ad res.2 0 shsK) res.1) {a1 : Int32} {a2 : Int32} {K : Mem} (h : F_X8_drops_0 a1 a2 K = some res) : V G 5 (wd (gC G) ad K 0 shsK) 0 [(0, .ref (ad 0)), (1, .int a1), (2, .int a2)] [] := by
  unfold F_X8_drops_0 at h
  refine v_aload_n C dX8_drops_0 rfl rfl 0 rfl ?_
  refine v_iload_n C dX8_drops_1 rfl rfl 1 rfl ?_
  refine v_iload_n C dX8_drops_2 rfl rfl 2 rfl ?_
  obtain ⟨r2, e1, h⟩ := bdS h
  refine v_callVi C yv_X8_isLoop m_396 (c_X8_isLoop e1) (Sub.whole hD _ _) ⟨_, _, _, _, _, wd_at sk_0, rfl⟩ (As := [.int a1, .int a2]) rfl rfl (Nat.le_of_ble_eq_true rfl) ⟨Nat.le_of_ble_eq_true rfl, Nat.le_of_ble_eq_true rfl⟩ dX8_drops_3 rfl ?_
  refine v_if_ne C dX8_drops_6 (tgt := 12) (by decide) rfl (fun c3 => ?_) (fun c3 => ?_)
  · have h := ifn c3 h
    refine v_iconst C dX8_drops_12 rfl ic_1 ?_
    refine v_iload_n C dX8_drops_13 rfl rfl 2 rfl ?_
    refine v_ishl C dX8_drops_14 rfl ?_
    obtain ⟨v4, ev4, h⟩ := nmS h
    refine v_nmi ev4 ?_
    refine v_istore_n C dX8_drops_15 rfl rfl (by decide) (L' := [(3, .int v4), (0, .ref (ad 0)), (1, .int a1), (2, .int a2)]) rfl ?_
    refine v_aload_n C dX8_drops_16 rfl rfl 1 rfl ?_
    refine v_getr C dX8_drops_17 rfl ff_X8_21 sk_0 rfl ?_
    refine v_getr C dX8_drops_20 rfl ff_X8_107 sk_21 rfl ?_
    refine v_iload_n C dX8_drops_23 rfl rfl 2 rfl ?_
    obtain ⟨b5, h⟩ := gdS h
    refine v_iald C dX8_drops_24 rfl sk_25 b5 ?_
    refine v_iload_n C dX8_drops_25 rfl rfl 0 rfl ?_
    refine v_iand C dX8_drops_26 rfl ?_
    refine v_if_eq C dX8_drops_27 (tgt := 33) (by decide) rfl (fun c6 => ?_) (fun c6 => ?_)
    · have h := ifp c6 h
      refine v_aload_n C dX8_drops_33 rfl rfl 1 rfl ?_
      refine v_getr C dX8_drops_34 rfl ff_X8_21 sk_0 rfl ?_
      obtain ⟨r8, e7, h⟩ := bdS h
      refine v_callVi C yv_X6_held m_401 (c_X6_held isTown_21 e7) (Sub.whole hD _ _) ⟨_, _, _, _, _, wd_at sk_21, rfl⟩ (As := []) rfl rfl (Nat.le_of_ble_eq_true rfl) ⟨Nat.le_of_ble_eq_true rfl, Nat.le_of_ble_eq_true rfl⟩ dX8_drops_37 rfl ?_
      refine v_istore C dX8_drops_40 rfl (by decide) (L' := [(4, .int r8), (3, .int v4), (0, .ref (ad 0)), (1, .int a1), (2, .int a2)]) rfl ?_
      refine v_aload_n C dX8_drops_42 rfl rfl 2 rfl ?_
      refine v_getr C dX8_drops_43 rfl ff_X8_21 sk_0 rfl ?_
      refine v_getr C dX8_drops_46 rfl ff_X8_107 sk_21 rfl ?_
      refine v_iload_n C dX8_drops_49 rfl rfl 3 rfl ?_
      refine v_dup2 C dX8_drops_50 rfl rfl rfl ?_
      obtain ⟨b9, h⟩ := gdS h
      refine v_iald C dX8_drops_51 rfl sk_25 b9 ?_
      refine v_iload_n C dX8_drops_52 rfl rfl 1 rfl ?_
      refine v_ior C dX8_drops_53 rfl ?_
      obtain ⟨b10, h⟩ := gdS h
      obtain ⟨K11, eK11, h⟩ := nmS h
      refine v_iast C hD dX8_drops_54 rfl sk_25 b10 eK11 ?_
      refine v_iload C dX8_drops_55 rfl 0 rfl ?_
      refine v_aload_n C dX8_drops_57 rfl rfl 2 rfl ?_
      refine v_getr C dX8_drops_58 rfl ff_X8_21 sk_0 rfl ?_
      obtain ⟨r13, e12, h⟩ := bdS h
      refine v_callVi C yv_X6_held m_401 (c_X6_held isTown_21 e12) (Sub.whole hD _ _) ⟨_, _, _, _, _, wd_at sk_21, rfl⟩ (As := []) rfl rfl (Nat.le_of_ble_eq_true rfl) ⟨Nat.le_of_ble_eq_true rfl, Nat.le_of_ble_eq_true rfl⟩ dX8_drops_61 rfl ?_
      refine v_isub C dX8_drops_64 rfl ?_
      obtain rfl := Option.some.inj h
      exact RET _ _ dX8_drops_65
    · have h := ifn c6 h
      refine v_ldc C dX8_drops_30 rfl m_400 ?_
      obtain rfl := Option.some.inj h
      exact RET _ _ dX8_drops_32
  · have h := ifp c3 h
    refine v_ldc C dX8_drops_9 rfl m_290 ?_
    obtain rfl := Option.some.inj h
    exact RET _ _ dX8_drops_11
def C_X8_drops (a1 : Int32) (a2 : Int32) (K : Mem) : Option (Int32 × Mem) := F_X8_drops_0 a1 a2 K
set_option maxRecDepth 100000 in
theorem c_X8_drops {l : Launch} {D : va_G} {cA : FieldType → ClassId} {X : Ex} {ad : Nat → Nat} {a1 : Int32} {a2 : Int32} {K : Mem} {r : Int32} {K' : Mem} (h : C_X8_drops a1 a2 K = some (r, K')) : MI l D cA X yX8_drops cX8_drops 5 (some .int) 5 108 [.ref (ad 0), .int a1, .int a2] (wd cA ad K 0 shsK) (wd cA ad K' 0 shsK) r :=
  mI_of (by decide +kernel) (Nat.le_of_ble_eq_true rfl) (fun G h1 h2 h3 h4 C hD RET => by subst h1 h2 h3 h4; exact wF_X8_drops_0 C (fun K' => wd_D K' hD) RET  h)
def F_X8_hooks_0 (a1 : Int32) (a2 : Int32) (K : Mem) : Option (Int32 × Mem) :=
  bd (C_X8_isLoop K a1 a2) fun r2 =>
  if r2 = 0 then (
    some ((-1000000001), K)
  ) else (
    nm (jshl 1 a2) fun v4 =>
    gd (inb a1 12) <|
    if ((K 25 (Int32.toNatClampNeg a1)) &&& v4) = 0 then (
      some ((-1000000002), K)
    ) else (
      bd (C_X6_held 21 K) fun r8 =>
      gd (inb a1 12) <|
      gd (inb a1 12) <|
      nm (up K 25 (Int32.toNatClampNeg a1) ((K 25 (Int32.toNatClampNeg a1)) &&& (v4 ^^^ (-1)))) fun K11 =>
      bd (C_X6_held 21 K11) fun r13 =>
      some (r13 - r8, K11)
    )
  )
set_option maxRecDepth 100000 in
set_option maxHeartbeats 4000000 in
theorem wF_X8_hooks_0 {G : Ctx} {ad : Nat → Nat} (C : Cx G RX8 cX8_hooks 5 5 108) (hD : ∀ K, va_D (gA G) (wd (gC G) ad K 0 shsK)) {res : (Int32 × Mem)} (RET : RI G cX8_hooks 5 (wd (gC G) ad res.2 0 shsK) res.1) {a1 : Int32} {a2 : Int32} {K : Mem} (h : F_X8_hooks_0 a1 a2 K = some res) : V G 5 (wd (gC G) ad K 0 shsK) 0 [(0, .ref (ad 0)), (1, .int a1), (2, .int a2)] [] := by
  unfold F_X8_hooks_0 at h
  refine v_aload_n C dX8_hooks_0 rfl rfl 0 rfl ?_
  refine v_iload_n C dX8_hooks_1 rfl rfl 1 rfl ?_
  refine v_iload_n C dX8_hooks_2 rfl rfl 2 rfl ?_
  obtain ⟨r2, e1, h⟩ := bdS h
  refine v_callVi C yv_X8_isLoop m_396 (c_X8_isLoop e1) (Sub.whole hD _ _) ⟨_, _, _, _, _, wd_at sk_0, rfl⟩ (As := [.int a1, .int a2]) rfl rfl (Nat.le_of_ble_eq_true rfl) ⟨Nat.le_of_ble_eq_true rfl, Nat.le_of_ble_eq_true rfl⟩ dX8_hooks_3 rfl ?_
  refine v_if_ne C dX8_hooks_6 (tgt := 12) (by decide) rfl (fun c3 => ?_) (fun c3 => ?_)
  · have h := ifn c3 h
    refine v_iconst C dX8_hooks_12 rfl ic_1 ?_
    refine v_iload_n C dX8_hooks_13 rfl rfl 2 rfl ?_
    refine v_ishl C dX8_hooks_14 rfl ?_
    obtain ⟨v4, ev4, h⟩ := nmS h
    refine v_nmi ev4 ?_
    refine v_istore_n C dX8_hooks_15 rfl rfl (by decide) (L' := [(3, .int v4), (0, .ref (ad 0)), (1, .int a1), (2, .int a2)]) rfl ?_
    refine v_aload_n C dX8_hooks_16 rfl rfl 1 rfl ?_
    refine v_getr C dX8_hooks_17 rfl ff_X8_21 sk_0 rfl ?_
    refine v_getr C dX8_hooks_20 rfl ff_X8_107 sk_21 rfl ?_
    refine v_iload_n C dX8_hooks_23 rfl rfl 2 rfl ?_
    obtain ⟨b5, h⟩ := gdS h
    refine v_iald C dX8_hooks_24 rfl sk_25 b5 ?_
    refine v_iload_n C dX8_hooks_25 rfl rfl 0 rfl ?_
    refine v_iand C dX8_hooks_26 rfl ?_
    refine v_if_ne C dX8_hooks_27 (tgt := 33) (by decide) rfl (fun c6 => ?_) (fun c6 => ?_)
    · have h := ifn c6 h
      refine v_aload_n C dX8_hooks_33 rfl rfl 1 rfl ?_
      refine v_getr C dX8_hooks_34 rfl ff_X8_21 sk_0 rfl ?_
      obtain ⟨r8, e7, h⟩ := bdS h
      refine v_callVi C yv_X6_held m_401 (c_X6_held isTown_21 e7) (Sub.whole hD _ _) ⟨_, _, _, _, _, wd_at sk_21, rfl⟩ (As := []) rfl rfl (Nat.le_of_ble_eq_true rfl) ⟨Nat.le_of_ble_eq_true rfl, Nat.le_of_ble_eq_true rfl⟩ dX8_hooks_37 rfl ?_
      refine v_istore C dX8_hooks_40 rfl (by decide) (L' := [(4, .int r8), (3, .int v4), (0, .ref (ad 0)), (1, .int a1), (2, .int a2)]) rfl ?_
      refine v_aload_n C dX8_hooks_42 rfl rfl 2 rfl ?_
      refine v_getr C dX8_hooks_43 rfl ff_X8_21 sk_0 rfl ?_
      refine v_getr C dX8_hooks_46 rfl ff_X8_107 sk_21 rfl ?_
      refine v_iload_n C dX8_hooks_49 rfl rfl 3 rfl ?_
      refine v_dup2 C dX8_hooks_50 rfl rfl rfl ?_
      obtain ⟨b9, h⟩ := gdS h
      refine v_iald C dX8_hooks_51 rfl sk_25 b9 ?_
      refine v_iload_n C dX8_hooks_52 rfl rfl 1 rfl ?_
      refine v_iconst C dX8_hooks_53 rfl ic_n1 ?_
      refine v_ixor C dX8_hooks_54 rfl ?_
      refine v_iand C dX8_hooks_55 rfl ?_
      obtain ⟨b10, h⟩ := gdS h
      obtain ⟨K11, eK11, h⟩ := nmS h
      refine v_iast C hD dX8_hooks_56 rfl sk_25 b10 eK11 ?_
      refine v_aload_n C dX8_hooks_57 rfl rfl 2 rfl ?_
      refine v_getr C dX8_hooks_58 rfl ff_X8_21 sk_0 rfl ?_
      obtain ⟨r13, e12, h⟩ := bdS h
      refine v_callVi C yv_X6_held m_401 (c_X6_held isTown_21 e12) (Sub.whole hD _ _) ⟨_, _, _, _, _, wd_at sk_21, rfl⟩ (As := []) rfl rfl (Nat.le_of_ble_eq_true rfl) ⟨Nat.le_of_ble_eq_true rfl, Nat.le_of_ble_eq_true rfl⟩ dX8_hooks_61 rfl ?_
      refine v_iload C dX8_hooks_64 rfl 0 rfl ?_
      refine v_isub C dX8_hooks_66 rfl ?_
      obtain rfl := Option.some.inj h
      exact RET _ _ dX8_hooks_67
    · have h := ifp c6 h
      refine v_ldc C dX8_hooks_30 rfl m_400 ?_
      obtain rfl := Option.some.inj h
      exact RET _ _ dX8_hooks_32
  · have h := ifp c3 h
    refine v_ldc C dX8_hooks_9 rfl m_290 ?_
    obtain rfl := Option.some.inj h
    exact RET _ _ dX8_hooks_11
def C_X8_hooks (a1 : Int32) (a2 : Int32) (K : Mem) : Option (Int32 × Mem) := F_X8_hooks_0 a1 a2 K
set_option maxRecDepth 100000 in
theorem c_X8_hooks {l : Launch} {D : va_G} {cA : FieldType → ClassId} {X : Ex} {ad : Nat → Nat} {a1 : Int32} {a2 : Int32} {K : Mem} {r : Int32} {K' : Mem} (h : C_X8_hooks a1 a2 K = some (r, K')) : MI l D cA X yX8_hooks cX8_hooks 5 (some .int) 5 108 [.ref (ad 0), .int a1, .int a2] (wd cA ad K 0 shsK) (wd cA ad K' 0 shsK) r :=
  mI_of (by decide +kernel) (Nat.le_of_ble_eq_true rfl) (fun G h1 h2 h3 h4 C hD RET => by subst h1 h2 h3 h4; exact wF_X8_hooks_0 C (fun K' => wd_D K' hD) RET  h)
def F_X8_rule_0 (a1 : Int32) (a2 : Int32) (K : Mem) : Option (Int32 × Mem) :=
  if a1 < 0 then (
    some ((-1000000001), K)
  ) else (
    if 3 ≤ a1 then (
      some ((-1000000001), K)
    ) else (
      if a2 < 0 then (
        some ((-1000000001), K)
      ) else (
        if a2 ≤ 100 then (
          gd (inb a1 3) <|
          nm (K 26 (Int32.toNatClampNeg a1)) fun v6 =>
          gd (inb a1 3) <|
          nm (up K 26 (Int32.toNatClampNeg a1) a2) fun K8 =>
          some (v6, K8)
        ) else (
          some ((-1000000001), K)
        )
      )
    )
  )
set_option maxRecDepth 100000 in
set_option maxHeartbeats 4000000 in
theorem wF_X8_rule_0 {G : Ctx} {ad : Nat → Nat} (C : Cx G RX8 cX8_rule 4 0 0) (hD : ∀ K, va_D (gA G) (wd (gC G) ad K 0 shsK)) {res : (Int32 × Mem)} (RET : RI G cX8_rule 4 (wd (gC G) ad res.2 0 shsK) res.1) {a1 : Int32} {a2 : Int32} {K : Mem} (h : F_X8_rule_0 a1 a2 K = some res) : V G 4 (wd (gC G) ad K 0 shsK) 0 [(0, .ref (ad 0)), (1, .int a1), (2, .int a2)] [] := by
  unfold F_X8_rule_0 at h
  refine v_iload_n C dX8_rule_0 rfl rfl 1 rfl ?_
  refine v_if_lt C dX8_rule_1 (tgt := 26) (by decide) rfl (fun c1 => ?_) (fun c1 => ?_)
  · have h := ifp c1 h
    refine v_ldc C dX8_rule_26 rfl m_290 ?_
    obtain rfl := Option.some.inj h
    exact RET _ _ dX8_rule_28
  · have h := ifn c1 h
    refine v_iload_n C dX8_rule_4 rfl rfl 1 rfl ?_
    refine v_aload_n C dX8_rule_5 rfl rfl 0 rfl ?_
    refine v_getr C dX8_rule_6 rfl ff_X8_21 sk_0 rfl ?_
    refine v_getr C dX8_rule_9 rfl ff_X8_137 sk_21 rfl ?_
    refine v_alen C dX8_rule_12 rfl sk_26 (v := 3) (by decide) ?_
    refine v_icmp_ge C dX8_rule_13 (tgt := 26) (by decide) rfl (fun c2 => ?_) (fun c2 => ?_)
    · have h := ifp c2 h
      refine v_ldc C dX8_rule_26 rfl m_290 ?_
      obtain rfl := Option.some.inj h
      exact RET _ _ dX8_rule_28
    · have h := ifn c2 h
      refine v_iload_n C dX8_rule_16 rfl rfl 2 rfl ?_
      refine v_if_lt C dX8_rule_17 (tgt := 26) (by decide) rfl (fun c3 => ?_) (fun c3 => ?_)
      · have h := ifp c3 h
        refine v_ldc C dX8_rule_26 rfl m_290 ?_
        obtain rfl := Option.some.inj h
        exact RET _ _ dX8_rule_28
      · have h := ifn c3 h
        refine v_iload_n C dX8_rule_20 rfl rfl 2 rfl ?_
        refine v_bipush C dX8_rule_21 rfl bi_100 ?_
        refine v_icmp_le C dX8_rule_23 (tgt := 29) (by decide) rfl (fun c4 => ?_) (fun c4 => ?_)
        · have h := ifp c4 h
          refine v_aload_n C dX8_rule_29 rfl rfl 0 rfl ?_
          refine v_getr C dX8_rule_30 rfl ff_X8_21 sk_0 rfl ?_
          refine v_getr C dX8_rule_33 rfl ff_X8_137 sk_21 rfl ?_
          refine v_iload_n C dX8_rule_36 rfl rfl 1 rfl ?_
          obtain ⟨b5, h⟩ := gdS h
          refine v_iald C dX8_rule_37 rfl sk_26 b5 ?_
          obtain ⟨v6, ev6, h⟩ := nmS h
          refine v_nmi ev6 ?_
          refine v_istore_n C dX8_rule_38 rfl rfl (by decide) (L' := [(3, .int v6), (0, .ref (ad 0)), (1, .int a1), (2, .int a2)]) rfl ?_
          refine v_aload_n C dX8_rule_39 rfl rfl 1 rfl ?_
          refine v_getr C dX8_rule_40 rfl ff_X8_21 sk_0 rfl ?_
          refine v_getr C dX8_rule_43 rfl ff_X8_137 sk_21 rfl ?_
          refine v_iload_n C dX8_rule_46 rfl rfl 2 rfl ?_
          refine v_iload_n C dX8_rule_47 rfl rfl 3 rfl ?_
          obtain ⟨b7, h⟩ := gdS h
          obtain ⟨K8, eK8, h⟩ := nmS h
          refine v_iast C hD dX8_rule_48 rfl sk_26 b7 eK8 ?_
          refine v_iload_n C dX8_rule_49 rfl rfl 0 rfl ?_
          obtain rfl := Option.some.inj h
          exact RET _ _ dX8_rule_50
        · have h := ifn c4 h
          refine v_ldc C dX8_rule_26 rfl m_290 ?_
          obtain rfl := Option.some.inj h
          exact RET _ _ dX8_rule_28
def C_X8_rule (a1 : Int32) (a2 : Int32) (K : Mem) : Option (Int32 × Mem) := F_X8_rule_0 a1 a2 K
set_option maxRecDepth 100000 in
theorem c_X8_rule {l : Launch} {D : va_G} {cA : FieldType → ClassId} {X : Ex} {ad : Nat → Nat} {a1 : Int32} {a2 : Int32} {K : Mem} {r : Int32} {K' : Mem} (h : C_X8_rule a1 a2 K = some (r, K')) : MI l D cA X yX8_rule cX8_rule 4 (some .int) 0 0 [.ref (ad 0), .int a1, .int a2] (wd cA ad K 0 shsK) (wd cA ad K' 0 shsK) r :=
  mI_of (by decide +kernel) (Nat.le_of_ble_eq_true rfl) (fun G h1 h2 h3 h4 C hD RET => by subst h1 h2 h3 h4; exact wF_X8_rule_0 C (fun K' => wd_D K' hD) RET  h)
def F_X8_deal_18 (k18 : Int32 → Int32 → Int32 → Mem → Option (Int32 × Mem)) (a1 : Int32) (a2 : Int32) (a3 : Int32) (K : Mem) : Option (Int32 × Mem) :=
  if a1 ≤ a3 then (
    some (a2, K)
  ) else (
    bd (C_X6_isFull 21 K) fun r5 =>
    if r5 = 0 then (
      bd (C_X6_drawCourse 21 K) fun K8 =>
      nm (a2 + 1) fun v9 =>
      nm (a3 + 1) fun v10 =>
      k18 a1 v9 v10 K8
    ) else (
      some (a2, K)
    )
  )
def L_X8_deal_18 : Nat → Int32 → Int32 → Int32 → Mem → Option (Int32 × Mem)
  | 0, _, _, _, _ => none
  | n + 1, a1, a2, a3, K => F_X8_deal_18 (fun a1 a2 a3 K => L_X8_deal_18 n a1 a2 a3 K) a1 a2 a3 K
set_option maxRecDepth 100000 in
set_option maxHeartbeats 4000000 in
theorem wF_X8_deal_18 {G : Ctx} {ad : Nat → Nat} {k18 : Int32 → Int32 → Int32 → Mem → Option (Int32 × Mem)} (C : Cx G RX8 cX8_deal 4 3 67) (hD : ∀ K, va_D (gA G) (wd (gC G) ad K 0 shsK)) {res : (Int32 × Mem)} (RET : RI G cX8_deal 4 (wd (gC G) ad res.2 0 shsK) res.1) (hk18 : ∀ {a1 : Int32} {a2 : Int32} {a3 : Int32} {K : Mem} , k18 a1 a2 a3 K = some res → V G 4 (wd (gC G) ad K 0 shsK) 18 [(0, .ref (ad 0)), (1, .int a1), (2, .int a2), (3, .int a3)] []) {a1 : Int32} {a2 : Int32} {a3 : Int32} {K : Mem} (h : F_X8_deal_18 k18 a1 a2 a3 K = some res) : V G 4 (wd (gC G) ad K 0 shsK) 18 [(0, .ref (ad 0)), (1, .int a1), (2, .int a2), (3, .int a3)] [] := by
  unfold F_X8_deal_18 at h
  refine v_iload_n C dX8_deal_18 rfl rfl 3 rfl ?_
  refine v_iload_n C dX8_deal_19 rfl rfl 1 rfl ?_
  refine v_icmp_ge C dX8_deal_20 (tgt := 49) (by decide) rfl (fun c3 => ?_) (fun c3 => ?_)
  · have h := ifp c3 h
    refine v_iload_n C dX8_deal_49 rfl rfl 2 rfl ?_
    obtain rfl := Option.some.inj h
    exact RET _ _ dX8_deal_50
  · have h := ifn c3 h
    refine v_aload_n C dX8_deal_23 rfl rfl 0 rfl ?_
    refine v_getr C dX8_deal_24 rfl ff_X8_21 sk_0 rfl ?_
    obtain ⟨r5, e4, h⟩ := bdS h
    refine v_callVi C yv_X6_isFull m_291 (c_X6_isFull isTown_21 e4) (Sub.whole hD _ _) ⟨_, _, _, _, _, wd_at sk_21, rfl⟩ (As := []) rfl rfl (Nat.le_of_ble_eq_true rfl) ⟨Nat.le_of_ble_eq_true rfl, Nat.le_of_ble_eq_true rfl⟩ dX8_deal_27 rfl ?_
    refine v_if_ne C dX8_deal_30 (tgt := 49) (by decide) rfl (fun c6 => ?_) (fun c6 => ?_)
    · have h := ifn c6 h
      refine v_iload_n C dX8_deal_49 rfl rfl 2 rfl ?_
      obtain rfl := Option.some.inj h
      exact RET _ _ dX8_deal_50
    · have h := ifp c6 h
      refine v_aload_n C dX8_deal_33 rfl rfl 0 rfl ?_
      refine v_getr C dX8_deal_34 rfl ff_X8_21 sk_0 rfl ?_
      obtain ⟨K8, e7, h⟩ := bdS h
      refine v_callVv C yv_X6_drawCourse m_427 (c_X6_drawCourse isTown_21 e7) (Sub.whole hD _ _) ⟨_, _, _, _, _, wd_at sk_21, rfl⟩ (As := []) rfl rfl (Nat.le_of_ble_eq_true rfl) ⟨Nat.le_of_ble_eq_true rfl, Nat.le_of_ble_eq_true rfl⟩ dX8_deal_37 rfl ?_
      obtain ⟨v9, ev9, h⟩ := nmS h
      refine v_iinc C dX8_deal_40 rfl 2 rfl (v := v9) (by rw [ev9]; rfl) (by decide) (L' := [(2, .int v9), (0, .ref (ad 0)), (1, .int a1), (3, .int a3)]) rfl ?_
      obtain ⟨v10, ev10, h⟩ := nmS h
      refine v_iinc C dX8_deal_43 rfl 3 rfl (v := v10) (by rw [ev10]; rfl) (by decide) (L' := [(3, .int v10), (2, .int v9), (0, .ref (ad 0)), (1, .int a1)]) rfl ?_
      refine v_goto C dX8_deal_46 (tgt := 18) (by decide) ?_
      refine v_sub [2, 3, 1, 0] rfl ?_
      exact hk18 h
theorem wL_X8_deal_18 {G : Ctx} {ad : Nat → Nat} (C : Cx G RX8 cX8_deal 4 3 67) (hD : ∀ K, va_D (gA G) (wd (gC G) ad K 0 shsK)) {res : (Int32 × Mem)} (RET : RI G cX8_deal 4 (wd (gC G) ad res.2 0 shsK) res.1) : ∀ (n : Nat) {a1 : Int32} {a2 : Int32} {a3 : Int32} {K : Mem} (h : L_X8_deal_18 n a1 a2 a3 K = some res), V G 4 (wd (gC G) ad K 0 shsK) 18 [(0, .ref (ad 0)), (1, .int a1), (2, .int a2), (3, .int a3)] [] := by
  intro n
  induction n with
  | zero =>
    intro a1 a2 a3 K h
    cases (show (none : Option (Int32 × Mem)) = some res from h)
  | succ n ih =>
    intro a1 a2 a3 K h
    exact wF_X8_deal_18 (k18 := fun a1 a2 a3 K => L_X8_deal_18  n a1 a2 a3 K) C hD RET (fun h => ih h) h
def F_X8_deal_0 (a1 : Int32) (K : Mem) : Option (Int32 × Mem) :=
  if a1 < 1 then (
    some ((-1000000001), K)
  ) else (
    if a1 ≤ 12 then (
      L_X8_deal_18 FU a1 0 0 K
    ) else (
      some ((-1000000001), K)
    )
  )
set_option maxRecDepth 100000 in
set_option maxHeartbeats 4000000 in
theorem wF_X8_deal_0 {G : Ctx} {ad : Nat → Nat} (C : Cx G RX8 cX8_deal 4 3 67) (hD : ∀ K, va_D (gA G) (wd (gC G) ad K 0 shsK)) {res : (Int32 × Mem)} (RET : RI G cX8_deal 4 (wd (gC G) ad res.2 0 shsK) res.1) {a1 : Int32} {K : Mem} (h : F_X8_deal_0 a1 K = some res) : V G 4 (wd (gC G) ad K 0 shsK) 0 [(0, .ref (ad 0)), (1, .int a1)] [] := by
  unfold F_X8_deal_0 at h
  refine v_iload_n C dX8_deal_0 rfl rfl 1 rfl ?_
  refine v_iconst C dX8_deal_1 rfl ic_1 ?_
  refine v_icmp_lt C dX8_deal_2 (tgt := 11) (by decide) rfl (fun c1 => ?_) (fun c1 => ?_)
  · have h := ifp c1 h
    refine v_ldc C dX8_deal_11 rfl m_290 ?_
    obtain rfl := Option.some.inj h
    exact RET _ _ dX8_deal_13
  · have h := ifn c1 h
    refine v_iload_n C dX8_deal_5 rfl rfl 1 rfl ?_
    refine v_bipush C dX8_deal_6 rfl bi_12 ?_
    refine v_icmp_le C dX8_deal_8 (tgt := 14) (by decide) rfl (fun c2 => ?_) (fun c2 => ?_)
    · have h := ifp c2 h
      refine v_iconst C dX8_deal_14 rfl ic_0 ?_
      refine v_istore_n C dX8_deal_15 rfl rfl (by decide) (L' := [(2, .int 0), (0, .ref (ad 0)), (1, .int a1)]) rfl ?_
      refine v_iconst C dX8_deal_16 rfl ic_0 ?_
      refine v_istore_n C dX8_deal_17 rfl rfl (by decide) (L' := [(3, .int 0), (2, .int 0), (0, .ref (ad 0)), (1, .int a1)]) rfl ?_
      refine v_sub [2, 3, 1, 0] rfl ?_
      exact wL_X8_deal_18 C hD RET FU h
    · have h := ifn c2 h
      refine v_ldc C dX8_deal_11 rfl m_290 ?_
      obtain rfl := Option.some.inj h
      exact RET _ _ dX8_deal_13
def C_X8_deal (a1 : Int32) (K : Mem) : Option (Int32 × Mem) := F_X8_deal_0 a1 K
set_option maxRecDepth 100000 in
theorem c_X8_deal {l : Launch} {D : va_G} {cA : FieldType → ClassId} {X : Ex} {ad : Nat → Nat} {a1 : Int32} {K : Mem} {r : Int32} {K' : Mem} (h : C_X8_deal a1 K = some (r, K')) : MI l D cA X yX8_deal cX8_deal 4 (some .int) 3 67 [.ref (ad 0), .int a1] (wd cA ad K 0 shsK) (wd cA ad K' 0 shsK) r :=
  mI_of (by decide +kernel) (Nat.le_of_ble_eq_true rfl) (fun G h1 h2 h3 h4 C hD RET => by subst h1 h2 h3 h4; exact wF_X8_deal_0 C (fun K' => wd_D K' hD) RET  h)
def F_X8_seed_0 (a1 : Int32) (K : Mem) : Option (Int32 × Mem) :=
  nm (K 21 12) fun v1 =>
  nm (up K 21 12 a1) fun K2 =>
  some (v1, K2)
set_option maxRecDepth 100000 in
set_option maxHeartbeats 4000000 in
theorem wF_X8_seed_0 {G : Ctx} {ad : Nat → Nat} (C : Cx G RX8 cX8_seed 3 0 0) (hD : ∀ K, va_D (gA G) (wd (gC G) ad K 0 shsK)) {res : (Int32 × Mem)} (RET : RI G cX8_seed 3 (wd (gC G) ad res.2 0 shsK) res.1) {a1 : Int32} {K : Mem} (h : F_X8_seed_0 a1 K = some res) : V G 3 (wd (gC G) ad K 0 shsK) 0 [(0, .ref (ad 0)), (1, .int a1)] [] := by
  unfold F_X8_seed_0 at h
  refine v_aload_n C dX8_seed_0 rfl rfl 0 rfl ?_
  refine v_getr C dX8_seed_1 rfl ff_X8_21 sk_0 rfl ?_
  refine v_getf C dX8_seed_4 rfl ff_X8_143 sk_21 rfl ?_
  obtain ⟨v1, ev1, h⟩ := nmS h
  refine v_nmi ev1 ?_
  refine v_istore_n C dX8_seed_7 rfl rfl (by decide) (L' := [(2, .int v1), (0, .ref (ad 0)), (1, .int a1)]) rfl ?_
  refine v_aload_n C dX8_seed_8 rfl rfl 1 rfl ?_
  refine v_getr C dX8_seed_9 rfl ff_X8_21 sk_0 rfl ?_
  refine v_iload_n C dX8_seed_12 rfl rfl 2 rfl ?_
  obtain ⟨K2, eK2, h⟩ := nmS h
  refine v_putf C hD dX8_seed_13 rfl fp_X8_143 sk_21 rfl eK2 ?_
  refine v_iload_n C dX8_seed_16 rfl rfl 0 rfl ?_
  obtain rfl := Option.some.inj h
  exact RET _ _ dX8_seed_17
def C_X8_seed (a1 : Int32) (K : Mem) : Option (Int32 × Mem) := F_X8_seed_0 a1 K
set_option maxRecDepth 100000 in
theorem c_X8_seed {l : Launch} {D : va_G} {cA : FieldType → ClassId} {X : Ex} {ad : Nat → Nat} {a1 : Int32} {K : Mem} {r : Int32} {K' : Mem} (h : C_X8_seed a1 K = some (r, K')) : MI l D cA X yX8_seed cX8_seed 3 (some .int) 0 0 [.ref (ad 0), .int a1] (wd cA ad K 0 shsK) (wd cA ad K' 0 shsK) r :=
  mI_of (by decide +kernel) (Nat.le_of_ble_eq_true rfl) (fun G h1 h2 h3 h4 C hD RET => by subst h1 h2 h3 h4; exact wF_X8_seed_0 C (fun K' => wd_D K' hD) RET  h)
def F_X8_nights_24 (k24 : Int32 → Int32 → Int32 → Mem → Option (Int32 × Mem)) (a1 : Int32) (a2 : Int32) (a3 : Int32) (K : Mem) : Option (Int32 × Mem) :=
  if a1 ≤ a3 then (
    some ((K 21 9) - a2, K)
  ) else (
    if 9999 ≤ (K 21 11) then (
      some ((K 21 9) - a2, K)
    ) else (
      bd (C_X6_passNight 21 K) fun K7 =>
      nm (a3 + 1) fun v8 =>
      k24 a1 a2 v8 K7
    )
  )
def L_X8_nights_24 : Nat → Int32 → Int32 → Int32 → Mem → Option (Int32 × Mem)
  | 0, _, _, _, _ => none
  | n + 1, a1, a2, a3, K => F_X8_nights_24 (fun a1 a2 a3 K => L_X8_nights_24 n a1 a2 a3 K) a1 a2 a3 K
set_option maxRecDepth 100000 in
set_option maxHeartbeats 4000000 in
theorem wF_X8_nights_24 {G : Ctx} {ad : Nat → Nat} {k24 : Int32 → Int32 → Int32 → Mem → Option (Int32 × Mem)} (C : Cx G RX8 cX8_nights 4 6 137) (hD : ∀ K, va_D (gA G) (wd (gC G) ad K 0 shsK)) {res : (Int32 × Mem)} (RET : RI G cX8_nights 4 (wd (gC G) ad res.2 0 shsK) res.1) (hk24 : ∀ {a1 : Int32} {a2 : Int32} {a3 : Int32} {K : Mem} , k24 a1 a2 a3 K = some res → V G 4 (wd (gC G) ad K 0 shsK) 24 [(0, .ref (ad 0)), (1, .int a1), (2, .int a2), (3, .int a3)] []) {a1 : Int32} {a2 : Int32} {a3 : Int32} {K : Mem} (h : F_X8_nights_24 k24 a1 a2 a3 K = some res) : V G 4 (wd (gC G) ad K 0 shsK) 24 [(0, .ref (ad 0)), (1, .int a1), (2, .int a2), (3, .int a3)] [] := by
  unfold F_X8_nights_24 at h
  refine v_iload_n C dX8_nights_24 rfl rfl 3 rfl ?_
  refine v_iload_n C dX8_nights_25 rfl rfl 1 rfl ?_
  refine v_icmp_ge C dX8_nights_26 (tgt := 55) (by decide) rfl (fun c4 => ?_) (fun c4 => ?_)
  · have h := ifp c4 h
    refine v_aload_n C dX8_nights_55 rfl rfl 0 rfl ?_
    refine v_getr C dX8_nights_56 rfl ff_X8_21 sk_0 rfl ?_
    refine v_getf C dX8_nights_59 rfl ff_X8_146 sk_21 rfl ?_
    refine v_iload_n C dX8_nights_62 rfl rfl 2 rfl ?_
    refine v_isub C dX8_nights_63 rfl ?_
    obtain rfl := Option.some.inj h
    exact RET _ _ dX8_nights_64
  · have h := ifn c4 h
    refine v_aload_n C dX8_nights_29 rfl rfl 0 rfl ?_
    refine v_getr C dX8_nights_30 rfl ff_X8_21 sk_0 rfl ?_
    refine v_getf C dX8_nights_33 rfl ff_X8_149 sk_21 rfl ?_
    refine v_sipush C dX8_nights_36 rfl si_9999 ?_
    refine v_icmp_ge C dX8_nights_39 (tgt := 55) (by decide) rfl (fun c5 => ?_) (fun c5 => ?_)
    · have h := ifp c5 h
      refine v_aload_n C dX8_nights_55 rfl rfl 0 rfl ?_
      refine v_getr C dX8_nights_56 rfl ff_X8_21 sk_0 rfl ?_
      refine v_getf C dX8_nights_59 rfl ff_X8_146 sk_21 rfl ?_
      refine v_iload_n C dX8_nights_62 rfl rfl 2 rfl ?_
      refine v_isub C dX8_nights_63 rfl ?_
      obtain rfl := Option.some.inj h
      exact RET _ _ dX8_nights_64
    · have h := ifn c5 h
      refine v_aload_n C dX8_nights_42 rfl rfl 0 rfl ?_
      refine v_getr C dX8_nights_43 rfl ff_X8_21 sk_0 rfl ?_
      obtain ⟨K7, e6, h⟩ := bdS h
      refine v_callVv C yv_X6_passNight m_445 (c_X6_passNight isTown_21 e6) (Sub.whole hD _ _) ⟨_, _, _, _, _, wd_at sk_21, rfl⟩ (As := []) rfl rfl (Nat.le_of_ble_eq_true rfl) ⟨Nat.le_of_ble_eq_true rfl, Nat.le_of_ble_eq_true rfl⟩ dX8_nights_46 rfl ?_
      obtain ⟨v8, ev8, h⟩ := nmS h
      refine v_iinc C dX8_nights_49 rfl 3 rfl (v := v8) (by rw [ev8]; rfl) (by decide) (L' := [(3, .int v8), (0, .ref (ad 0)), (1, .int a1), (2, .int a2)]) rfl ?_
      refine v_goto C dX8_nights_52 (tgt := 24) (by decide) ?_
      refine v_sub [1, 2, 3, 0] rfl ?_
      exact hk24 h
theorem wL_X8_nights_24 {G : Ctx} {ad : Nat → Nat} (C : Cx G RX8 cX8_nights 4 6 137) (hD : ∀ K, va_D (gA G) (wd (gC G) ad K 0 shsK)) {res : (Int32 × Mem)} (RET : RI G cX8_nights 4 (wd (gC G) ad res.2 0 shsK) res.1) : ∀ (n : Nat) {a1 : Int32} {a2 : Int32} {a3 : Int32} {K : Mem} (h : L_X8_nights_24 n a1 a2 a3 K = some res), V G 4 (wd (gC G) ad K 0 shsK) 24 [(0, .ref (ad 0)), (1, .int a1), (2, .int a2), (3, .int a3)] [] := by
  intro n
  induction n with
  | zero =>
    intro a1 a2 a3 K h
    cases (show (none : Option (Int32 × Mem)) = some res from h)
  | succ n ih =>
    intro a1 a2 a3 K h
    exact wF_X8_nights_24 (k24 := fun a1 a2 a3 K => L_X8_nights_24  n a1 a2 a3 K) C hD RET (fun h => ih h) h
def F_X8_nights_0 (a1 : Int32) (K : Mem) : Option (Int32 × Mem) :=
  if a1 < 1 then (
    some ((-1000000001), K)
  ) else (
    if a1 ≤ 100 then (
      nm (K 21 9) fun v3 =>
      L_X8_nights_24 FU a1 v3 0 K
    ) else (
      some ((-1000000001), K)
    )
  )
set_option maxRecDepth 100000 in
set_option maxHeartbeats 4000000 in
theorem wF_X8_nights_0 {G : Ctx} {ad : Nat → Nat} (C : Cx G RX8 cX8_nights 4 6 137) (hD : ∀ K, va_D (gA G) (wd (gC G) ad K 0 shsK)) {res : (Int32 × Mem)} (RET : RI G cX8_nights 4 (wd (gC G) ad res.2 0 shsK) res.1) {a1 : Int32} {K : Mem} (h : F_X8_nights_0 a1 K = some res) : V G 4 (wd (gC G) ad K 0 shsK) 0 [(0, .ref (ad 0)), (1, .int a1)] [] := by
  unfold F_X8_nights_0 at h
  refine v_iload_n C dX8_nights_0 rfl rfl 1 rfl ?_
  refine v_iconst C dX8_nights_1 rfl ic_1 ?_
  refine v_icmp_lt C dX8_nights_2 (tgt := 11) (by decide) rfl (fun c1 => ?_) (fun c1 => ?_)
  · have h := ifp c1 h
    refine v_ldc C dX8_nights_11 rfl m_290 ?_
    obtain rfl := Option.some.inj h
    exact RET _ _ dX8_nights_13
  · have h := ifn c1 h
    refine v_iload_n C dX8_nights_5 rfl rfl 1 rfl ?_
    refine v_bipush C dX8_nights_6 rfl bi_100 ?_
    refine v_icmp_le C dX8_nights_8 (tgt := 14) (by decide) rfl (fun c2 => ?_) (fun c2 => ?_)
    · have h := ifp c2 h
      refine v_aload_n C dX8_nights_14 rfl rfl 0 rfl ?_
      refine v_getr C dX8_nights_15 rfl ff_X8_21 sk_0 rfl ?_
      refine v_getf C dX8_nights_18 rfl ff_X8_146 sk_21 rfl ?_
      obtain ⟨v3, ev3, h⟩ := nmS h
      refine v_nmi ev3 ?_
      refine v_istore_n C dX8_nights_21 rfl rfl (by decide) (L' := [(2, .int v3), (0, .ref (ad 0)), (1, .int a1)]) rfl ?_
      refine v_iconst C dX8_nights_22 rfl ic_0 ?_
      refine v_istore_n C dX8_nights_23 rfl rfl (by decide) (L' := [(3, .int 0), (2, .int v3), (0, .ref (ad 0)), (1, .int a1)]) rfl ?_
      refine v_sub [2, 3, 1, 0] rfl ?_
      exact wL_X8_nights_24 C hD RET FU h
    · have h := ifn c2 h
      refine v_ldc C dX8_nights_11 rfl m_290 ?_
      obtain rfl := Option.some.inj h
      exact RET _ _ dX8_nights_13
def C_X8_nights (a1 : Int32) (K : Mem) : Option (Int32 × Mem) := F_X8_nights_0 a1 K
set_option maxRecDepth 100000 in
theorem c_X8_nights {l : Launch} {D : va_G} {cA : FieldType → ClassId} {X : Ex} {ad : Nat → Nat} {a1 : Int32} {K : Mem} {r : Int32} {K' : Mem} (h : C_X8_nights a1 K = some (r, K')) : MI l D cA X yX8_nights cX8_nights 4 (some .int) 6 137 [.ref (ad 0), .int a1] (wd cA ad K 0 shsK) (wd cA ad K' 0 shsK) r :=
  mI_of (by decide +kernel) (Nat.le_of_ble_eq_true rfl) (fun G h1 h2 h3 h4 C hD RET => by subst h1 h2 h3 h4; exact wF_X8_nights_0 C (fun K' => wd_D K' hD) RET  h)
def F_X8_town_0 (K : Mem) (a1 : Int32) : Option Int32 :=
  if a1 = 0 then (
    some (K 21 8)
  ) else (
    if a1 = 1 then (
      some (K 21 9)
    ) else (
      if a1 = 2 then (
        some (K 21 10)
      ) else (
        if a1 = 3 then (
          bd (C_X6_held 21 K) fun r6 =>
          some r6
        ) else (
          if a1 = 4 then (
            bd (C_X6_lostLoops 21 K) fun r9 =>
            some r9
          ) else (
            some (-1000000001)
          )
        )
      )
    )
  )
set_option maxRecDepth 100000 in
set_option maxHeartbeats 4000000 in
theorem wF_X8_town_0 {G : Ctx} {ad : Nat → Nat} {K : Mem} (C : Cx G RX8 cX8_town 2 5 108) (hD : ∀ K, va_D (gA G) (wd (gC G) ad K 0 shsK)) {res : Int32} (RET : RI G cX8_town 2 (wd (gC G) ad K 0 shsK) res) {a1 : Int32} (h : F_X8_town_0 K a1 = some res) : V G 2 (wd (gC G) ad K 0 shsK) 0 [(0, .ref (ad 0)), (1, .int a1)] [] := by
  unfold F_X8_town_0 at h
  refine v_iload_n C dX8_town_0 rfl rfl 1 rfl ?_
  by_cases c1 : a1 = 0
  · have h := ifp c1 h
    refine v_tsIn C dX8_town_1 c1 (by decide) (by decide) (off := 35) (by decide) (tgt := 36) (by decide) ?_
    refine v_aload_n C dX8_town_36 rfl rfl 0 rfl ?_
    refine v_getr C dX8_town_37 rfl ff_X8_21 sk_0 rfl ?_
    refine v_getf C dX8_town_40 rfl ff_X8_155 sk_21 rfl ?_
    obtain rfl := Option.some.inj h
    exact RET _ _ dX8_town_43
  · have h := ifn c1 h
    by_cases c2 : a1 = 1
    · have h := ifp c2 h
      refine v_tsIn C dX8_town_1 c2 (by decide) (by decide) (off := 43) (by decide) (tgt := 44) (by decide) ?_
      refine v_aload_n C dX8_town_44 rfl rfl 0 rfl ?_
      refine v_getr C dX8_town_45 rfl ff_X8_21 sk_0 rfl ?_
      refine v_getf C dX8_town_48 rfl ff_X8_146 sk_21 rfl ?_
      obtain rfl := Option.some.inj h
      exact RET _ _ dX8_town_51
    · have h := ifn c2 h
      by_cases c3 : a1 = 2
      · have h := ifp c3 h
        refine v_tsIn C dX8_town_1 c3 (by decide) (by decide) (off := 51) (by decide) (tgt := 52) (by decide) ?_
        refine v_aload_n C dX8_town_52 rfl rfl 0 rfl ?_
        refine v_getr C dX8_town_53 rfl ff_X8_21 sk_0 rfl ?_
        refine v_getf C dX8_town_56 rfl ff_X8_158 sk_21 rfl ?_
        obtain rfl := Option.some.inj h
        exact RET _ _ dX8_town_59
      · have h := ifn c3 h
        by_cases c4 : a1 = 3
        · have h := ifp c4 h
          refine v_tsIn C dX8_town_1 c4 (by decide) (by decide) (off := 59) (by decide) (tgt := 60) (by decide) ?_
          refine v_aload_n C dX8_town_60 rfl rfl 0 rfl ?_
          refine v_getr C dX8_town_61 rfl ff_X8_21 sk_0 rfl ?_
          obtain ⟨r6, e5, h⟩ := bdS h
          refine v_callVi C yv_X6_held m_401 (c_X6_held isTown_21 e5) (Sub.whole hD _ _) ⟨_, _, _, _, _, wd_at sk_21, rfl⟩ (As := []) rfl rfl (Nat.le_of_ble_eq_true rfl) ⟨Nat.le_of_ble_eq_true rfl, Nat.le_of_ble_eq_true rfl⟩ dX8_town_64 rfl ?_
          obtain rfl := Option.some.inj h
          exact RET _ _ dX8_town_67
        · have h := ifn c4 h
          by_cases c7 : a1 = 4
          · have h := ifp c7 h
            refine v_tsIn C dX8_town_1 c7 (by decide) (by decide) (off := 67) (by decide) (tgt := 68) (by decide) ?_
            refine v_aload_n C dX8_town_68 rfl rfl 0 rfl ?_
            refine v_getr C dX8_town_69 rfl ff_X8_21 sk_0 rfl ?_
            obtain ⟨r9, e8, h⟩ := bdS h
            refine v_callVi C yv_X6_lostLoops m_468 (c_X6_lostLoops isTown_21 e8) (Sub.whole hD _ _) ⟨_, _, _, _, _, wd_at sk_21, rfl⟩ (As := []) rfl rfl (Nat.le_of_ble_eq_true rfl) ⟨Nat.le_of_ble_eq_true rfl, Nat.le_of_ble_eq_true rfl⟩ dX8_town_72 rfl ?_
            obtain rfl := Option.some.inj h
            exact RET _ _ dX8_town_75
          · have h := ifn c7 h
            refine v_tsOut C dX8_town_1 (by have ec1 := lv_neT c1 (k := 0) (a := 0) (by decide); have ec2 := lv_neT c2 (k := 1) (a := 1) (by decide); have ec3 := lv_neT c3 (k := 2) (a := 2) (by decide); have ec4 := lv_neT c4 (k := 3) (a := 3) (by decide); have ec7 := lv_neT c7 (k := 4) (a := 4) (by decide); omega) (tgt := 76) (by decide) ?_
            refine v_ldc C dX8_town_76 rfl m_290 ?_
            obtain rfl := Option.some.inj h
            exact RET _ _ dX8_town_78
def C_X8_town (K : Mem) (a1 : Int32) : Option Int32 := F_X8_town_0 K a1
set_option maxRecDepth 100000 in
theorem c_X8_town {l : Launch} {D : va_G} {cA : FieldType → ClassId} {X : Ex} {ad : Nat → Nat} {a1 : Int32} {K : Mem} {r : Int32} (h : C_X8_town K a1 = some r) : MI l D cA X yX8_town cX8_town 2 (some .int) 5 108 [.ref (ad 0), .int a1] (wd cA ad K 0 shsK) (wd cA ad K 0 shsK) r :=
  mI_of (by decide +kernel) (Nat.le_of_ble_eq_true rfl) (fun G h1 h2 h3 h4 C hD RET => by subst h1 h2 h3 h4; exact wF_X8_town_0 C (fun K' => wd_D K' hD) RET  h)
def F_X8_way_0 (a1 : Int32) (a2 : Int32) (a3 : Int32) (a4 : Int32) (K : Mem) : Option (Int32 × Mem) :=
  bd (C_X8_isLoop K a1 a2) fun r2 =>
  if r2 = 0 then (
    some ((-1000000001), K)
  ) else (
    bd (C_X8_isLoop K a3 a4) fun r5 =>
    if r5 = 0 then (
      some ((-1000000001), K)
    ) else (
      bd2 (C_X7_steps 21 a1 a2 a3 a4 K) fun r9 K8 =>
      some (r9, K8)
    )
  )
set_option maxRecDepth 100000 in
set_option maxHeartbeats 4000000 in
theorem wF_X8_way_0 {G : Ctx} {ad : Nat → Nat} (C : Cx G RX8 cX8_way 5 5 115) (hD : ∀ K, va_D (gA G) (wd (gC G) ad K 0 shsK)) {res : (Int32 × Mem)} (RET : RI G cX8_way 5 (wd (gC G) ad res.2 0 shsK) res.1) {a1 : Int32} {a2 : Int32} {a3 : Int32} {a4 : Int32} {K : Mem} (h : F_X8_way_0 a1 a2 a3 a4 K = some res) : V G 5 (wd (gC G) ad K 0 shsK) 0 [(0, .ref (ad 0)), (1, .int a1), (2, .int a2), (3, .int a3), (4, .int a4)] [] := by
  unfold F_X8_way_0 at h
  refine v_aload_n C dX8_way_0 rfl rfl 0 rfl ?_
  refine v_iload_n C dX8_way_1 rfl rfl 1 rfl ?_
  refine v_iload_n C dX8_way_2 rfl rfl 2 rfl ?_
  obtain ⟨r2, e1, h⟩ := bdS h
  refine v_callVi C yv_X8_isLoop m_396 (c_X8_isLoop e1) (Sub.whole hD _ _) ⟨_, _, _, _, _, wd_at sk_0, rfl⟩ (As := [.int a1, .int a2]) rfl rfl (Nat.le_of_ble_eq_true rfl) ⟨Nat.le_of_ble_eq_true rfl, Nat.le_of_ble_eq_true rfl⟩ dX8_way_3 rfl ?_
  refine v_if_eq C dX8_way_6 (tgt := 19) (by decide) rfl (fun c3 => ?_) (fun c3 => ?_)
  · have h := ifp c3 h
    refine v_ldc C dX8_way_19 rfl m_290 ?_
    obtain rfl := Option.some.inj h
    exact RET _ _ dX8_way_21
  · have h := ifn c3 h
    refine v_aload_n C dX8_way_9 rfl rfl 0 rfl ?_
    refine v_iload_n C dX8_way_10 rfl rfl 3 rfl ?_
    refine v_iload C dX8_way_11 rfl 4 rfl ?_
    obtain ⟨r5, e4, h⟩ := bdS h
    refine v_callVi C yv_X8_isLoop m_396 (c_X8_isLoop e4) (Sub.whole hD _ _) ⟨_, _, _, _, _, wd_at sk_0, rfl⟩ (As := [.int a3, .int a4]) rfl rfl (Nat.le_of_ble_eq_true rfl) ⟨Nat.le_of_ble_eq_true rfl, Nat.le_of_ble_eq_true rfl⟩ dX8_way_13 rfl ?_
    refine v_if_ne C dX8_way_16 (tgt := 22) (by decide) rfl (fun c6 => ?_) (fun c6 => ?_)
    · have h := ifn c6 h
      refine v_aload_n C dX8_way_22 rfl rfl 0 rfl ?_
      refine v_getr C dX8_way_23 rfl ff_X8_34 sk_0 rfl ?_
      refine v_aload_n C dX8_way_26 rfl rfl 0 rfl ?_
      refine v_getr C dX8_way_27 rfl ff_X8_21 sk_0 rfl ?_
      refine v_iload_n C dX8_way_30 rfl rfl 1 rfl ?_
      refine v_iload_n C dX8_way_31 rfl rfl 2 rfl ?_
      refine v_iload_n C dX8_way_32 rfl rfl 3 rfl ?_
      refine v_iload C dX8_way_33 rfl 4 rfl ?_
      obtain ⟨r9, K8, e7, h⟩ := bd2S h
      refine v_callVi C yv_X7_steps m_476 (c_X7_steps isTown_21 e7) (Sub.whole hD _ _) ⟨_, _, _, _, _, wd_at sk_42, rfl⟩ (As := [.ref (ad 21), .int a1, .int a2, .int a3, .int a4]) rfl rfl (Nat.le_of_ble_eq_true rfl) ⟨Nat.le_of_ble_eq_true rfl, Nat.le_of_ble_eq_true rfl⟩ dX8_way_35 rfl ?_
      obtain rfl := Option.some.inj h
      exact RET _ _ dX8_way_38
    · have h := ifp c6 h
      refine v_ldc C dX8_way_19 rfl m_290 ?_
      obtain rfl := Option.some.inj h
      exact RET _ _ dX8_way_21
def C_X8_way (a1 : Int32) (a2 : Int32) (a3 : Int32) (a4 : Int32) (K : Mem) : Option (Int32 × Mem) := F_X8_way_0 a1 a2 a3 a4 K
set_option maxRecDepth 100000 in
theorem c_X8_way {l : Launch} {D : va_G} {cA : FieldType → ClassId} {X : Ex} {ad : Nat → Nat} {a1 : Int32} {a2 : Int32} {a3 : Int32} {a4 : Int32} {K : Mem} {r : Int32} {K' : Mem} (h : C_X8_way a1 a2 a3 a4 K = some (r, K')) : MI l D cA X yX8_way cX8_way 5 (some .int) 5 115 [.ref (ad 0), .int a1, .int a2, .int a3, .int a4] (wd cA ad K 0 shsK) (wd cA ad K' 0 shsK) r :=
  mI_of (by decide +kernel) (Nat.le_of_ble_eq_true rfl) (fun G h1 h2 h3 h4 C hD RET => by subst h1 h2 h3 h4; exact wF_X8_way_0 C (fun K' => wd_D K' hD) RET  h)
def F_X8_reach_0 (a1 : Int32) (a2 : Int32) (K : Mem) : Option (Int32 × Mem) :=
  bd (C_X8_isLoop K a1 a2) fun r2 =>
  if r2 = 0 then (
    some ((-1000000001), K)
  ) else (
    bd2 (C_X7_reached 21 a1 a2 K) fun r6 K5 =>
    some (r6, K5)
  )
set_option maxRecDepth 100000 in
set_option maxHeartbeats 4000000 in
theorem wF_X8_reach_0 {G : Ctx} {ad : Nat → Nat} (C : Cx G RX8 cX8_reach 3 5 114) (hD : ∀ K, va_D (gA G) (wd (gC G) ad K 0 shsK)) {res : (Int32 × Mem)} (RET : RI G cX8_reach 3 (wd (gC G) ad res.2 0 shsK) res.1) {a1 : Int32} {a2 : Int32} {K : Mem} (h : F_X8_reach_0 a1 a2 K = some res) : V G 3 (wd (gC G) ad K 0 shsK) 0 [(0, .ref (ad 0)), (1, .int a1), (2, .int a2)] [] := by
  unfold F_X8_reach_0 at h
  refine v_aload_n C dX8_reach_0 rfl rfl 0 rfl ?_
  refine v_iload_n C dX8_reach_1 rfl rfl 1 rfl ?_
  refine v_iload_n C dX8_reach_2 rfl rfl 2 rfl ?_
  obtain ⟨r2, e1, h⟩ := bdS h
  refine v_callVi C yv_X8_isLoop m_396 (c_X8_isLoop e1) (Sub.whole hD _ _) ⟨_, _, _, _, _, wd_at sk_0, rfl⟩ (As := [.int a1, .int a2]) rfl rfl (Nat.le_of_ble_eq_true rfl) ⟨Nat.le_of_ble_eq_true rfl, Nat.le_of_ble_eq_true rfl⟩ dX8_reach_3 rfl ?_
  refine v_if_eq C dX8_reach_6 (tgt := 25) (by decide) rfl (fun c3 => ?_) (fun c3 => ?_)
  · have h := ifp c3 h
    refine v_ldc C dX8_reach_25 rfl m_290 ?_
    obtain rfl := Option.some.inj h
    exact RET _ _ dX8_reach_27
  · have h := ifn c3 h
    refine v_aload_n C dX8_reach_9 rfl rfl 0 rfl ?_
    refine v_getr C dX8_reach_10 rfl ff_X8_34 sk_0 rfl ?_
    refine v_aload_n C dX8_reach_13 rfl rfl 0 rfl ?_
    refine v_getr C dX8_reach_14 rfl ff_X8_21 sk_0 rfl ?_
    refine v_iload_n C dX8_reach_17 rfl rfl 1 rfl ?_
    refine v_iload_n C dX8_reach_18 rfl rfl 2 rfl ?_
    obtain ⟨r6, K5, e4, h⟩ := bd2S h
    refine v_callVi C yv_X7_reached m_508 (c_X7_reached isTown_21 e4) (Sub.whole hD _ _) ⟨_, _, _, _, _, wd_at sk_42, rfl⟩ (As := [.ref (ad 21), .int a1, .int a2]) rfl rfl (Nat.le_of_ble_eq_true rfl) ⟨Nat.le_of_ble_eq_true rfl, Nat.le_of_ble_eq_true rfl⟩ dX8_reach_19 rfl ?_
    refine v_goto C dX8_reach_22 (tgt := 27) (by decide) ?_
    obtain rfl := Option.some.inj h
    exact RET _ _ dX8_reach_27
def C_X8_reach (a1 : Int32) (a2 : Int32) (K : Mem) : Option (Int32 × Mem) := F_X8_reach_0 a1 a2 K
set_option maxRecDepth 100000 in
theorem c_X8_reach {l : Launch} {D : va_G} {cA : FieldType → ClassId} {X : Ex} {ad : Nat → Nat} {a1 : Int32} {a2 : Int32} {K : Mem} {r : Int32} {K' : Mem} (h : C_X8_reach a1 a2 K = some (r, K')) : MI l D cA X yX8_reach cX8_reach 3 (some .int) 5 114 [.ref (ad 0), .int a1, .int a2] (wd cA ad K 0 shsK) (wd cA ad K' 0 shsK) r :=
  mI_of (by decide +kernel) (Nat.le_of_ble_eq_true rfl) (fun G h1 h2 h3 h4 C hD RET => by subst h1 h2 h3 h4; exact wF_X8_reach_0 C (fun K' => wd_D K' hD) RET  h)
def F_X8_pulled_0 (K : Mem) (a1 : Int32) (a2 : Int32) : Option Int32 :=
  bd (C_X8_isLoop K a1 a2) fun r2 =>
  if r2 = 0 then (
    some (-1000000001)
  ) else (
    bd (C_X6_held 21 K) fun r5 =>
    bd (C_X6_heldWithout 21 K a1 (jshl 1 a2)) fun r7 =>
    some (r5 - r7)
  )
set_option maxRecDepth 100000 in
set_option maxHeartbeats 4000000 in
theorem wF_X8_pulled_0 {G : Ctx} {ad : Nat → Nat} {K : Mem} (C : Cx G RX8 cX8_pulled 3 5 108) (hD : ∀ K, va_D (gA G) (wd (gC G) ad K 0 shsK)) {res : Int32} (RET : RI G cX8_pulled 3 (wd (gC G) ad K 0 shsK) res) {a1 : Int32} {a2 : Int32} (h : F_X8_pulled_0 K a1 a2 = some res) : V G 3 (wd (gC G) ad K 0 shsK) 0 [(0, .ref (ad 0)), (1, .int a1), (2, .int a2)] [] := by
  unfold F_X8_pulled_0 at h
  refine v_aload_n C dX8_pulled_0 rfl rfl 0 rfl ?_
  refine v_iload_n C dX8_pulled_1 rfl rfl 1 rfl ?_
  refine v_iload_n C dX8_pulled_2 rfl rfl 2 rfl ?_
  obtain ⟨r2, e1, h⟩ := bdS h
  refine v_callVi C yv_X8_isLoop m_396 (c_X8_isLoop e1) (Sub.whole hD _ _) ⟨_, _, _, _, _, wd_at sk_0, rfl⟩ (As := [.int a1, .int a2]) rfl rfl (Nat.le_of_ble_eq_true rfl) ⟨Nat.le_of_ble_eq_true rfl, Nat.le_of_ble_eq_true rfl⟩ dX8_pulled_3 rfl ?_
  refine v_if_eq C dX8_pulled_6 (tgt := 31) (by decide) rfl (fun c3 => ?_) (fun c3 => ?_)
  · have h := ifp c3 h
    refine v_ldc C dX8_pulled_31 rfl m_290 ?_
    obtain rfl := Option.some.inj h
    exact RET _ _ dX8_pulled_33
  · have h := ifn c3 h
    refine v_aload_n C dX8_pulled_9 rfl rfl 0 rfl ?_
    refine v_getr C dX8_pulled_10 rfl ff_X8_21 sk_0 rfl ?_
    obtain ⟨r5, e4, h⟩ := bdS h
    refine v_callVi C yv_X6_held m_401 (c_X6_held isTown_21 e4) (Sub.whole hD _ _) ⟨_, _, _, _, _, wd_at sk_21, rfl⟩ (As := []) rfl rfl (Nat.le_of_ble_eq_true rfl) ⟨Nat.le_of_ble_eq_true rfl, Nat.le_of_ble_eq_true rfl⟩ dX8_pulled_13 rfl ?_
    refine v_aload_n C dX8_pulled_16 rfl rfl 0 rfl ?_
    refine v_getr C dX8_pulled_17 rfl ff_X8_21 sk_0 rfl ?_
    refine v_iload_n C dX8_pulled_20 rfl rfl 1 rfl ?_
    refine v_iconst C dX8_pulled_21 rfl ic_1 ?_
    refine v_iload_n C dX8_pulled_22 rfl rfl 2 rfl ?_
    refine v_ishl C dX8_pulled_23 rfl ?_
    obtain ⟨r7, e6, h⟩ := bdS h
    refine v_callVi C yv_X6_heldWithout m_516 (c_X6_heldWithout isTown_21 e6) (Sub.whole hD _ _) ⟨_, _, _, _, _, wd_at sk_21, rfl⟩ (As := [.int a1, .int (jshl 1 a2)]) rfl rfl (Nat.le_of_ble_eq_true rfl) ⟨Nat.le_of_ble_eq_true rfl, Nat.le_of_ble_eq_true rfl⟩ dX8_pulled_24 rfl ?_
    refine v_isub C dX8_pulled_27 rfl ?_
    refine v_goto C dX8_pulled_28 (tgt := 33) (by decide) ?_
    obtain rfl := Option.some.inj h
    exact RET _ _ dX8_pulled_33
def C_X8_pulled (K : Mem) (a1 : Int32) (a2 : Int32) : Option Int32 := F_X8_pulled_0 K a1 a2
set_option maxRecDepth 100000 in
theorem c_X8_pulled {l : Launch} {D : va_G} {cA : FieldType → ClassId} {X : Ex} {ad : Nat → Nat} {a1 : Int32} {a2 : Int32} {K : Mem} {r : Int32} (h : C_X8_pulled K a1 a2 = some r) : MI l D cA X yX8_pulled cX8_pulled 3 (some .int) 5 108 [.ref (ad 0), .int a1, .int a2] (wd cA ad K 0 shsK) (wd cA ad K 0 shsK) r :=
  mI_of (by decide +kernel) (Nat.le_of_ble_eq_true rfl) (fun G h1 h2 h3 h4 C hD RET => by subst h1 h2 h3 h4; exact wF_X8_pulled_0 C (fun K' => wd_D K' hD) RET  h)
def F_X8_worst_59 (k44 : Int32 → Int32 → Int32 → Int32 → Int32 → Int32 → Option Int32) (k59 : Int32 → Int32 → Int32 → Int32 → Int32 → Int32 → Int32 → Option Int32) (K : Mem) (a1 : Int32) (a2 : Int32) (a3 : Int32) (a4 : Int32) (a5 : Int32) (a6 : Int32) (a7 : Int32) : Option Int32 :=
  if 8 ≤ a7 then (
    nm (a6 + 1) fun v10 =>
    k44 a1 a2 a3 a4 a5 v10
  ) else (
    bd (C_X6_heldWithout 21 K a6 (jshl 1 a7)) fun r12 =>
    nm (a2 - r12) fun v13 =>
    if v13 ≤ a5 then (
      nm (a7 + 1) fun v15 =>
      k59 a1 a2 a3 a4 a5 a6 v15
    ) else (
      nm (a7 + 1) fun v16 =>
      k59 a1 a2 a6 a7 v13 a6 v16
    )
  )
def L_X8_worst_59 (k44 : Int32 → Int32 → Int32 → Int32 → Int32 → Int32 → Option Int32) (K : Mem) : Nat → Int32 → Int32 → Int32 → Int32 → Int32 → Int32 → Int32 → Option Int32
  | 0, _, _, _, _, _, _, _ => none
  | n + 1, a1, a2, a3, a4, a5, a6, a7 => F_X8_worst_59 k44 (fun a1 a2 a3 a4 a5 a6 a7 => L_X8_worst_59 k44 K n a1 a2 a3 a4 a5 a6 a7) K a1 a2 a3 a4 a5 a6 a7
set_option maxRecDepth 100000 in
set_option maxHeartbeats 4000000 in
theorem wF_X8_worst_59 {G : Ctx} {ad : Nat → Nat} {K : Mem} {k44 : Int32 → Int32 → Int32 → Int32 → Int32 → Int32 → Option Int32} {k59 : Int32 → Int32 → Int32 → Int32 → Int32 → Int32 → Int32 → Option Int32} (C : Cx G RX8 cX8_worst 9 5 108) (hD : ∀ K, va_D (gA G) (wd (gC G) ad K 0 shsK)) {res : Int32} (RET : RI G cX8_worst 9 (wd (gC G) ad K 0 shsK) res) (hk44 : ∀ {a1 : Int32} {a2 : Int32} {a3 : Int32} {a4 : Int32} {a5 : Int32} {a6 : Int32} , k44 a1 a2 a3 a4 a5 a6 = some res → V G 9 (wd (gC G) ad K 0 shsK) 44 [(0, .ref (ad 0)), (1, .int a1), (2, .int a2), (3, .int a3), (4, .int a4), (5, .int a5), (6, .int a6)] []) (hk59 : ∀ {a1 : Int32} {a2 : Int32} {a3 : Int32} {a4 : Int32} {a5 : Int32} {a6 : Int32} {a7 : Int32} , k59 a1 a2 a3 a4 a5 a6 a7 = some res → V G 9 (wd (gC G) ad K 0 shsK) 59 [(0, .ref (ad 0)), (1, .int a1), (2, .int a2), (3, .int a3), (4, .int a4), (5, .int a5), (6, .int a6), (7, .int a7)] []) {a1 : Int32} {a2 : Int32} {a3 : Int32} {a4 : Int32} {a5 : Int32} {a6 : Int32} {a7 : Int32} (h : F_X8_worst_59 k44 k59 K a1 a2 a3 a4 a5 a6 a7 = some res) : V G 9 (wd (gC G) ad K 0 shsK) 59 [(0, .ref (ad 0)), (1, .int a1), (2, .int a2), (3, .int a3), (4, .int a4), (5, .int a5), (6, .int a6), (7, .int a7)] [] := by
  unfold F_X8_worst_59 at h
  refine v_iload C dX8_worst_59 rfl 7 rfl ?_
  refine v_bipush C dX8_worst_61 rfl bi_8 ?_
  refine v_icmp_ge C dX8_worst_63 (tgt := 107) (by decide) rfl (fun c9 => ?_) (fun c9 => ?_)
  · have h := ifp c9 h
    obtain ⟨v10, ev10, h⟩ := nmS h
    refine v_iinc C dX8_worst_107 rfl 6 rfl (v := v10) (by rw [ev10]; rfl) (by decide) (L' := [(6, .int v10), (0, .ref (ad 0)), (1, .int a1), (2, .int a2), (3, .int a3), (4, .int a4), (5, .int a5), (7, .int a7)]) rfl ?_
    refine v_goto C dX8_worst_110 (tgt := 44) (by decide) ?_
    refine v_sub [1, 2, 3, 4, 5, 6, 0] rfl ?_
    exact hk44 h
  · have h := ifn c9 h
    refine v_iload_n C dX8_worst_66 rfl rfl 2 rfl ?_
    refine v_aload_n C dX8_worst_67 rfl rfl 0 rfl ?_
    refine v_getr C dX8_worst_68 rfl ff_X8_21 sk_0 rfl ?_
    refine v_iload C dX8_worst_71 rfl 6 rfl ?_
    refine v_iconst C dX8_worst_73 rfl ic_1 ?_
    refine v_iload C dX8_worst_74 rfl 7 rfl ?_
    refine v_ishl C dX8_worst_76 rfl ?_
    obtain ⟨r12, e11, h⟩ := bdS h
    refine v_callVi C yv_X6_heldWithout m_516 (c_X6_heldWithout isTown_21 e11) (Sub.whole hD _ _) ⟨_, _, _, _, _, wd_at sk_21, rfl⟩ (As := [.int a6, .int (jshl 1 a7)]) rfl rfl (Nat.le_of_ble_eq_true rfl) ⟨Nat.le_of_ble_eq_true rfl, Nat.le_of_ble_eq_true rfl⟩ dX8_worst_77 rfl ?_
    refine v_isub C dX8_worst_80 rfl ?_
    obtain ⟨v13, ev13, h⟩ := nmS h
    refine v_nmi ev13 ?_
    refine v_istore C dX8_worst_81 rfl (by decide) (L' := [(8, .int v13), (0, .ref (ad 0)), (1, .int a1), (2, .int a2), (3, .int a3), (4, .int a4), (5, .int a5), (6, .int a6), (7, .int a7)]) rfl ?_
    refine v_iload C dX8_worst_83 rfl 0 rfl ?_
    refine v_iload C dX8_worst_85 rfl 6 rfl ?_
    refine v_icmp_le C dX8_worst_87 (tgt := 101) (by decide) rfl (fun c14 => ?_) (fun c14 => ?_)
    · have h := ifp c14 h
      obtain ⟨v15, ev15, h⟩ := nmS h
      refine v_iinc C dX8_worst_101 rfl 8 rfl (v := v15) (by rw [ev15]; rfl) (by decide) (L' := [(7, .int v15), (8, .int v13), (0, .ref (ad 0)), (1, .int a1), (2, .int a2), (3, .int a3), (4, .int a4), (5, .int a5), (6, .int a6)]) rfl ?_
      refine v_goto C dX8_worst_104 (tgt := 59) (by decide) ?_
      refine v_sub [2, 3, 4, 5, 6, 7, 8, 0] rfl ?_
      exact hk59 h
    · have h := ifn c14 h
      refine v_iload C dX8_worst_90 rfl 0 rfl ?_
      refine v_istore C dX8_worst_92 rfl (by decide) (L' := [(5, .int v13), (8, .int v13), (0, .ref (ad 0)), (1, .int a1), (2, .int a2), (3, .int a3), (4, .int a4), (6, .int a6), (7, .int a7)]) rfl ?_
      refine v_iload C dX8_worst_94 rfl 7 rfl ?_
      refine v_istore_n C dX8_worst_96 rfl rfl (by decide) (L' := [(3, .int a6), (5, .int v13), (8, .int v13), (0, .ref (ad 0)), (1, .int a1), (2, .int a2), (4, .int a4), (6, .int a6), (7, .int a7)]) rfl ?_
      refine v_iload C dX8_worst_97 rfl 8 rfl ?_
      refine v_istore C dX8_worst_99 rfl (by decide) (L' := [(4, .int a7), (3, .int a6), (5, .int v13), (8, .int v13), (0, .ref (ad 0)), (1, .int a1), (2, .int a2), (6, .int a6), (7, .int a7)]) rfl ?_
      obtain ⟨v16, ev16, h⟩ := nmS h
      refine v_iinc C dX8_worst_101 rfl 8 rfl (v := v16) (by rw [ev16]; rfl) (by decide) (L' := [(7, .int v16), (4, .int a7), (3, .int a6), (5, .int v13), (8, .int v13), (0, .ref (ad 0)), (1, .int a1), (2, .int a2), (6, .int a6)]) rfl ?_
      refine v_goto C dX8_worst_104 (tgt := 59) (by decide) ?_
      refine v_sub [5, 6, 7, 2, 1, 3, 8, 0] rfl ?_
      exact hk59 h
theorem wL_X8_worst_59 {G : Ctx} {ad : Nat → Nat} {K : Mem} {k44 : Int32 → Int32 → Int32 → Int32 → Int32 → Int32 → Option Int32} (C : Cx G RX8 cX8_worst 9 5 108) (hD : ∀ K, va_D (gA G) (wd (gC G) ad K 0 shsK)) {res : Int32} (RET : RI G cX8_worst 9 (wd (gC G) ad K 0 shsK) res) (hk44 : ∀ {a1 : Int32} {a2 : Int32} {a3 : Int32} {a4 : Int32} {a5 : Int32} {a6 : Int32} , k44 a1 a2 a3 a4 a5 a6 = some res → V G 9 (wd (gC G) ad K 0 shsK) 44 [(0, .ref (ad 0)), (1, .int a1), (2, .int a2), (3, .int a3), (4, .int a4), (5, .int a5), (6, .int a6)] []) : ∀ (n : Nat) {a1 : Int32} {a2 : Int32} {a3 : Int32} {a4 : Int32} {a5 : Int32} {a6 : Int32} {a7 : Int32} (h : L_X8_worst_59 k44 K n a1 a2 a3 a4 a5 a6 a7 = some res), V G 9 (wd (gC G) ad K 0 shsK) 59 [(0, .ref (ad 0)), (1, .int a1), (2, .int a2), (3, .int a3), (4, .int a4), (5, .int a5), (6, .int a6), (7, .int a7)] [] := by
  intro n
  induction n with
  | zero =>
    intro a1 a2 a3 a4 a5 a6 a7 h
    cases (show (none : Option Int32) = some res from h)
  | succ n ih =>
    intro a1 a2 a3 a4 a5 a6 a7 h
    exact wF_X8_worst_59 (k59 := fun a1 a2 a3 a4 a5 a6 a7 => L_X8_worst_59 k44 K n a1 a2 a3 a4 a5 a6 a7) C hD RET hk44 (fun h => ih h) h
def F_X8_worst_44 (k44 : Int32 → Int32 → Int32 → Int32 → Int32 → Int32 → Option Int32) (K : Mem) (a1 : Int32) (a2 : Int32) (a3 : Int32) (a4 : Int32) (a5 : Int32) (a6 : Int32) : Option Int32 :=
  if (K 21 7) ≤ a6 then (
    if a1 = 0 then (
      some a3
    ) else (
      if a1 = 1 then (
        some a4
      ) else (
        some a5
      )
    )
  ) else (
    L_X8_worst_59 k44 K FU a1 a2 a3 a4 a5 a6 0
  )
def L_X8_worst_44 (K : Mem) : Nat → Int32 → Int32 → Int32 → Int32 → Int32 → Int32 → Option Int32
  | 0, _, _, _, _, _, _ => none
  | n + 1, a1, a2, a3, a4, a5, a6 => F_X8_worst_44 (fun a1 a2 a3 a4 a5 a6 => L_X8_worst_44 K n a1 a2 a3 a4 a5 a6) K a1 a2 a3 a4 a5 a6
set_option maxRecDepth 100000 in
set_option maxHeartbeats 4000000 in
theorem wF_X8_worst_44 {G : Ctx} {ad : Nat → Nat} {K : Mem} {k44 : Int32 → Int32 → Int32 → Int32 → Int32 → Int32 → Option Int32} (C : Cx G RX8 cX8_worst 9 5 108) (hD : ∀ K, va_D (gA G) (wd (gC G) ad K 0 shsK)) {res : Int32} (RET : RI G cX8_worst 9 (wd (gC G) ad K 0 shsK) res) (hk44 : ∀ {a1 : Int32} {a2 : Int32} {a3 : Int32} {a4 : Int32} {a5 : Int32} {a6 : Int32} , k44 a1 a2 a3 a4 a5 a6 = some res → V G 9 (wd (gC G) ad K 0 shsK) 44 [(0, .ref (ad 0)), (1, .int a1), (2, .int a2), (3, .int a3), (4, .int a4), (5, .int a5), (6, .int a6)] []) {a1 : Int32} {a2 : Int32} {a3 : Int32} {a4 : Int32} {a5 : Int32} {a6 : Int32} (h : F_X8_worst_44 k44 K a1 a2 a3 a4 a5 a6 = some res) : V G 9 (wd (gC G) ad K 0 shsK) 44 [(0, .ref (ad 0)), (1, .int a1), (2, .int a2), (3, .int a3), (4, .int a4), (5, .int a5), (6, .int a6)] [] := by
  unfold F_X8_worst_44 at h
  refine v_iload C dX8_worst_44 rfl 6 rfl ?_
  refine v_aload_n C dX8_worst_46 rfl rfl 0 rfl ?_
  refine v_getr C dX8_worst_47 rfl ff_X8_21 sk_0 rfl ?_
  refine v_getf C dX8_worst_50 rfl ff_X8_91 sk_21 rfl ?_
  refine v_icmp_ge C dX8_worst_53 (tgt := 113) (by decide) rfl (fun c6 => ?_) (fun c6 => ?_)
  · have h := ifp c6 h
    refine v_iload_n C dX8_worst_113 rfl rfl 1 rfl ?_
    refine v_if_ne C dX8_worst_114 (tgt := 121) (by decide) rfl (fun c7 => ?_) (fun c7 => ?_)
    · have h := ifn c7 h
      refine v_iload_n C dX8_worst_121 rfl rfl 1 rfl ?_
      refine v_iconst C dX8_worst_122 rfl ic_1 ?_
      refine v_icmp_ne C dX8_worst_123 (tgt := 131) (by decide) rfl (fun c8 => ?_) (fun c8 => ?_)
      · have h := ifn c8 h
        refine v_iload C dX8_worst_131 rfl 5 rfl ?_
        obtain rfl := Option.some.inj h
        exact RET _ _ dX8_worst_133
      · have h := ifp c8 h
        refine v_iload C dX8_worst_126 rfl 4 rfl ?_
        refine v_goto C dX8_worst_128 (tgt := 133) (by decide) ?_
        obtain rfl := Option.some.inj h
        exact RET _ _ dX8_worst_133
    · have h := ifp c7 h
      refine v_iload_n C dX8_worst_117 rfl rfl 3 rfl ?_
      refine v_goto C dX8_worst_118 (tgt := 133) (by decide) ?_
      obtain rfl := Option.some.inj h
      exact RET _ _ dX8_worst_133
  · have h := ifn c6 h
    refine v_iconst C dX8_worst_56 rfl ic_0 ?_
    refine v_istore C dX8_worst_57 rfl (by decide) (L' := [(7, .int 0), (0, .ref (ad 0)), (1, .int a1), (2, .int a2), (3, .int a3), (4, .int a4), (5, .int a5), (6, .int a6)]) rfl ?_
    refine v_sub [1, 2, 3, 4, 5, 6, 7, 0] rfl ?_
    exact wL_X8_worst_59 C hD RET hk44 FU h
theorem wL_X8_worst_44 {G : Ctx} {ad : Nat → Nat} {K : Mem} (C : Cx G RX8 cX8_worst 9 5 108) (hD : ∀ K, va_D (gA G) (wd (gC G) ad K 0 shsK)) {res : Int32} (RET : RI G cX8_worst 9 (wd (gC G) ad K 0 shsK) res) : ∀ (n : Nat) {a1 : Int32} {a2 : Int32} {a3 : Int32} {a4 : Int32} {a5 : Int32} {a6 : Int32} (h : L_X8_worst_44 K n a1 a2 a3 a4 a5 a6 = some res), V G 9 (wd (gC G) ad K 0 shsK) 44 [(0, .ref (ad 0)), (1, .int a1), (2, .int a2), (3, .int a3), (4, .int a4), (5, .int a5), (6, .int a6)] [] := by
  intro n
  induction n with
  | zero =>
    intro a1 a2 a3 a4 a5 a6 h
    cases (show (none : Option Int32) = some res from h)
  | succ n ih =>
    intro a1 a2 a3 a4 a5 a6 h
    exact wF_X8_worst_44 (k44 := fun a1 a2 a3 a4 a5 a6 => L_X8_worst_44 K n a1 a2 a3 a4 a5 a6) C hD RET (fun h => ih h) h
def F_X8_worst_0 (K : Mem) (a1 : Int32) : Option Int32 :=
  if a1 < 0 then (
    some (-1000000001)
  ) else (
    if a1 ≤ 2 then (
      if (K 21 7) = 0 then (
        some (-1000000005)
      ) else (
        bd (C_X6_held 21 K) fun r5 =>
        L_X8_worst_44 K FU a1 r5 0 0 (-1) 0
      )
    ) else (
      some (-1000000001)
    )
  )
set_option maxRecDepth 100000 in
set_option maxHeartbeats 4000000 in
theorem wF_X8_worst_0 {G : Ctx} {ad : Nat → Nat} {K : Mem} (C : Cx G RX8 cX8_worst 9 5 108) (hD : ∀ K, va_D (gA G) (wd (gC G) ad K 0 shsK)) {res : Int32} (RET : RI G cX8_worst 9 (wd (gC G) ad K 0 shsK) res) {a1 : Int32} (h : F_X8_worst_0 K a1 = some res) : V G 9 (wd (gC G) ad K 0 shsK) 0 [(0, .ref (ad 0)), (1, .int a1)] [] := by
  unfold F_X8_worst_0 at h
  refine v_iload_n C dX8_worst_0 rfl rfl 1 rfl ?_
  refine v_if_lt C dX8_worst_1 (tgt := 9) (by decide) rfl (fun c1 => ?_) (fun c1 => ?_)
  · have h := ifp c1 h
    refine v_ldc C dX8_worst_9 rfl m_290 ?_
    obtain rfl := Option.some.inj h
    exact RET _ _ dX8_worst_11
  · have h := ifn c1 h
    refine v_iload_n C dX8_worst_4 rfl rfl 1 rfl ?_
    refine v_iconst C dX8_worst_5 rfl ic_2 ?_
    refine v_icmp_le C dX8_worst_6 (tgt := 12) (by decide) rfl (fun c2 => ?_) (fun c2 => ?_)
    · have h := ifp c2 h
      refine v_aload_n C dX8_worst_12 rfl rfl 0 rfl ?_
      refine v_getr C dX8_worst_13 rfl ff_X8_21 sk_0 rfl ?_
      refine v_getf C dX8_worst_16 rfl ff_X8_91 sk_21 rfl ?_
      refine v_if_ne C dX8_worst_19 (tgt := 25) (by decide) rfl (fun c3 => ?_) (fun c3 => ?_)
      · have h := ifn c3 h
        refine v_aload_n C dX8_worst_25 rfl rfl 0 rfl ?_
        refine v_getr C dX8_worst_26 rfl ff_X8_21 sk_0 rfl ?_
        obtain ⟨r5, e4, h⟩ := bdS h
        refine v_callVi C yv_X6_held m_401 (c_X6_held isTown_21 e4) (Sub.whole hD _ _) ⟨_, _, _, _, _, wd_at sk_21, rfl⟩ (As := []) rfl rfl (Nat.le_of_ble_eq_true rfl) ⟨Nat.le_of_ble_eq_true rfl, Nat.le_of_ble_eq_true rfl⟩ dX8_worst_29 rfl ?_
        refine v_istore_n C dX8_worst_32 rfl rfl (by decide) (L' := [(2, .int r5), (0, .ref (ad 0)), (1, .int a1)]) rfl ?_
        refine v_iconst C dX8_worst_33 rfl ic_0 ?_
        refine v_istore_n C dX8_worst_34 rfl rfl (by decide) (L' := [(3, .int 0), (2, .int r5), (0, .ref (ad 0)), (1, .int a1)]) rfl ?_
        refine v_iconst C dX8_worst_35 rfl ic_0 ?_
        refine v_istore C dX8_worst_36 rfl (by decide) (L' := [(4, .int 0), (3, .int 0), (2, .int r5), (0, .ref (ad 0)), (1, .int a1)]) rfl ?_
        refine v_iconst C dX8_worst_38 rfl ic_n1 ?_
        refine v_istore C dX8_worst_39 rfl (by decide) (L' := [(5, .int (-1)), (4, .int 0), (3, .int 0), (2, .int r5), (0, .ref (ad 0)), (1, .int a1)]) rfl ?_
        refine v_iconst C dX8_worst_41 rfl ic_0 ?_
        refine v_istore C dX8_worst_42 rfl (by decide) (L' := [(6, .int 0), (5, .int (-1)), (4, .int 0), (3, .int 0), (2, .int r5), (0, .ref (ad 0)), (1, .int a1)]) rfl ?_
        refine v_sub [5, 6, 4, 3, 2, 1, 0] rfl ?_
        exact wL_X8_worst_44 C hD RET FU h
      · have h := ifp c3 h
        refine v_ldc C dX8_worst_22 rfl m_521 ?_
        obtain rfl := Option.some.inj h
        exact RET _ _ dX8_worst_24
    · have h := ifn c2 h
      refine v_ldc C dX8_worst_9 rfl m_290 ?_
      obtain rfl := Option.some.inj h
      exact RET _ _ dX8_worst_11
def C_X8_worst (K : Mem) (a1 : Int32) : Option Int32 := F_X8_worst_0 K a1
set_option maxRecDepth 100000 in
theorem c_X8_worst {l : Launch} {D : va_G} {cA : FieldType → ClassId} {X : Ex} {ad : Nat → Nat} {a1 : Int32} {K : Mem} {r : Int32} (h : C_X8_worst K a1 = some r) : MI l D cA X yX8_worst cX8_worst 9 (some .int) 5 108 [.ref (ad 0), .int a1] (wd cA ad K 0 shsK) (wd cA ad K 0 shsK) r :=
  mI_of (by decide +kernel) (Nat.le_of_ble_eq_true rfl) (fun G h1 h2 h3 h4 C hD RET => by subst h1 h2 h3 h4; exact wF_X8_worst_0 C (fun K' => wd_D K' hD) RET  h)
def F_X8_needs_0 (K : Mem) (a1 : Int32) (a2 : Int32) : Option Int32 :=
  bd (C_X8_isLoop K a1 a2) fun r2 =>
  if r2 = 0 then (
    some (-1000000001)
  ) else (
    bd (C_X6_lostBelow 21 K a1 a2) fun r5 =>
    some r5
  )
set_option maxRecDepth 100000 in
set_option maxHeartbeats 4000000 in
theorem wF_X8_needs_0 {G : Ctx} {ad : Nat → Nat} {K : Mem} (C : Cx G RX8 cX8_needs 3 3 66) (hD : ∀ K, va_D (gA G) (wd (gC G) ad K 0 shsK)) {res : Int32} (RET : RI G cX8_needs 3 (wd (gC G) ad K 0 shsK) res) {a1 : Int32} {a2 : Int32} (h : F_X8_needs_0 K a1 a2 = some res) : V G 3 (wd (gC G) ad K 0 shsK) 0 [(0, .ref (ad 0)), (1, .int a1), (2, .int a2)] [] := by
  unfold F_X8_needs_0 at h
  refine v_aload_n C dX8_needs_0 rfl rfl 0 rfl ?_
  refine v_iload_n C dX8_needs_1 rfl rfl 1 rfl ?_
  refine v_iload_n C dX8_needs_2 rfl rfl 2 rfl ?_
  obtain ⟨r2, e1, h⟩ := bdS h
  refine v_callVi C yv_X8_isLoop m_396 (c_X8_isLoop e1) (Sub.whole hD _ _) ⟨_, _, _, _, _, wd_at sk_0, rfl⟩ (As := [.int a1, .int a2]) rfl rfl (Nat.le_of_ble_eq_true rfl) ⟨Nat.le_of_ble_eq_true rfl, Nat.le_of_ble_eq_true rfl⟩ dX8_needs_3 rfl ?_
  refine v_if_eq C dX8_needs_6 (tgt := 21) (by decide) rfl (fun c3 => ?_) (fun c3 => ?_)
  · have h := ifp c3 h
    refine v_ldc C dX8_needs_21 rfl m_290 ?_
    obtain rfl := Option.some.inj h
    exact RET _ _ dX8_needs_23
  · have h := ifn c3 h
    refine v_aload_n C dX8_needs_9 rfl rfl 0 rfl ?_
    refine v_getr C dX8_needs_10 rfl ff_X8_21 sk_0 rfl ?_
    refine v_iload_n C dX8_needs_13 rfl rfl 1 rfl ?_
    refine v_iload_n C dX8_needs_14 rfl rfl 2 rfl ?_
    obtain ⟨r5, e4, h⟩ := bdS h
    refine v_callVi C yv_X6_lostBelow m_526 (c_X6_lostBelow isTown_21 e4) (Sub.whole hD _ _) ⟨_, _, _, _, _, wd_at sk_21, rfl⟩ (As := [.int a1, .int a2]) rfl rfl (Nat.le_of_ble_eq_true rfl) ⟨Nat.le_of_ble_eq_true rfl, Nat.le_of_ble_eq_true rfl⟩ dX8_needs_15 rfl ?_
    refine v_goto C dX8_needs_18 (tgt := 23) (by decide) ?_
    obtain rfl := Option.some.inj h
    exact RET _ _ dX8_needs_23
def C_X8_needs (K : Mem) (a1 : Int32) (a2 : Int32) : Option Int32 := F_X8_needs_0 K a1 a2
set_option maxRecDepth 100000 in
theorem c_X8_needs {l : Launch} {D : va_G} {cA : FieldType → ClassId} {X : Ex} {ad : Nat → Nat} {a1 : Int32} {a2 : Int32} {K : Mem} {r : Int32} (h : C_X8_needs K a1 a2 = some r) : MI l D cA X yX8_needs cX8_needs 3 (some .int) 3 66 [.ref (ad 0), .int a1, .int a2] (wd cA ad K 0 shsK) (wd cA ad K 0 shsK) r :=
  mI_of (by decide +kernel) (Nat.le_of_ble_eq_true rfl) (fun G h1 h2 h3 h4 C hD RET => by subst h1 h2 h3 h4; exact wF_X8_needs_0 C (fun K' => wd_D K' hD) RET  h)
def F_X8_behind_35 (a1 : Int32) (a2 : Int32) (K : Mem) : Option (Int32 × Mem) :=
  bd (C_X6_become 35 21 K) fun K9 =>
  bd (C_X6_passNights 35 a1 K9) fun K11 =>
  if a2 = 0 then (
    some (K11 35 8, K11)
  ) else (
    if a2 = 1 then (
      some (K11 35 9, K11)
    ) else (
      if a2 = 2 then (
        some (K11 35 10, K11)
      ) else (
        if a2 = 3 then (
          bd (C_X6_held 35 K11) fun r17 =>
          some (r17, K11)
        ) else (
          bd (C_X6_holding 35 K11 (a2 - 4)) fun r19 =>
          some (r19, K11)
        )
      )
    )
  )
set_option maxRecDepth 100000 in
set_option maxHeartbeats 4000000 in
theorem wF_X8_behind_35 {G : Ctx} {ad : Nat → Nat} (C : Cx G RX8 cX8_behind 3 7 159) (hD : ∀ K, va_D (gA G) (wd (gC G) ad K 0 shsK)) {res : (Int32 × Mem)} (RET : RI G cX8_behind 3 (wd (gC G) ad res.2 0 shsK) res.1) {a1 : Int32} {a2 : Int32} {K : Mem} (h : F_X8_behind_35 a1 a2 K = some res) : V G 3 (wd (gC G) ad K 0 shsK) 35 [(0, .ref (ad 0)), (1, .int a1), (2, .int a2)] [] := by
  unfold F_X8_behind_35 at h
  refine v_aload_n C dX8_behind_35 rfl rfl 0 rfl ?_
  refine v_getr C dX8_behind_36 rfl ff_X8_28 sk_0 rfl ?_
  refine v_aload_n C dX8_behind_39 rfl rfl 0 rfl ?_
  refine v_getr C dX8_behind_40 rfl ff_X8_21 sk_0 rfl ?_
  obtain ⟨K9, e8, h⟩ := bdS h
  refine v_callVv C yv_X6_become m_535 (c_X6_become isTown_35 isTown_21 e8) (Sub.whole hD _ _) ⟨_, _, _, _, _, wd_at sk_35, rfl⟩ (As := [.ref (ad 21)]) rfl rfl (Nat.le_of_ble_eq_true rfl) ⟨Nat.le_of_ble_eq_true rfl, Nat.le_of_ble_eq_true rfl⟩ dX8_behind_43 rfl ?_
  refine v_aload_n C dX8_behind_46 rfl rfl 0 rfl ?_
  refine v_getr C dX8_behind_47 rfl ff_X8_28 sk_0 rfl ?_
  refine v_iload_n C dX8_behind_50 rfl rfl 1 rfl ?_
  obtain ⟨K11, e10, h⟩ := bdS h
  refine v_callVv C yv_X6_passNights m_542 (c_X6_passNights isTown_35 e10) (Sub.whole hD _ _) ⟨_, _, _, _, _, wd_at sk_35, rfl⟩ (As := [.int a1]) rfl rfl (Nat.le_of_ble_eq_true rfl) ⟨Nat.le_of_ble_eq_true rfl, Nat.le_of_ble_eq_true rfl⟩ dX8_behind_51 rfl ?_
  refine v_iload_n C dX8_behind_54 rfl rfl 2 rfl ?_
  by_cases c12 : a2 = 0
  · have h := ifp c12 h
    refine v_tsIn C dX8_behind_55 c12 (by decide) (by decide) (off := 29) (by decide) (tgt := 84) (by decide) ?_
    refine v_aload_n C dX8_behind_84 rfl rfl 0 rfl ?_
    refine v_getr C dX8_behind_85 rfl ff_X8_28 sk_0 rfl ?_
    refine v_getf C dX8_behind_88 rfl ff_X8_155 sk_35 rfl ?_
    obtain rfl := Option.some.inj h
    exact RET _ _ dX8_behind_91
  · have h := ifn c12 h
    by_cases c13 : a2 = 1
    · have h := ifp c13 h
      refine v_tsIn C dX8_behind_55 c13 (by decide) (by decide) (off := 37) (by decide) (tgt := 92) (by decide) ?_
      refine v_aload_n C dX8_behind_92 rfl rfl 0 rfl ?_
      refine v_getr C dX8_behind_93 rfl ff_X8_28 sk_0 rfl ?_
      refine v_getf C dX8_behind_96 rfl ff_X8_146 sk_35 rfl ?_
      obtain rfl := Option.some.inj h
      exact RET _ _ dX8_behind_99
    · have h := ifn c13 h
      by_cases c14 : a2 = 2
      · have h := ifp c14 h
        refine v_tsIn C dX8_behind_55 c14 (by decide) (by decide) (off := 45) (by decide) (tgt := 100) (by decide) ?_
        refine v_aload_n C dX8_behind_100 rfl rfl 0 rfl ?_
        refine v_getr C dX8_behind_101 rfl ff_X8_28 sk_0 rfl ?_
        refine v_getf C dX8_behind_104 rfl ff_X8_158 sk_35 rfl ?_
        obtain rfl := Option.some.inj h
        exact RET _ _ dX8_behind_107
      · have h := ifn c14 h
        by_cases c15 : a2 = 3
        · have h := ifp c15 h
          refine v_tsIn C dX8_behind_55 c15 (by decide) (by decide) (off := 53) (by decide) (tgt := 108) (by decide) ?_
          refine v_aload_n C dX8_behind_108 rfl rfl 0 rfl ?_
          refine v_getr C dX8_behind_109 rfl ff_X8_28 sk_0 rfl ?_
          obtain ⟨r17, e16, h⟩ := bdS h
          refine v_callVi C yv_X6_held m_401 (c_X6_held isTown_35 e16) (Sub.whole hD _ _) ⟨_, _, _, _, _, wd_at sk_35, rfl⟩ (As := []) rfl rfl (Nat.le_of_ble_eq_true rfl) ⟨Nat.le_of_ble_eq_true rfl, Nat.le_of_ble_eq_true rfl⟩ dX8_behind_112 rfl ?_
          obtain rfl := Option.some.inj h
          exact RET _ _ dX8_behind_115
        · have h := ifn c15 h
          refine v_tsOut C dX8_behind_55 (by have ec12 := lv_neT c12 (k := 0) (a := 0) (by decide); have ec13 := lv_neT c13 (k := 1) (a := 1) (by decide); have ec14 := lv_neT c14 (k := 2) (a := 2) (by decide); have ec15 := lv_neT c15 (k := 3) (a := 3) (by decide); omega) (tgt := 116) (by decide) ?_
          refine v_aload_n C dX8_behind_116 rfl rfl 0 rfl ?_
          refine v_getr C dX8_behind_117 rfl ff_X8_28 sk_0 rfl ?_
          refine v_iload_n C dX8_behind_120 rfl rfl 2 rfl ?_
          refine v_iconst C dX8_behind_121 rfl ic_4 ?_
          refine v_isub C dX8_behind_122 rfl ?_
          obtain ⟨r19, e18, h⟩ := bdS h
          refine v_callVi C yv_X6_holding m_309 (c_X6_holding isTown_35 e18) (Sub.whole hD _ _) ⟨_, _, _, _, _, wd_at sk_35, rfl⟩ (As := [.int (a2 - 4)]) rfl rfl (Nat.le_of_ble_eq_true rfl) ⟨Nat.le_of_ble_eq_true rfl, Nat.le_of_ble_eq_true rfl⟩ dX8_behind_123 rfl ?_
          obtain rfl := Option.some.inj h
          exact RET _ _ dX8_behind_126
def F_X8_behind_0 (a1 : Int32) (a2 : Int32) (K : Mem) : Option (Int32 × Mem) :=
  if a1 < 0 then (
    some ((-1000000001), K)
  ) else (
    if 100 < a1 then (
      some ((-1000000001), K)
    ) else (
      if a2 < 0 then (
        some ((-1000000001), K)
      ) else (
        if a2 < 4 then (
          F_X8_behind_35 a1 a2 K
        ) else (
          bd (C_X6_has 21 K (a2 - 4)) fun r6 =>
          if r6 = 0 then (
            some ((-1000000001), K)
          ) else (
            F_X8_behind_35 a1 a2 K
          )
        )
      )
    )
  )
set_option maxRecDepth 100000 in
set_option maxHeartbeats 4000000 in
theorem wF_X8_behind_0 {G : Ctx} {ad : Nat → Nat} (C : Cx G RX8 cX8_behind 3 7 159) (hD : ∀ K, va_D (gA G) (wd (gC G) ad K 0 shsK)) {res : (Int32 × Mem)} (RET : RI G cX8_behind 3 (wd (gC G) ad res.2 0 shsK) res.1) {a1 : Int32} {a2 : Int32} {K : Mem} (h : F_X8_behind_0 a1 a2 K = some res) : V G 3 (wd (gC G) ad K 0 shsK) 0 [(0, .ref (ad 0)), (1, .int a1), (2, .int a2)] [] := by
  unfold F_X8_behind_0 at h
  refine v_iload_n C dX8_behind_0 rfl rfl 1 rfl ?_
  refine v_if_lt C dX8_behind_1 (tgt := 32) (by decide) rfl (fun c1 => ?_) (fun c1 => ?_)
  · have h := ifp c1 h
    refine v_ldc C dX8_behind_32 rfl m_290 ?_
    obtain rfl := Option.some.inj h
    exact RET _ _ dX8_behind_34
  · have h := ifn c1 h
    refine v_iload_n C dX8_behind_4 rfl rfl 1 rfl ?_
    refine v_bipush C dX8_behind_5 rfl bi_100 ?_
    refine v_icmp_gt C dX8_behind_7 (tgt := 32) (by decide) rfl (fun c2 => ?_) (fun c2 => ?_)
    · have h := ifp c2 h
      refine v_ldc C dX8_behind_32 rfl m_290 ?_
      obtain rfl := Option.some.inj h
      exact RET _ _ dX8_behind_34
    · have h := ifn c2 h
      refine v_iload_n C dX8_behind_10 rfl rfl 2 rfl ?_
      refine v_if_lt C dX8_behind_11 (tgt := 32) (by decide) rfl (fun c3 => ?_) (fun c3 => ?_)
      · have h := ifp c3 h
        refine v_ldc C dX8_behind_32 rfl m_290 ?_
        obtain rfl := Option.some.inj h
        exact RET _ _ dX8_behind_34
      · have h := ifn c3 h
        refine v_iload_n C dX8_behind_14 rfl rfl 2 rfl ?_
        refine v_iconst C dX8_behind_15 rfl ic_4 ?_
        refine v_icmp_lt C dX8_behind_16 (tgt := 35) (by decide) rfl (fun c4 => ?_) (fun c4 => ?_)
        · have h := ifp c4 h
          exact wF_X8_behind_35 C hD RET h
        · have h := ifn c4 h
          refine v_aload_n C dX8_behind_19 rfl rfl 0 rfl ?_
          refine v_getr C dX8_behind_20 rfl ff_X8_21 sk_0 rfl ?_
          refine v_iload_n C dX8_behind_23 rfl rfl 2 rfl ?_
          refine v_iconst C dX8_behind_24 rfl ic_4 ?_
          refine v_isub C dX8_behind_25 rfl ?_
          obtain ⟨r6, e5, h⟩ := bdS h
          refine v_callVi C yv_X6_has m_305 (c_X6_has isTown_21 e5) (Sub.whole hD _ _) ⟨_, _, _, _, _, wd_at sk_21, rfl⟩ (As := [.int (a2 - 4)]) rfl rfl (Nat.le_of_ble_eq_true rfl) ⟨Nat.le_of_ble_eq_true rfl, Nat.le_of_ble_eq_true rfl⟩ dX8_behind_26 rfl ?_
          refine v_if_ne C dX8_behind_29 (tgt := 35) (by decide) rfl (fun c7 => ?_) (fun c7 => ?_)
          · have h := ifn c7 h
            exact wF_X8_behind_35 C hD RET h
          · have h := ifp c7 h
            refine v_ldc C dX8_behind_32 rfl m_290 ?_
            obtain rfl := Option.some.inj h
            exact RET _ _ dX8_behind_34
def C_X8_behind (a1 : Int32) (a2 : Int32) (K : Mem) : Option (Int32 × Mem) := F_X8_behind_0 a1 a2 K
set_option maxRecDepth 100000 in
theorem c_X8_behind {l : Launch} {D : va_G} {cA : FieldType → ClassId} {X : Ex} {ad : Nat → Nat} {a1 : Int32} {a2 : Int32} {K : Mem} {r : Int32} {K' : Mem} (h : C_X8_behind a1 a2 K = some (r, K')) : MI l D cA X yX8_behind cX8_behind 3 (some .int) 7 159 [.ref (ad 0), .int a1, .int a2] (wd cA ad K 0 shsK) (wd cA ad K' 0 shsK) r :=
  mI_of (by decide +kernel) (Nat.le_of_ble_eq_true rfl) (fun G h1 h2 h3 h4 C hD RET => by subst h1 h2 h3 h4; exact wF_X8_behind_0 C (fun K' => wd_D K' hD) RET  h)
def F_X8_gone_25 (k25 : Int32 → Int32 → Int32 → Mem → Option (Int32 × Mem)) (a1 : Int32) (a2 : Int32) (a3 : Int32) (K : Mem) : Option (Int32 × Mem) :=
  if 200 < a3 then (
    some ((-1000000005), K)
  ) else (
    bd (C_X6_holding 35 K a1) fun r8 =>
    if ((jshr r8 a2) &&& 1) = 0 then (
      some (a3, K)
    ) else (
      bd (C_X6_passNight 35 K) fun K11 =>
      nm (a3 + 1) fun v12 =>
      k25 a1 a2 v12 K11
    )
  )
def L_X8_gone_25 : Nat → Int32 → Int32 → Int32 → Mem → Option (Int32 × Mem)
  | 0, _, _, _, _ => none
  | n + 1, a1, a2, a3, K => F_X8_gone_25 (fun a1 a2 a3 K => L_X8_gone_25 n a1 a2 a3 K) a1 a2 a3 K
set_option maxRecDepth 100000 in
set_option maxHeartbeats 4000000 in
theorem wF_X8_gone_25 {G : Ctx} {ad : Nat → Nat} {k25 : Int32 → Int32 → Int32 → Mem → Option (Int32 × Mem)} (C : Cx G RX8 cX8_gone 4 6 137) (hD : ∀ K, va_D (gA G) (wd (gC G) ad K 0 shsK)) {res : (Int32 × Mem)} (RET : RI G cX8_gone 4 (wd (gC G) ad res.2 0 shsK) res.1) (hk25 : ∀ {a1 : Int32} {a2 : Int32} {a3 : Int32} {K : Mem} , k25 a1 a2 a3 K = some res → V G 4 (wd (gC G) ad K 0 shsK) 25 [(0, .ref (ad 0)), (1, .int a1), (2, .int a2), (3, .int a3)] []) {a1 : Int32} {a2 : Int32} {a3 : Int32} {K : Mem} (h : F_X8_gone_25 k25 a1 a2 a3 K = some res) : V G 4 (wd (gC G) ad K 0 shsK) 25 [(0, .ref (ad 0)), (1, .int a1), (2, .int a2), (3, .int a3)] [] := by
  unfold F_X8_gone_25 at h
  refine v_iload_n C dX8_gone_25 rfl rfl 3 rfl ?_
  refine v_sipush C dX8_gone_26 rfl si_200 ?_
  refine v_icmp_gt C dX8_gone_29 (tgt := 62) (by decide) rfl (fun c6 => ?_) (fun c6 => ?_)
  · have h := ifp c6 h
    refine v_ldc C dX8_gone_62 rfl m_521 ?_
    obtain rfl := Option.some.inj h
    exact RET _ _ dX8_gone_64
  · have h := ifn c6 h
    refine v_aload_n C dX8_gone_32 rfl rfl 0 rfl ?_
    refine v_getr C dX8_gone_33 rfl ff_X8_28 sk_0 rfl ?_
    refine v_iload_n C dX8_gone_36 rfl rfl 1 rfl ?_
    obtain ⟨r8, e7, h⟩ := bdS h
    refine v_callVi C yv_X6_holding m_309 (c_X6_holding isTown_35 e7) (Sub.whole hD _ _) ⟨_, _, _, _, _, wd_at sk_35, rfl⟩ (As := [.int a1]) rfl rfl (Nat.le_of_ble_eq_true rfl) ⟨Nat.le_of_ble_eq_true rfl, Nat.le_of_ble_eq_true rfl⟩ dX8_gone_37 rfl ?_
    refine v_iload_n C dX8_gone_40 rfl rfl 2 rfl ?_
    refine v_ishr C dX8_gone_41 rfl ?_
    refine v_iconst C dX8_gone_42 rfl ic_1 ?_
    refine v_iand C dX8_gone_43 rfl ?_
    refine v_if_ne C dX8_gone_44 (tgt := 49) (by decide) rfl (fun c9 => ?_) (fun c9 => ?_)
    · have h := ifn c9 h
      refine v_aload_n C dX8_gone_49 rfl rfl 0 rfl ?_
      refine v_getr C dX8_gone_50 rfl ff_X8_28 sk_0 rfl ?_
      obtain ⟨K11, e10, h⟩ := bdS h
      refine v_callVv C yv_X6_passNight m_445 (c_X6_passNight isTown_35 e10) (Sub.whole hD _ _) ⟨_, _, _, _, _, wd_at sk_35, rfl⟩ (As := []) rfl rfl (Nat.le_of_ble_eq_true rfl) ⟨Nat.le_of_ble_eq_true rfl, Nat.le_of_ble_eq_true rfl⟩ dX8_gone_53 rfl ?_
      obtain ⟨v12, ev12, h⟩ := nmS h
      refine v_iinc C dX8_gone_56 rfl 3 rfl (v := v12) (by rw [ev12]; rfl) (by decide) (L' := [(3, .int v12), (0, .ref (ad 0)), (1, .int a1), (2, .int a2)]) rfl ?_
      refine v_goto C dX8_gone_59 (tgt := 25) (by decide) ?_
      refine v_sub [1, 2, 3, 0] rfl ?_
      exact hk25 h
    · have h := ifp c9 h
      refine v_iload_n C dX8_gone_47 rfl rfl 3 rfl ?_
      obtain rfl := Option.some.inj h
      exact RET _ _ dX8_gone_48
theorem wL_X8_gone_25 {G : Ctx} {ad : Nat → Nat} (C : Cx G RX8 cX8_gone 4 6 137) (hD : ∀ K, va_D (gA G) (wd (gC G) ad K 0 shsK)) {res : (Int32 × Mem)} (RET : RI G cX8_gone 4 (wd (gC G) ad res.2 0 shsK) res.1) : ∀ (n : Nat) {a1 : Int32} {a2 : Int32} {a3 : Int32} {K : Mem} (h : L_X8_gone_25 n a1 a2 a3 K = some res), V G 4 (wd (gC G) ad K 0 shsK) 25 [(0, .ref (ad 0)), (1, .int a1), (2, .int a2), (3, .int a3)] [] := by
  intro n
  induction n with
  | zero =>
    intro a1 a2 a3 K h
    cases (show (none : Option (Int32 × Mem)) = some res from h)
  | succ n ih =>
    intro a1 a2 a3 K h
    exact wF_X8_gone_25 (k25 := fun a1 a2 a3 K => L_X8_gone_25  n a1 a2 a3 K) C hD RET (fun h => ih h) h
def F_X8_gone_0 (a1 : Int32) (a2 : Int32) (K : Mem) : Option (Int32 × Mem) :=
  bd (C_X8_isLoop K a1 a2) fun r2 =>
  if r2 = 0 then (
    some ((-1000000001), K)
  ) else (
    bd (C_X6_become 35 21 K) fun K5 =>
    L_X8_gone_25 FU a1 a2 0 K5
  )
set_option maxRecDepth 100000 in
set_option maxHeartbeats 4000000 in
theorem wF_X8_gone_0 {G : Ctx} {ad : Nat → Nat} (C : Cx G RX8 cX8_gone 4 6 137) (hD : ∀ K, va_D (gA G) (wd (gC G) ad K 0 shsK)) {res : (Int32 × Mem)} (RET : RI G cX8_gone 4 (wd (gC G) ad res.2 0 shsK) res.1) {a1 : Int32} {a2 : Int32} {K : Mem} (h : F_X8_gone_0 a1 a2 K = some res) : V G 4 (wd (gC G) ad K 0 shsK) 0 [(0, .ref (ad 0)), (1, .int a1), (2, .int a2)] [] := by
  unfold F_X8_gone_0 at h
  refine v_aload_n C dX8_gone_0 rfl rfl 0 rfl ?_
  refine v_iload_n C dX8_gone_1 rfl rfl 1 rfl ?_
  refine v_iload_n C dX8_gone_2 rfl rfl 2 rfl ?_
  obtain ⟨r2, e1, h⟩ := bdS h
  refine v_callVi C yv_X8_isLoop m_396 (c_X8_isLoop e1) (Sub.whole hD _ _) ⟨_, _, _, _, _, wd_at sk_0, rfl⟩ (As := [.int a1, .int a2]) rfl rfl (Nat.le_of_ble_eq_true rfl) ⟨Nat.le_of_ble_eq_true rfl, Nat.le_of_ble_eq_true rfl⟩ dX8_gone_3 rfl ?_
  refine v_if_ne C dX8_gone_6 (tgt := 12) (by decide) rfl (fun c3 => ?_) (fun c3 => ?_)
  · have h := ifn c3 h
    refine v_aload_n C dX8_gone_12 rfl rfl 0 rfl ?_
    refine v_getr C dX8_gone_13 rfl ff_X8_28 sk_0 rfl ?_
    refine v_aload_n C dX8_gone_16 rfl rfl 0 rfl ?_
    refine v_getr C dX8_gone_17 rfl ff_X8_21 sk_0 rfl ?_
    obtain ⟨K5, e4, h⟩ := bdS h
    refine v_callVv C yv_X6_become m_535 (c_X6_become isTown_35 isTown_21 e4) (Sub.whole hD _ _) ⟨_, _, _, _, _, wd_at sk_35, rfl⟩ (As := [.ref (ad 21)]) rfl rfl (Nat.le_of_ble_eq_true rfl) ⟨Nat.le_of_ble_eq_true rfl, Nat.le_of_ble_eq_true rfl⟩ dX8_gone_20 rfl ?_
    refine v_iconst C dX8_gone_23 rfl ic_0 ?_
    refine v_istore_n C dX8_gone_24 rfl rfl (by decide) (L' := [(3, .int 0), (0, .ref (ad 0)), (1, .int a1), (2, .int a2)]) rfl ?_
    refine v_sub [1, 2, 3, 0] rfl ?_
    exact wL_X8_gone_25 C hD RET FU h
  · have h := ifp c3 h
    refine v_ldc C dX8_gone_9 rfl m_290 ?_
    obtain rfl := Option.some.inj h
    exact RET _ _ dX8_gone_11
def C_X8_gone (a1 : Int32) (a2 : Int32) (K : Mem) : Option (Int32 × Mem) := F_X8_gone_0 a1 a2 K
set_option maxRecDepth 100000 in
theorem c_X8_gone {l : Launch} {D : va_G} {cA : FieldType → ClassId} {X : Ex} {ad : Nat → Nat} {a1 : Int32} {a2 : Int32} {K : Mem} {r : Int32} {K' : Mem} (h : C_X8_gone a1 a2 K = some (r, K')) : MI l D cA X yX8_gone cX8_gone 4 (some .int) 6 137 [.ref (ad 0), .int a1, .int a2] (wd cA ad K 0 shsK) (wd cA ad K' 0 shsK) r :=
  mI_of (by decide +kernel) (Nat.le_of_ble_eq_true rfl) (fun G h1 h2 h3 h4 C hD RET => by subst h1 h2 h3 h4; exact wF_X8_gone_0 C (fun K' => wd_D K' hD) RET  h)
def F_X8_isPlan_0 (a0 : Int32) (a1 : Int32) : Option Int32 :=
  if a0 < 1 then (
    some 0
  ) else (
    if 60 < a0 then (
      some 0
    ) else (
      if a1 < 0 then (
        some 0
      ) else (
        if 1 < a1 then (
          some 0
        ) else (
          some 1
        )
      )
    )
  )
set_option maxRecDepth 100000 in
set_option maxHeartbeats 4000000 in
theorem wF_X8_isPlan_0 {G : Ctx} {w : va_W} (C : Cx G RX8 cX8_isPlan 2 0 0) (hD : va_D (gA G) w) {res : Int32} (RET : RZ G cX8_isPlan 2 w res) {a0 : Int32} {a1 : Int32} (h : F_X8_isPlan_0 a0 a1 = some res) : V G 2 w 0 [(0, .int a0), (1, .int a1)] [] := by
  unfold F_X8_isPlan_0 at h
  refine v_iload_n C dX8_isPlan_0 rfl rfl 0 rfl ?_
  refine v_iconst C dX8_isPlan_1 rfl ic_1 ?_
  refine v_icmp_lt C dX8_isPlan_2 (tgt := 24) (by decide) rfl (fun c1 => ?_) (fun c1 => ?_)
  · have h := ifp c1 h
    refine v_iconst C dX8_isPlan_24 rfl ic_0 ?_
    obtain rfl := Option.some.inj h
    exact RET _ _ dX8_isPlan_25 (Or.inl rfl)
  · have h := ifn c1 h
    refine v_iload_n C dX8_isPlan_5 rfl rfl 0 rfl ?_
    refine v_bipush C dX8_isPlan_6 rfl bi_60 ?_
    refine v_icmp_gt C dX8_isPlan_8 (tgt := 24) (by decide) rfl (fun c2 => ?_) (fun c2 => ?_)
    · have h := ifp c2 h
      refine v_iconst C dX8_isPlan_24 rfl ic_0 ?_
      obtain rfl := Option.some.inj h
      exact RET _ _ dX8_isPlan_25 (Or.inl rfl)
    · have h := ifn c2 h
      refine v_iload_n C dX8_isPlan_11 rfl rfl 1 rfl ?_
      refine v_if_lt C dX8_isPlan_12 (tgt := 24) (by decide) rfl (fun c3 => ?_) (fun c3 => ?_)
      · have h := ifp c3 h
        refine v_iconst C dX8_isPlan_24 rfl ic_0 ?_
        obtain rfl := Option.some.inj h
        exact RET _ _ dX8_isPlan_25 (Or.inl rfl)
      · have h := ifn c3 h
        refine v_iload_n C dX8_isPlan_15 rfl rfl 1 rfl ?_
        refine v_iconst C dX8_isPlan_16 rfl ic_1 ?_
        refine v_icmp_gt C dX8_isPlan_17 (tgt := 24) (by decide) rfl (fun c4 => ?_) (fun c4 => ?_)
        · have h := ifp c4 h
          refine v_iconst C dX8_isPlan_24 rfl ic_0 ?_
          obtain rfl := Option.some.inj h
          exact RET _ _ dX8_isPlan_25 (Or.inl rfl)
        · have h := ifn c4 h
          refine v_iconst C dX8_isPlan_20 rfl ic_1 ?_
          refine v_goto C dX8_isPlan_21 (tgt := 25) (by decide) ?_
          obtain rfl := Option.some.inj h
          exact RET _ _ dX8_isPlan_25 (Or.inr rfl)
def C_X8_isPlan (a0 : Int32) (a1 : Int32) : Option Int32 := F_X8_isPlan_0 a0 a1
set_option maxRecDepth 100000 in
theorem c_X8_isPlan {l : Launch} {D : va_G} {cA : FieldType → ClassId} {X : Ex} {w : va_W} {a0 : Int32} {a1 : Int32} {r : Int32} (h : C_X8_isPlan a0 a1 = some r) : MI l D cA X yX8_isPlan cX8_isPlan 2 (some .boolean) 0 0 [.int a0, .int a1] w w r :=
  mZ_of (by decide +kernel) (Nat.le_of_ble_eq_true rfl) (fun G h1 h2 h3 h4 C hD RET => by subst h1 h2 h3 h4; exact wF_X8_isPlan_0 C hD RET  h)
def F_X8_thick_31 (k31 : Int32 → Int32 → Int32 → Int32 → Int32 → Int32 → Mem → Option (Int32 × Mem)) (a1 : Int32) (a2 : Int32) (a3 : Int32) (a4 : Int32) (a5 : Int32) (a6 : Int32) (K : Mem) : Option (Int32 × Mem) :=
  if 9 < a6 then (
    if a3 = 0 then (
      some (a4, K)
    ) else (
      some (a5, K)
    )
  ) else (
    bd (C_X6_become 35 21 K) fun K10 =>
    gd (inb a1 12) <|
    nm (up K10 37 (Int32.toNatClampNeg a1) a6) fun K12 =>
    bd (C_X6_passNights 35 a2 K12) fun K14 =>
    bd (C_X6_held 35 K14) fun r16 =>
    if r16 ≤ a5 then (
      nm (a6 + 1) fun v18 =>
      k31 a1 a2 a3 a4 a5 v18 K14
    ) else (
      nm (a6 + 1) fun v19 =>
      k31 a1 a2 a3 a6 r16 v19 K14
    )
  )
def L_X8_thick_31 : Nat → Int32 → Int32 → Int32 → Int32 → Int32 → Int32 → Mem → Option (Int32 × Mem)
  | 0, _, _, _, _, _, _, _ => none
  | n + 1, a1, a2, a3, a4, a5, a6, K => F_X8_thick_31 (fun a1 a2 a3 a4 a5 a6 K => L_X8_thick_31 n a1 a2 a3 a4 a5 a6 K) a1 a2 a3 a4 a5 a6 K
set_option maxRecDepth 100000 in
set_option maxHeartbeats 4000000 in
theorem wF_X8_thick_31 {G : Ctx} {ad : Nat → Nat} {k31 : Int32 → Int32 → Int32 → Int32 → Int32 → Int32 → Mem → Option (Int32 × Mem)} (C : Cx G RX8 cX8_thick 8 7 159) (hD : ∀ K, va_D (gA G) (wd (gC G) ad K 0 shsK)) {res : (Int32 × Mem)} (RET : RI G cX8_thick 8 (wd (gC G) ad res.2 0 shsK) res.1) (hk31 : ∀ {a1 : Int32} {a2 : Int32} {a3 : Int32} {a4 : Int32} {a5 : Int32} {a6 : Int32} {K : Mem} , k31 a1 a2 a3 a4 a5 a6 K = some res → V G 8 (wd (gC G) ad K 0 shsK) 31 [(0, .ref (ad 0)), (1, .int a1), (2, .int a2), (3, .int a3), (4, .int a4), (5, .int a5), (6, .int a6)] []) {a1 : Int32} {a2 : Int32} {a3 : Int32} {a4 : Int32} {a5 : Int32} {a6 : Int32} {K : Mem} (h : F_X8_thick_31 k31 a1 a2 a3 a4 a5 a6 K = some res) : V G 8 (wd (gC G) ad K 0 shsK) 31 [(0, .ref (ad 0)), (1, .int a1), (2, .int a2), (3, .int a3), (4, .int a4), (5, .int a5), (6, .int a6)] [] := by
  unfold F_X8_thick_31 at h
  refine v_iload C dX8_thick_31 rfl 6 rfl ?_
  refine v_bipush C dX8_thick_33 rfl bi_9 ?_
  refine v_icmp_gt C dX8_thick_35 (tgt := 98) (by decide) rfl (fun c7 => ?_) (fun c7 => ?_)
  · have h := ifp c7 h
    refine v_iload_n C dX8_thick_98 rfl rfl 3 rfl ?_
    refine v_if_ne C dX8_thick_99 (tgt := 107) (by decide) rfl (fun c8 => ?_) (fun c8 => ?_)
    · have h := ifn c8 h
      refine v_iload C dX8_thick_107 rfl 5 rfl ?_
      obtain rfl := Option.some.inj h
      exact RET _ _ dX8_thick_109
    · have h := ifp c8 h
      refine v_iload C dX8_thick_102 rfl 4 rfl ?_
      refine v_goto C dX8_thick_104 (tgt := 109) (by decide) ?_
      obtain rfl := Option.some.inj h
      exact RET _ _ dX8_thick_109
  · have h := ifn c7 h
    refine v_aload_n C dX8_thick_38 rfl rfl 0 rfl ?_
    refine v_getr C dX8_thick_39 rfl ff_X8_28 sk_0 rfl ?_
    refine v_aload_n C dX8_thick_42 rfl rfl 0 rfl ?_
    refine v_getr C dX8_thick_43 rfl ff_X8_21 sk_0 rfl ?_
    obtain ⟨K10, e9, h⟩ := bdS h
    refine v_callVv C yv_X6_become m_535 (c_X6_become isTown_35 isTown_21 e9) (Sub.whole hD _ _) ⟨_, _, _, _, _, wd_at sk_35, rfl⟩ (As := [.ref (ad 21)]) rfl rfl (Nat.le_of_ble_eq_true rfl) ⟨Nat.le_of_ble_eq_true rfl, Nat.le_of_ble_eq_true rfl⟩ dX8_thick_46 rfl ?_
    refine v_aload_n C dX8_thick_49 rfl rfl 0 rfl ?_
    refine v_getr C dX8_thick_50 rfl ff_X8_28 sk_0 rfl ?_
    refine v_getr C dX8_thick_53 rfl ff_X8_101 sk_35 rfl ?_
    refine v_iload_n C dX8_thick_56 rfl rfl 1 rfl ?_
    refine v_iload C dX8_thick_57 rfl 6 rfl ?_
    obtain ⟨b11, h⟩ := gdS h
    obtain ⟨K12, eK12, h⟩ := nmS h
    refine v_iast C hD dX8_thick_59 rfl sk_37 b11 eK12 ?_
    refine v_aload_n C dX8_thick_60 rfl rfl 0 rfl ?_
    refine v_getr C dX8_thick_61 rfl ff_X8_28 sk_0 rfl ?_
    refine v_iload_n C dX8_thick_64 rfl rfl 2 rfl ?_
    obtain ⟨K14, e13, h⟩ := bdS h
    refine v_callVv C yv_X6_passNights m_542 (c_X6_passNights isTown_35 e13) (Sub.whole hD _ _) ⟨_, _, _, _, _, wd_at sk_35, rfl⟩ (As := [.int a2]) rfl rfl (Nat.le_of_ble_eq_true rfl) ⟨Nat.le_of_ble_eq_true rfl, Nat.le_of_ble_eq_true rfl⟩ dX8_thick_65 rfl ?_
    refine v_aload_n C dX8_thick_68 rfl rfl 0 rfl ?_
    refine v_getr C dX8_thick_69 rfl ff_X8_28 sk_0 rfl ?_
    obtain ⟨r16, e15, h⟩ := bdS h
    refine v_callVi C yv_X6_held m_401 (c_X6_held isTown_35 e15) (Sub.whole hD _ _) ⟨_, _, _, _, _, wd_at sk_35, rfl⟩ (As := []) rfl rfl (Nat.le_of_ble_eq_true rfl) ⟨Nat.le_of_ble_eq_true rfl, Nat.le_of_ble_eq_true rfl⟩ dX8_thick_72 rfl ?_
    refine v_istore C dX8_thick_75 rfl (by decide) (L' := [(7, .int r16), (0, .ref (ad 0)), (1, .int a1), (2, .int a2), (3, .int a3), (4, .int a4), (5, .int a5), (6, .int a6)]) rfl ?_
    refine v_iload C dX8_thick_77 rfl 0 rfl ?_
    refine v_iload C dX8_thick_79 rfl 6 rfl ?_
    refine v_icmp_le C dX8_thick_81 (tgt := 92) (by decide) rfl (fun c17 => ?_) (fun c17 => ?_)
    · have h := ifp c17 h
      obtain ⟨v18, ev18, h⟩ := nmS h
      refine v_iinc C dX8_thick_92 rfl 7 rfl (v := v18) (by rw [ev18]; rfl) (by decide) (L' := [(6, .int v18), (7, .int r16), (0, .ref (ad 0)), (1, .int a1), (2, .int a2), (3, .int a3), (4, .int a4), (5, .int a5)]) rfl ?_
      refine v_goto C dX8_thick_95 (tgt := 31) (by decide) ?_
      refine v_sub [2, 3, 4, 5, 6, 7, 0] rfl ?_
      exact hk31 h
    · have h := ifn c17 h
      refine v_iload C dX8_thick_84 rfl 0 rfl ?_
      refine v_istore C dX8_thick_86 rfl (by decide) (L' := [(5, .int r16), (7, .int r16), (0, .ref (ad 0)), (1, .int a1), (2, .int a2), (3, .int a3), (4, .int a4), (6, .int a6)]) rfl ?_
      refine v_iload C dX8_thick_88 rfl 7 rfl ?_
      refine v_istore C dX8_thick_90 rfl (by decide) (L' := [(4, .int a6), (5, .int r16), (7, .int r16), (0, .ref (ad 0)), (1, .int a1), (2, .int a2), (3, .int a3), (6, .int a6)]) rfl ?_
      obtain ⟨v19, ev19, h⟩ := nmS h
      refine v_iinc C dX8_thick_92 rfl 7 rfl (v := v19) (by rw [ev19]; rfl) (by decide) (L' := [(6, .int v19), (4, .int a6), (5, .int r16), (7, .int r16), (0, .ref (ad 0)), (1, .int a1), (2, .int a2), (3, .int a3)]) rfl ?_
      refine v_goto C dX8_thick_95 (tgt := 31) (by decide) ?_
      refine v_sub [4, 5, 6, 7, 1, 2, 0] rfl ?_
      exact hk31 h
theorem wL_X8_thick_31 {G : Ctx} {ad : Nat → Nat} (C : Cx G RX8 cX8_thick 8 7 159) (hD : ∀ K, va_D (gA G) (wd (gC G) ad K 0 shsK)) {res : (Int32 × Mem)} (RET : RI G cX8_thick 8 (wd (gC G) ad res.2 0 shsK) res.1) : ∀ (n : Nat) {a1 : Int32} {a2 : Int32} {a3 : Int32} {a4 : Int32} {a5 : Int32} {a6 : Int32} {K : Mem} (h : L_X8_thick_31 n a1 a2 a3 a4 a5 a6 K = some res), V G 8 (wd (gC G) ad K 0 shsK) 31 [(0, .ref (ad 0)), (1, .int a1), (2, .int a2), (3, .int a3), (4, .int a4), (5, .int a5), (6, .int a6)] [] := by
  intro n
  induction n with
  | zero =>
    intro a1 a2 a3 a4 a5 a6 K h
    cases (show (none : Option (Int32 × Mem)) = some res from h)
  | succ n ih =>
    intro a1 a2 a3 a4 a5 a6 K h
    exact wF_X8_thick_31 (k31 := fun a1 a2 a3 a4 a5 a6 K => L_X8_thick_31  n a1 a2 a3 a4 a5 a6 K) C hD RET (fun h => ih h) h
def F_X8_thick_0 (a1 : Int32) (a2 : Int32) (a3 : Int32) (K : Mem) : Option (Int32 × Mem) :=
  bd (C_X6_has 21 K a1) fun r2 =>
  if r2 = 0 then (
    some ((-1000000001), K)
  ) else (
    bd (C_X8_isPlan a2 a3) fun r5 =>
    if r5 = 0 then (
      some ((-1000000001), K)
    ) else (
      L_X8_thick_31 FU a1 a2 a3 1 (-1) 1 K
    )
  )
set_option maxRecDepth 100000 in
set_option maxHeartbeats 4000000 in
theorem wF_X8_thick_0 {G : Ctx} {ad : Nat → Nat} (C : Cx G RX8 cX8_thick 8 7 159) (hD : ∀ K, va_D (gA G) (wd (gC G) ad K 0 shsK)) {res : (Int32 × Mem)} (RET : RI G cX8_thick 8 (wd (gC G) ad res.2 0 shsK) res.1) {a1 : Int32} {a2 : Int32} {a3 : Int32} {K : Mem} (h : F_X8_thick_0 a1 a2 a3 K = some res) : V G 8 (wd (gC G) ad K 0 shsK) 0 [(0, .ref (ad 0)), (1, .int a1), (2, .int a2), (3, .int a3)] [] := by
  unfold F_X8_thick_0 at h
  refine v_aload_n C dX8_thick_0 rfl rfl 0 rfl ?_
  refine v_getr C dX8_thick_1 rfl ff_X8_21 sk_0 rfl ?_
  refine v_iload_n C dX8_thick_4 rfl rfl 1 rfl ?_
  obtain ⟨r2, e1, h⟩ := bdS h
  refine v_callVi C yv_X6_has m_305 (c_X6_has isTown_21 e1) (Sub.whole hD _ _) ⟨_, _, _, _, _, wd_at sk_21, rfl⟩ (As := [.int a1]) rfl rfl (Nat.le_of_ble_eq_true rfl) ⟨Nat.le_of_ble_eq_true rfl, Nat.le_of_ble_eq_true rfl⟩ dX8_thick_5 rfl ?_
  refine v_if_eq C dX8_thick_8 (tgt := 19) (by decide) rfl (fun c3 => ?_) (fun c3 => ?_)
  · have h := ifp c3 h
    refine v_ldc C dX8_thick_19 rfl m_290 ?_
    obtain rfl := Option.some.inj h
    exact RET _ _ dX8_thick_21
  · have h := ifn c3 h
    refine v_iload_n C dX8_thick_11 rfl rfl 2 rfl ?_
    refine v_iload_n C dX8_thick_12 rfl rfl 3 rfl ?_
    obtain ⟨r5, e4, h⟩ := bdS h
    refine v_callSi C ys_X8_isPlan m_555 (c_X8_isPlan e4) (Sub.whole hD _ _) (As := [.int a2, .int a3]) rfl rfl (Nat.le_of_ble_eq_true rfl) ⟨Nat.le_of_ble_eq_true rfl, Nat.le_of_ble_eq_true rfl⟩ dX8_thick_13 rfl ?_
    refine v_if_ne C dX8_thick_16 (tgt := 22) (by decide) rfl (fun c6 => ?_) (fun c6 => ?_)
    · have h := ifn c6 h
      refine v_iconst C dX8_thick_22 rfl ic_1 ?_
      refine v_istore C dX8_thick_23 rfl (by decide) (L' := [(4, .int 1), (0, .ref (ad 0)), (1, .int a1), (2, .int a2), (3, .int a3)]) rfl ?_
      refine v_iconst C dX8_thick_25 rfl ic_n1 ?_
      refine v_istore C dX8_thick_26 rfl (by decide) (L' := [(5, .int (-1)), (4, .int 1), (0, .ref (ad 0)), (1, .int a1), (2, .int a2), (3, .int a3)]) rfl ?_
      refine v_iconst C dX8_thick_28 rfl ic_1 ?_
      refine v_istore C dX8_thick_29 rfl (by decide) (L' := [(6, .int 1), (5, .int (-1)), (4, .int 1), (0, .ref (ad 0)), (1, .int a1), (2, .int a2), (3, .int a3)]) rfl ?_
      refine v_sub [3, 4, 5, 6, 2, 1, 0] rfl ?_
      exact wL_X8_thick_31 C hD RET FU h
    · have h := ifp c6 h
      refine v_ldc C dX8_thick_19 rfl m_290 ?_
      obtain rfl := Option.some.inj h
      exact RET _ _ dX8_thick_21
def C_X8_thick (a1 : Int32) (a2 : Int32) (a3 : Int32) (K : Mem) : Option (Int32 × Mem) := F_X8_thick_0 a1 a2 a3 K
set_option maxRecDepth 100000 in
theorem c_X8_thick {l : Launch} {D : va_G} {cA : FieldType → ClassId} {X : Ex} {ad : Nat → Nat} {a1 : Int32} {a2 : Int32} {a3 : Int32} {K : Mem} {r : Int32} {K' : Mem} (h : C_X8_thick a1 a2 a3 K = some (r, K')) : MI l D cA X yX8_thick cX8_thick 8 (some .int) 7 159 [.ref (ad 0), .int a1, .int a2, .int a3] (wd cA ad K 0 shsK) (wd cA ad K' 0 shsK) r :=
  mI_of (by decide +kernel) (Nat.le_of_ble_eq_true rfl) (fun G h1 h2 h3 h4 C hD RET => by subst h1 h2 h3 h4; exact wF_X8_thick_0 C (fun K' => wd_D K' hD) RET  h)
