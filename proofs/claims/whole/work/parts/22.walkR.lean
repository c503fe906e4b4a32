def F_X9_step_0 (a1 : Int32) (a2 : Int32) (K : Mem) : Option Mem :=
  gd (inb ((K 0 25) + (2 * (K 0 24))) 3058) <|
  nm (up K 1 (Int32.toNatClampNeg ((K 0 25) + (2 * (K 0 24)))) a1) fun K2 =>
  gd (inb (((K2 0 25) + (2 * (K2 0 24))) + 1) 3058) <|
  nm (up K2 1 (Int32.toNatClampNeg (((K2 0 25) + (2 * (K2 0 24))) + 1)) a2) fun K4 =>
  nm (up K4 0 24 ((K4 0 24) + 1)) fun K5 =>
  some K5
set_option maxRecDepth 100000 in
set_option maxHeartbeats 4000000 in
theorem wF_X9_step_0 {G : Ctx} {ad : Nat → Nat} (C : Cx G RX9 cX9_step 3 0 0) (hD : ∀ K, va_D (gA G) (wd (gC G) ad K 0 shsR)) {res : Mem} (RET : RV G cX9_step 3 (wd (gC G) ad res 0 shsR)) {a1 : Int32} {a2 : Int32} {K : Mem} (h : F_X9_step_0 a1 a2 K = some res) : V G 3 (wd (gC G) ad K 0 shsR) 0 [(0, .ref (ad 0)), (1, .int a1), (2, .int a2)] [] := by
  unfold F_X9_step_0 at h
  refine v_aload_n C dX9_step_0 rfl rfl 0 rfl ?_
  refine v_getr C dX9_step_1 rfl ff_X9_7 sr_0 rfl ?_
  refine v_aload_n C dX9_step_4 rfl rfl 0 rfl ?_
  refine v_getf C dX9_step_5 rfl ff_X9_263 sr_0 rfl ?_
  refine v_iconst C dX9_step_8 rfl ic_2 ?_
  refine v_aload_n C dX9_step_9 rfl rfl 0 rfl ?_
  refine v_getf C dX9_step_10 rfl ff_X9_266 sr_0 rfl ?_
  refine v_imul C dX9_step_13 rfl ?_
  refine v_iadd C dX9_step_14 rfl ?_
  refine v_iload_n C dX9_step_15 rfl rfl 1 rfl ?_
  obtain ⟨b1, h⟩ := gdS h
  obtain ⟨K2, eK2, h⟩ := nmS h
  refine v_iast C hD dX9_step_16 rfl sr_1 b1 eK2 ?_
  refine v_aload_n C dX9_step_17 rfl rfl 0 rfl ?_
  refine v_getr C dX9_step_18 rfl ff_X9_7 sr_0 rfl ?_
  refine v_aload_n C dX9_step_21 rfl rfl 0 rfl ?_
  refine v_getf C dX9_step_22 rfl ff_X9_263 sr_0 rfl ?_
  refine v_iconst C dX9_step_25 rfl ic_2 ?_
  refine v_aload_n C dX9_step_26 rfl rfl 0 rfl ?_
  refine v_getf C dX9_step_27 rfl ff_X9_266 sr_0 rfl ?_
  refine v_imul C dX9_step_30 rfl ?_
  refine v_iadd C dX9_step_31 rfl ?_
  refine v_iconst C dX9_step_32 rfl ic_1 ?_
  refine v_iadd C dX9_step_33 rfl ?_
  refine v_iload_n C dX9_step_34 rfl rfl 2 rfl ?_
  obtain ⟨b3, h⟩ := gdS h
  obtain ⟨K4, eK4, h⟩ := nmS h
  refine v_iast C hD dX9_step_35 rfl sr_1 b3 eK4 ?_
  refine v_aload_n C dX9_step_36 rfl rfl 0 rfl ?_
  refine v_dup C dX9_step_37 rfl rfl ?_
  refine v_getf C dX9_step_38 rfl ff_X9_266 sr_0 rfl ?_
  refine v_iconst C dX9_step_41 rfl ic_1 ?_
  refine v_iadd C dX9_step_42 rfl ?_
  obtain ⟨K5, eK5, h⟩ := nmS h
  refine v_putf C hD dX9_step_43 rfl fp_X9_266 sr_0 rfl eK5 ?_
  obtain rfl := Option.some.inj h
  exact RET _ _ dX9_step_46
def C_X9_step (a1 : Int32) (a2 : Int32) (K : Mem) : Option Mem := F_X9_step_0 a1 a2 K
set_option maxRecDepth 100000 in
theorem c_X9_step {l : Launch} {D : va_G} {cA : FieldType → ClassId} {X : Ex} {ad : Nat → Nat} {a1 : Int32} {a2 : Int32} {K : Mem} {K' : Mem} (h : C_X9_step a1 a2 K = some K') : MV l D cA X yX9_step cX9_step 3 0 0 [.ref (ad 0), .int a1, .int a2] (wd cA ad K 0 shsR) (wd cA ad K' 0 shsR) :=
  mV_of (by decide +kernel) (Nat.le_of_ble_eq_true rfl) (fun G h1 h2 h3 h4 C hD RET => by subst h1 h2 h3 h4; exact wF_X9_step_0 C (fun K' => wd_D K' hD) RET  h)
def F_X9_textTold_0 (K : Mem) (a1 : Int32) (a2 : Int32) : Option Int32 :=
  bd (C_X9_isText K a1) fun r2 =>
  if r2 = 0 then (
    some (-1000000001)
  ) else (
    bd (C_X9_isIn (Int32.toInt64 a2) 0 1) fun r5 =>
    if r5 = 0 then (
      some (-1000000001)
    ) else (
      bd (C_X9_textAt K a1) fun r8 =>
      gd (inb (r8 + a2) 3058) <|
      some (K 1 (Int32.toNatClampNeg (r8 + a2)))
    )
  )
set_option maxRecDepth 100000 in
set_option maxHeartbeats 4000000 in
theorem wF_X9_textTold_0 {G : Ctx} {ad : Nat → Nat} {K : Mem} (C : Cx G RX9 cX9_textTold 3 2 46) (hD : ∀ K, va_D (gA G) (wd (gC G) ad K 0 shsR)) {res : Int32} (RET : RI G cX9_textTold 3 (wd (gC G) ad K 0 shsR) res) {a1 : Int32} {a2 : Int32} (h : F_X9_textTold_0 K a1 a2 = some res) : V G 3 (wd (gC G) ad K 0 shsR) 0 [(0, .ref (ad 0)), (1, .int a1), (2, .int a2)] [] := by
  unfold F_X9_textTold_0 at h
  refine v_aload_n C dX9_textTold_0 rfl rfl 0 rfl ?_
  refine v_iload_n C dX9_textTold_1 rfl rfl 1 rfl ?_
  obtain ⟨r2, e1, h⟩ := bdS h
  refine v_callVi C yv_X9_isText m_1288 (c_X9_isText e1) (Sub.whole hD _ _) ⟨_, _, _, _, _, wd_at sr_0, rfl⟩ (As := [.int a1]) rfl rfl (Nat.le_of_ble_eq_true rfl) ⟨Nat.le_of_ble_eq_true rfl, Nat.le_of_ble_eq_true rfl⟩ dX9_textTold_2 rfl ?_
  refine v_if_eq C dX9_textTold_5 (tgt := 18) (by decide) rfl (fun c3 => ?_) (fun c3 => ?_)
  · have h := ifp c3 h
    refine v_ldc C dX9_textTold_18 rfl m_953 ?_
    obtain rfl := Option.some.inj h
    exact RET _ _ dX9_textTold_20
  · have h := ifn c3 h
    refine v_iload_n C dX9_textTold_8 rfl rfl 2 rfl ?_
    refine v_i2l C dX9_textTold_9 rfl ?_
    refine v_lconst C dX9_textTold_10 rfl (v := 0) (by decide) ?_
    refine v_lconst C dX9_textTold_11 rfl (v := 1) (by decide) ?_
    obtain ⟨r5, e4, h⟩ := bdS h
    refine v_callSi C ys_X9_isIn m_949 (c_X9_isIn e4) (Sub.whole hD _ _) (As := [.long (Int32.toInt64 a2), .long 0, .long 1]) rfl rfl (Nat.le_of_ble_eq_true rfl) ⟨Nat.le_of_ble_eq_true rfl, Nat.le_of_ble_eq_true rfl⟩ dX9_textTold_12 rfl ?_
    refine v_if_ne C dX9_textTold_15 (tgt := 21) (by decide) rfl (fun c6 => ?_) (fun c6 => ?_)
    · have h := ifn c6 h
      refine v_aload_n C dX9_textTold_21 rfl rfl 0 rfl ?_
      refine v_getr C dX9_textTold_22 rfl ff_X9_7 sr_0 rfl ?_
      refine v_aload_n C dX9_textTold_25 rfl rfl 0 rfl ?_
      refine v_iload_n C dX9_textTold_26 rfl rfl 1 rfl ?_
      obtain ⟨r8, e7, h⟩ := bdS h
      refine v_callVi C yv_X9_textAt m_1003 (c_X9_textAt e7) (Sub.whole hD _ _) ⟨_, _, _, _, _, wd_at sr_0, rfl⟩ (As := [.int a1]) rfl rfl (Nat.le_of_ble_eq_true rfl) ⟨Nat.le_of_ble_eq_true rfl, Nat.le_of_ble_eq_true rfl⟩ dX9_textTold_27 rfl ?_
      refine v_iload_n C dX9_textTold_30 rfl rfl 2 rfl ?_
      refine v_iadd C dX9_textTold_31 rfl ?_
      obtain ⟨b9, h⟩ := gdS h
      refine v_iald C dX9_textTold_32 rfl sr_1 b9 ?_
      obtain rfl := Option.some.inj h
      exact RET _ _ dX9_textTold_33
    · have h := ifp c6 h
      refine v_ldc C dX9_textTold_18 rfl m_953 ?_
      obtain rfl := Option.some.inj h
      exact RET _ _ dX9_textTold_20
def C_X9_textTold (K : Mem) (a1 : Int32) (a2 : Int32) : Option Int32 := F_X9_textTold_0 K a1 a2
set_option maxRecDepth 100000 in
theorem c_X9_textTold {l : Launch} {D : va_G} {cA : FieldType → ClassId} {X : Ex} {ad : Nat → Nat} {a1 : Int32} {a2 : Int32} {K : Mem} {r : Int32} (h : C_X9_textTold K a1 a2 = some r) : MI l D cA X yX9_textTold cX9_textTold 3 (some .int) 2 46 [.ref (ad 0), .int a1, .int a2] (wd cA ad K 0 shsR) (wd cA ad K 0 shsR) r :=
  mI_of (by decide +kernel) (Nat.le_of_ble_eq_true rfl) (fun G h1 h2 h3 h4 C hD RET => by subst h1 h2 h3 h4; exact wF_X9_textTold_0 C (fun K' => wd_D K' hD) RET  h)
def F_X9_why_0 (K : Mem) (a1 : Int32) : Option Int32 :=
  bd (C_X9_isIn (Int32.toInt64 a1) 0 2) fun r2 =>
  if r2 = 0 then (
    some (-1000000001)
  ) else (
    bd (C_X9_counts K a1) fun r5 =>
    bd (C_X9_orNone r5) fun r7 =>
    some r7
  )
set_option maxRecDepth 100000 in
set_option maxHeartbeats 4000000 in
theorem wF_X9_why_0 {G : Ctx} {ad : Nat → Nat} {K : Mem} (C : Cx G RX9 cX9_why 2 2 44) (hD : ∀ K, va_D (gA G) (wd (gC G) ad K 0 shsR)) {res : Int32} (RET : RI G cX9_why 2 (wd (gC G) ad K 0 shsR) res) {a1 : Int32} (h : F_X9_why_0 K a1 = some res) : V G 2 (wd (gC G) ad K 0 shsR) 0 [(0, .ref (ad 0)), (1, .int a1)] [] := by
  unfold F_X9_why_0 at h
  refine v_iload_n C dX9_why_0 rfl rfl 1 rfl ?_
  refine v_i2l C dX9_why_1 rfl ?_
  refine v_lconst C dX9_why_2 rfl (v := 0) (by decide) ?_
  refine v_ldc2 C dX9_why_3 rfl m_1045 ?_
  obtain ⟨r2, e1, h⟩ := bdS h
  refine v_callSi C ys_X9_isIn m_949 (c_X9_isIn e1) (Sub.whole hD _ _) (As := [.long (Int32.toInt64 a1), .long 0, .long 2]) rfl rfl (Nat.le_of_ble_eq_true rfl) ⟨Nat.le_of_ble_eq_true rfl, Nat.le_of_ble_eq_true rfl⟩ dX9_why_6 rfl ?_
  refine v_if_eq C dX9_why_9 (tgt := 23) (by decide) rfl (fun c3 => ?_) (fun c3 => ?_)
  · have h := ifp c3 h
    refine v_ldc C dX9_why_23 rfl m_953 ?_
    obtain rfl := Option.some.inj h
    exact RET _ _ dX9_why_25
  · have h := ifn c3 h
    refine v_aload_n C dX9_why_12 rfl rfl 0 rfl ?_
    refine v_iload_n C dX9_why_13 rfl rfl 1 rfl ?_
    obtain ⟨r5, e4, h⟩ := bdS h
    refine v_callVi C yv_X9_counts m_999 (c_X9_counts e4) (Sub.whole hD _ _) ⟨_, _, _, _, _, wd_at sr_0, rfl⟩ (As := [.int a1]) rfl rfl (Nat.le_of_ble_eq_true rfl) ⟨Nat.le_of_ble_eq_true rfl, Nat.le_of_ble_eq_true rfl⟩ dX9_why_14 rfl ?_
    obtain ⟨r7, e6, h⟩ := bdS h
    refine v_callSi C ys_X9_orNone m_1146 (c_X9_orNone e6) (Sub.whole hD _ _) (As := [.int r5]) rfl rfl (Nat.le_of_ble_eq_true rfl) ⟨Nat.le_of_ble_eq_true rfl, Nat.le_of_ble_eq_true rfl⟩ dX9_why_17 rfl ?_
    refine v_goto C dX9_why_20 (tgt := 25) (by decide) ?_
    obtain rfl := Option.some.inj h
    exact RET _ _ dX9_why_25
def C_X9_why (K : Mem) (a1 : Int32) : Option Int32 := F_X9_why_0 K a1
set_option maxRecDepth 100000 in
theorem c_X9_why {l : Launch} {D : va_G} {cA : FieldType → ClassId} {X : Ex} {ad : Nat → Nat} {a1 : Int32} {K : Mem} {r : Int32} (h : C_X9_why K a1 = some r) : MI l D cA X yX9_why cX9_why 2 (some .int) 2 44 [.ref (ad 0), .int a1] (wd cA ad K 0 shsR) (wd cA ad K 0 shsR) r :=
  mI_of (by decide +kernel) (Nat.le_of_ble_eq_true rfl) (fun G h1 h2 h3 h4 C hD RET => by subst h1 h2 h3 h4; exact wF_X9_why_0 C (fun K' => wd_D K' hD) RET  h)
def F_X9_isSheet_0 (a0 : Int32) : Option Int32 :=
  bd (C_X9_isIn (Int32.toInt64 a0) 0 3) fun r2 =>
  gd (z01 r2) <|
  some r2
set_option maxRecDepth 100000 in
set_option maxHeartbeats 4000000 in
theorem wF_X9_isSheet_0 {G : Ctx} {w : va_W} (C : Cx G RX9 cX9_isSheet 1 1 25) (hD : va_D (gA G) w) {res : Int32} (RET : RZ G cX9_isSheet 1 w res) {a0 : Int32} (h : F_X9_isSheet_0 a0 = some res) : V G 1 w 0 [(0, .int a0)] [] := by
  unfold F_X9_isSheet_0 at h
  refine v_iload_n C dX9_isSheet_0 rfl rfl 0 rfl ?_
  refine v_i2l C dX9_isSheet_1 rfl ?_
  refine v_lconst C dX9_isSheet_2 rfl (v := 0) (by decide) ?_
  refine v_ldc2 C dX9_isSheet_3 rfl m_1303 ?_
  obtain ⟨r2, e1, h⟩ := bdS h
  refine v_callSi C ys_X9_isIn m_949 (c_X9_isIn e1) (Sub.same hD) (As := [.long (Int32.toInt64 a0), .long 0, .long 3]) rfl rfl (Nat.le_of_ble_eq_true rfl) ⟨Nat.le_of_ble_eq_true rfl, Nat.le_of_ble_eq_true rfl⟩ dX9_isSheet_6 rfl ?_
  obtain ⟨b3, h⟩ := gdS h
  obtain rfl := Option.some.inj h
  exact RET _ _ dX9_isSheet_9 (z01S b3)
def C_X9_isSheet (a0 : Int32) : Option Int32 := F_X9_isSheet_0 a0
set_option maxRecDepth 100000 in
theorem c_X9_isSheet {l : Launch} {D : va_G} {cA : FieldType → ClassId} {X : Ex} {w : va_W} {a0 : Int32} {r : Int32} (h : C_X9_isSheet a0 = some r) : MI l D cA X yX9_isSheet cX9_isSheet 1 (some .boolean) 1 25 [.int a0] w w r :=
  mZ_of (by decide +kernel) (Nat.le_of_ble_eq_true rfl) (fun G h1 h2 h3 h4 C hD RET => by subst h1 h2 h3 h4; exact wF_X9_isSheet_0 C hD RET  h)
def F_X9_sheet_69 (k69 : Int32 → Int32 → Mem → Option (Int32 × Mem)) (a1 : Int32) (a4 : Int32) (K : Mem) : Option (Int32 × Mem) :=
  if 24 ≤ a4 then (
    gd (inb a1 4) <|
    some (K 5 (Int32.toNatClampNeg a1), K)
  ) else (
    gd (inb ((24 * a1) + a4) 96) <|
    nm (up K 6 (Int32.toNatClampNeg ((24 * a1) + a4)) 0) fun K23 =>
    nm (a4 + 1) fun v24 =>
    k69 a1 v24 K23
  )
def L_X9_sheet_69 : Nat → Int32 → Int32 → Mem → Option (Int32 × Mem)
  | 0, _, _, _ => none
  | n + 1, a1, a4, K => F_X9_sheet_69 (fun a1 a4 K => L_X9_sheet_69 n a1 a4 K) a1 a4 K
set_option maxRecDepth 100000 in
set_option maxHeartbeats 4000000 in
theorem wF_X9_sheet_69 {G : Ctx} {ad : Nat → Nat} {k69 : Int32 → Int32 → Mem → Option (Int32 × Mem)} (C : Cx G RX9 cX9_sheet 5 2 45) (hD : ∀ K, va_D (gA G) (wd (gC G) ad K 0 shsR)) {res : (Int32 × Mem)} (RET : RI G cX9_sheet 5 (wd (gC G) ad res.2 0 shsR) res.1) (hk69 : ∀ {a1 : Int32} {a4 : Int32} {K : Mem} , k69 a1 a4 K = some res → V G 5 (wd (gC G) ad K 0 shsR) 69 [(0, .ref (ad 0)), (1, .int a1), (4, .int a4)] []) {a1 : Int32} {a4 : Int32} {K : Mem} (h : F_X9_sheet_69 k69 a1 a4 K = some res) : V G 5 (wd (gC G) ad K 0 shsR) 69 [(0, .ref (ad 0)), (1, .int a1), (4, .int a4)] [] := by
  unfold F_X9_sheet_69 at h
  refine v_iload C dX9_sheet_69 rfl 2 rfl ?_
  refine v_bipush C dX9_sheet_71 rfl bi_24 ?_
  refine v_icmp_ge C dX9_sheet_73 (tgt := 95) (by decide) rfl (fun c20 => ?_) (fun c20 => ?_)
  · have h := ifp c20 h
    refine v_aload_n C dX9_sheet_95 rfl rfl 0 rfl ?_
    refine v_getr C dX9_sheet_96 rfl ff_X9_22 sr_0 rfl ?_
    refine v_iload_n C dX9_sheet_99 rfl rfl 1 rfl ?_
    obtain ⟨b21, h⟩ := gdS h
    refine v_iald C dX9_sheet_100 rfl sr_5 b21 ?_
    obtain rfl := Option.some.inj h
    exact RET _ _ dX9_sheet_101
  · have h := ifn c20 h
    refine v_aload_n C dX9_sheet_76 rfl rfl 0 rfl ?_
    refine v_getr C dX9_sheet_77 rfl ff_X9_25 sr_0 rfl ?_
    refine v_bipush C dX9_sheet_80 rfl bi_24 ?_
    refine v_iload_n C dX9_sheet_82 rfl rfl 1 rfl ?_
    refine v_imul C dX9_sheet_83 rfl ?_
    refine v_iload C dX9_sheet_84 rfl 2 rfl ?_
    refine v_iadd C dX9_sheet_86 rfl ?_
    refine v_iconst C dX9_sheet_87 rfl ic_0 ?_
    obtain ⟨b22, h⟩ := gdS h
    obtain ⟨K23, eK23, h⟩ := nmS h
    refine v_iast C hD dX9_sheet_88 rfl sr_6 b22 eK23 ?_
    obtain ⟨v24, ev24, h⟩ := nmS h
    refine v_iinc C dX9_sheet_89 rfl 2 rfl (v := v24) (by rw [ev24]; rfl) (by decide) (L' := [(4, .int v24), (0, .ref (ad 0)), (1, .int a1)]) rfl ?_
    refine v_goto C dX9_sheet_92 (tgt := 69) (by decide) ?_
    refine v_sub [1, 2, 0] rfl ?_
    exact hk69 h
theorem wL_X9_sheet_69 {G : Ctx} {ad : Nat → Nat} (C : Cx G RX9 cX9_sheet 5 2 45) (hD : ∀ K, va_D (gA G) (wd (gC G) ad K 0 shsR)) {res : (Int32 × Mem)} (RET : RI G cX9_sheet 5 (wd (gC G) ad res.2 0 shsR) res.1) : ∀ (n : Nat) {a1 : Int32} {a4 : Int32} {K : Mem} (h : L_X9_sheet_69 n a1 a4 K = some res), V G 5 (wd (gC G) ad K 0 shsR) 69 [(0, .ref (ad 0)), (1, .int a1), (4, .int a4)] [] := by
  intro n
  induction n with
  | zero =>
    intro a1 a4 K h
    cases (show (none : Option (Int32 × Mem)) = some res from h)
  | succ n ih =>
    intro a1 a4 K h
    exact wF_X9_sheet_69 (k69 := fun a1 a4 K => L_X9_sheet_69  n a1 a4 K) C hD RET (fun h => ih h) h
def F_X9_sheet_44 (a1 : Int32) (a2 : Int32) (a3 : Int32) (K : Mem) : Option (Int32 × Mem) :=
  gd (inb a1 4) <|
  nm (up K 4 (Int32.toNatClampNeg a1) a2) fun K14 =>
  if 0 ≤ a2 then (
    gd (inb a1 4) <|
    nm (up K14 5 (Int32.toNatClampNeg a1) a3) fun K17 =>
    L_X9_sheet_69 FU a1 0 K17
  ) else (
    gd (inb a1 4) <|
    nm (up K14 5 (Int32.toNatClampNeg a1) 0) fun K19 =>
    L_X9_sheet_69 FU a1 0 K19
  )
set_option maxRecDepth 100000 in
set_option maxHeartbeats 4000000 in
theorem wF_X9_sheet_44 {G : Ctx} {ad : Nat → Nat} (C : Cx G RX9 cX9_sheet 5 2 45) (hD : ∀ K, va_D (gA G) (wd (gC G) ad K 0 shsR)) {res : (Int32 × Mem)} (RET : RI G cX9_sheet 5 (wd (gC G) ad res.2 0 shsR) res.1) {a1 : Int32} {a2 : Int32} {a3 : Int32} {K : Mem} (h : F_X9_sheet_44 a1 a2 a3 K = some res) : V G 5 (wd (gC G) ad K 0 shsR) 44 [(0, .ref (ad 0)), (1, .int a1), (2, .int a2), (3, .int a3)] [] := by
  unfold F_X9_sheet_44 at h
  refine v_aload_n C dX9_sheet_44 rfl rfl 0 rfl ?_
  refine v_getr C dX9_sheet_45 rfl ff_X9_19 sr_0 rfl ?_
  refine v_iload_n C dX9_sheet_48 rfl rfl 1 rfl ?_
  refine v_iload_n C dX9_sheet_49 rfl rfl 2 rfl ?_
  obtain ⟨b13, h⟩ := gdS h
  obtain ⟨K14, eK14, h⟩ := nmS h
  refine v_iast C hD dX9_sheet_50 rfl sr_4 b13 eK14 ?_
  refine v_aload_n C dX9_sheet_51 rfl rfl 0 rfl ?_
  refine v_getr C dX9_sheet_52 rfl ff_X9_22 sr_0 rfl ?_
  refine v_iload_n C dX9_sheet_55 rfl rfl 1 rfl ?_
  refine v_iload_n C dX9_sheet_56 rfl rfl 2 rfl ?_
  refine v_if_ge C dX9_sheet_57 (tgt := 64) (by decide) rfl (fun c15 => ?_) (fun c15 => ?_)
  · have h := ifp c15 h
    refine v_iload_n C dX9_sheet_64 rfl rfl 3 rfl ?_
    obtain ⟨b16, h⟩ := gdS h
    obtain ⟨K17, eK17, h⟩ := nmS h
    refine v_iast C hD dX9_sheet_65 rfl sr_5 b16 eK17 ?_
    refine v_iconst C dX9_sheet_66 rfl ic_0 ?_
    refine v_istore C dX9_sheet_67 rfl (by decide) (L' := [(4, .int 0), (0, .ref (ad 0)), (1, .int a1), (2, .int a2), (3, .int a3)]) rfl ?_
    refine v_sub [1, 2, 0] rfl ?_
    exact wL_X9_sheet_69 C hD RET FU h
  · have h := ifn c15 h
    refine v_iconst C dX9_sheet_60 rfl ic_0 ?_
    refine v_goto C dX9_sheet_61 (tgt := 65) (by decide) ?_
    obtain ⟨b18, h⟩ := gdS h
    obtain ⟨K19, eK19, h⟩ := nmS h
    refine v_iast C hD dX9_sheet_65 rfl sr_5 b18 eK19 ?_
    refine v_iconst C dX9_sheet_66 rfl ic_0 ?_
    refine v_istore C dX9_sheet_67 rfl (by decide) (L' := [(4, .int 0), (0, .ref (ad 0)), (1, .int a1), (2, .int a2), (3, .int a3)]) rfl ?_
    refine v_sub [1, 2, 0] rfl ?_
    exact wL_X9_sheet_69 C hD RET FU h
def F_X9_sheet_0 (a1 : Int32) (a2 : Int32) (a3 : Int32) (K : Mem) : Option (Int32 × Mem) :=
  bd (C_X9_isSheet a1) fun r2 =>
  if r2 = 0 then (
    some ((-1000000001), K)
  ) else (
    bd (C_X9_isIn (Int32.toInt64 a2) (-1) 1) fun r5 =>
    if r5 = 0 then (
      some ((-1000000001), K)
    ) else (
      if a2 < 0 then (
        if a2 < 0 then (
          F_X9_sheet_44 a1 a2 a3 K
        ) else (
          if 0 ≤ a3 then (
            F_X9_sheet_44 a1 a2 a3 K
          ) else (
            some ((-1000000014), K)
          )
        )
      ) else (
        if a3 ≤ 24 then (
          if a2 < 0 then (
            F_X9_sheet_44 a1 a2 a3 K
          ) else (
            if 0 ≤ a3 then (
              F_X9_sheet_44 a1 a2 a3 K
            ) else (
              some ((-1000000014), K)
            )
          )
        ) else (
          some ((-1000000001), K)
        )
      )
    )
  )
set_option maxRecDepth 100000 in
set_option maxHeartbeats 4000000 in
theorem wF_X9_sheet_0 {G : Ctx} {ad : Nat → Nat} (C : Cx G RX9 cX9_sheet 5 2 45) (hD : ∀ K, va_D (gA G) (wd (gC G) ad K 0 shsR)) {res : (Int32 × Mem)} (RET : RI G cX9_sheet 5 (wd (gC G) ad res.2 0 shsR) res.1) {a1 : Int32} {a2 : Int32} {a3 : Int32} {K : Mem} (h : F_X9_sheet_0 a1 a2 a3 K = some res) : V G 5 (wd (gC G) ad K 0 shsR) 0 [(0, .ref (ad 0)), (1, .int a1), (2, .int a2), (3, .int a3)] [] := by
  unfold F_X9_sheet_0 at h
  refine v_iload_n C dX9_sheet_0 rfl rfl 1 rfl ?_
  obtain ⟨r2, e1, h⟩ := bdS h
  refine v_callSi C ys_X9_isSheet m_1300 (c_X9_isSheet e1) (Sub.whole hD _ _) (As := [.int a1]) rfl rfl (Nat.le_of_ble_eq_true rfl) ⟨Nat.le_of_ble_eq_true rfl, Nat.le_of_ble_eq_true rfl⟩ dX9_sheet_1 rfl ?_
  refine v_if_eq C dX9_sheet_4 (tgt := 29) (by decide) rfl (fun c3 => ?_) (fun c3 => ?_)
  · have h := ifp c3 h
    refine v_ldc C dX9_sheet_29 rfl m_953 ?_
    obtain rfl := Option.some.inj h
    exact RET _ _ dX9_sheet_31
  · have h := ifn c3 h
    refine v_iload_n C dX9_sheet_7 rfl rfl 2 rfl ?_
    refine v_i2l C dX9_sheet_8 rfl ?_
    refine v_ldc2 C dX9_sheet_9 rfl m_1304 ?_
    refine v_lconst C dX9_sheet_12 rfl (v := 1) (by decide) ?_
    obtain ⟨r5, e4, h⟩ := bdS h
    refine v_callSi C ys_X9_isIn m_949 (c_X9_isIn e4) (Sub.whole hD _ _) (As := [.long (Int32.toInt64 a2), .long (-1), .long 1]) rfl rfl (Nat.le_of_ble_eq_true rfl) ⟨Nat.le_of_ble_eq_true rfl, Nat.le_of_ble_eq_true rfl⟩ dX9_sheet_13 rfl ?_
    refine v_if_eq C dX9_sheet_16 (tgt := 29) (by decide) rfl (fun c6 => ?_) (fun c6 => ?_)
    · have h := ifp c6 h
      refine v_ldc C dX9_sheet_29 rfl m_953 ?_
      obtain rfl := Option.some.inj h
      exact RET _ _ dX9_sheet_31
    · have h := ifn c6 h
      refine v_iload_n C dX9_sheet_19 rfl rfl 2 rfl ?_
      refine v_if_lt C dX9_sheet_20 (tgt := 32) (by decide) rfl (fun c7 => ?_) (fun c7 => ?_)
      · have h := ifp c7 h
        refine v_iload_n C dX9_sheet_32 rfl rfl 2 rfl ?_
        refine v_if_lt C dX9_sheet_33 (tgt := 44) (by decide) rfl (fun c8 => ?_) (fun c8 => ?_)
        · have h := ifp c8 h
          exact wF_X9_sheet_44 C hD RET h
        · have h := ifn c8 h
          refine v_iload_n C dX9_sheet_36 rfl rfl 3 rfl ?_
          refine v_if_ge C dX9_sheet_37 (tgt := 44) (by decide) rfl (fun c9 => ?_) (fun c9 => ?_)
          · have h := ifp c9 h
            exact wF_X9_sheet_44 C hD RET h
          · have h := ifn c9 h
            refine v_ldcw C dX9_sheet_40 rfl m_1305 ?_
            obtain rfl := Option.some.inj h
            exact RET _ _ dX9_sheet_43
      · have h := ifn c7 h
        refine v_iload_n C dX9_sheet_23 rfl rfl 3 rfl ?_
        refine v_bipush C dX9_sheet_24 rfl bi_24 ?_
        refine v_icmp_le C dX9_sheet_26 (tgt := 32) (by decide) rfl (fun c10 => ?_) (fun c10 => ?_)
        · have h := ifp c10 h
          refine v_iload_n C dX9_sheet_32 rfl rfl 2 rfl ?_
          refine v_if_lt C dX9_sheet_33 (tgt := 44) (by decide) rfl (fun c11 => ?_) (fun c11 => ?_)
          · have h := ifp c11 h
            exact wF_X9_sheet_44 C hD RET h
          · have h := ifn c11 h
            refine v_iload_n C dX9_sheet_36 rfl rfl 3 rfl ?_
            refine v_if_ge C dX9_sheet_37 (tgt := 44) (by decide) rfl (fun c12 => ?_) (fun c12 => ?_)
            · have h := ifp c12 h
              exact wF_X9_sheet_44 C hD RET h
            · have h := ifn c12 h
              refine v_ldcw C dX9_sheet_40 rfl m_1305 ?_
              obtain rfl := Option.some.inj h
              exact RET _ _ dX9_sheet_43
        · have h := ifn c10 h
          refine v_ldc C dX9_sheet_29 rfl m_953 ?_
          obtain rfl := Option.some.inj h
          exact RET _ _ dX9_sheet_31
def C_X9_sheet (a1 : Int32) (a2 : Int32) (a3 : Int32) (K : Mem) : Option (Int32 × Mem) := F_X9_sheet_0 a1 a2 a3 K
set_option maxRecDepth 100000 in
theorem c_X9_sheet {l : Launch} {D : va_G} {cA : FieldType → ClassId} {X : Ex} {ad : Nat → Nat} {a1 : Int32} {a2 : Int32} {a3 : Int32} {K : Mem} {r : Int32} {K' : Mem} (h : C_X9_sheet a1 a2 a3 K = some (r, K')) : MI l D cA X yX9_sheet cX9_sheet 5 (some .int) 2 45 [.ref (ad 0), .int a1, .int a2, .int a3] (wd cA ad K 0 shsR) (wd cA ad K' 0 shsR) r :=
  mI_of (by decide +kernel) (Nat.le_of_ble_eq_true rfl) (fun G h1 h2 h3 h4 C hD RET => by subst h1 h2 h3 h4; exact wF_X9_sheet_0 C (fun K' => wd_D K' hD) RET  h)
def F_X9_mark_96 (a1 : Int32) (a2 : Int32) (a3 : Int32) (K : Mem) : Option (Int32 × Mem) :=
  gd (inb a1 4) <|
  if (K 4 (Int32.toNatClampNeg a1)) = 0 then (
    gd (inb ((24 * a1) + a2) 96) <|
    nm (up K 6 (Int32.toNatClampNeg ((24 * a1) + a2)) (jshr (jshl a3 16) 16)) fun K24 =>
    some (1, K24)
  ) else (
    gd (inb ((24 * a1) + a2) 96) <|
    nm (up K 6 (Int32.toNatClampNeg ((24 * a1) + a2)) a3) fun K22 =>
    some (1, K22)
  )
set_option maxRecDepth 100000 in
set_option maxHeartbeats 4000000 in
theorem wF_X9_mark_96 {G : Ctx} {ad : Nat → Nat} (C : Cx G RX9 cX9_mark 4 2 45) (hD : ∀ K, va_D (gA G) (wd (gC G) ad K 0 shsR)) {res : (Int32 × Mem)} (RET : RI G cX9_mark 4 (wd (gC G) ad res.2 0 shsR) res.1) {a1 : Int32} {a2 : Int32} {a3 : Int32} {K : Mem} (h : F_X9_mark_96 a1 a2 a3 K = some res) : V G 4 (wd (gC G) ad K 0 shsR) 96 [(0, .ref (ad 0)), (1, .int a1), (2, .int a2), (3, .int a3)] [] := by
  unfold F_X9_mark_96 at h
  refine v_aload_n C dX9_mark_96 rfl rfl 0 rfl ?_
  refine v_getr C dX9_mark_97 rfl ff_X9_25 sr_0 rfl ?_
  refine v_bipush C dX9_mark_100 rfl bi_24 ?_
  refine v_iload_n C dX9_mark_102 rfl rfl 1 rfl ?_
  refine v_imul C dX9_mark_103 rfl ?_
  refine v_iload_n C dX9_mark_104 rfl rfl 2 rfl ?_
  refine v_iadd C dX9_mark_105 rfl ?_
  refine v_aload_n C dX9_mark_106 rfl rfl 0 rfl ?_
  refine v_getr C dX9_mark_107 rfl ff_X9_19 sr_0 rfl ?_
  refine v_iload_n C dX9_mark_110 rfl rfl 1 rfl ?_
  obtain ⟨b19, h⟩ := gdS h
  refine v_iald C dX9_mark_111 rfl sr_4 b19 ?_
  refine v_if_ne C dX9_mark_112 (tgt := 125) (by decide) rfl (fun c20 => ?_) (fun c20 => ?_)
  · have h := ifn c20 h
    refine v_iload_n C dX9_mark_125 rfl rfl 3 rfl ?_
    obtain ⟨b21, h⟩ := gdS h
    obtain ⟨K22, eK22, h⟩ := nmS h
    refine v_iast C hD dX9_mark_126 rfl sr_6 b21 eK22 ?_
    refine v_iconst C dX9_mark_127 rfl ic_1 ?_
    obtain rfl := Option.some.inj h
    exact RET _ _ dX9_mark_128
  · have h := ifp c20 h
    refine v_iload_n C dX9_mark_115 rfl rfl 3 rfl ?_
    refine v_bipush C dX9_mark_116 rfl bi_16 ?_
    refine v_ishl C dX9_mark_118 rfl ?_
    refine v_bipush C dX9_mark_119 rfl bi_16 ?_
    refine v_ishr C dX9_mark_121 rfl ?_
    refine v_goto C dX9_mark_122 (tgt := 126) (by decide) ?_
    obtain ⟨b23, h⟩ := gdS h
    obtain ⟨K24, eK24, h⟩ := nmS h
    refine v_iast C hD dX9_mark_126 rfl sr_6 b23 eK24 ?_
    refine v_iconst C dX9_mark_127 rfl ic_1 ?_
    obtain rfl := Option.some.inj h
    exact RET _ _ dX9_mark_128
def F_X9_mark_63 (a1 : Int32) (a2 : Int32) (a3 : Int32) (K : Mem) : Option (Int32 × Mem) :=
  gd (inb a1 4) <|
  if (K 4 (Int32.toNatClampNeg a1)) = 1 then (
    if a3 = (-1000000005) then (
      F_X9_mark_96 a1 a2 a3 K
    ) else (
      bd (C_X9_isIn (Int32.toInt64 a3) (-99999) 99999) fun r17 =>
      if r17 = 0 then (
        some ((-1000000001), K)
      ) else (
        F_X9_mark_96 a1 a2 a3 K
      )
    )
  ) else (
    F_X9_mark_96 a1 a2 a3 K
  )
set_option maxRecDepth 100000 in
set_option maxHeartbeats 4000000 in
theorem wF_X9_mark_63 {G : Ctx} {ad : Nat → Nat} (C : Cx G RX9 cX9_mark 4 2 45) (hD : ∀ K, va_D (gA G) (wd (gC G) ad K 0 shsR)) {res : (Int32 × Mem)} (RET : RI G cX9_mark 4 (wd (gC G) ad res.2 0 shsR) res.1) {a1 : Int32} {a2 : Int32} {a3 : Int32} {K : Mem} (h : F_X9_mark_63 a1 a2 a3 K = some res) : V G 4 (wd (gC G) ad K 0 shsR) 63 [(0, .ref (ad 0)), (1, .int a1), (2, .int a2), (3, .int a3)] [] := by
  unfold F_X9_mark_63 at h
  refine v_aload_n C dX9_mark_63 rfl rfl 0 rfl ?_
  refine v_getr C dX9_mark_64 rfl ff_X9_19 sr_0 rfl ?_
  refine v_iload_n C dX9_mark_67 rfl rfl 1 rfl ?_
  obtain ⟨b13, h⟩ := gdS h
  refine v_iald C dX9_mark_68 rfl sr_4 b13 ?_
  refine v_iconst C dX9_mark_69 rfl ic_1 ?_
  refine v_icmp_ne C dX9_mark_70 (tgt := 96) (by decide) rfl (fun c14 => ?_) (fun c14 => ?_)
  · have h := ifn c14 h
    exact wF_X9_mark_96 C hD RET h
  · have h := ifp c14 h
    refine v_iload_n C dX9_mark_73 rfl rfl 3 rfl ?_
    refine v_ldc C dX9_mark_74 rfl m_1145 ?_
    refine v_icmp_eq C dX9_mark_76 (tgt := 96) (by decide) rfl (fun c15 => ?_) (fun c15 => ?_)
    · have h := ifp c15 h
      exact wF_X9_mark_96 C hD RET h
    · have h := ifn c15 h
      refine v_iload_n C dX9_mark_79 rfl rfl 3 rfl ?_
      refine v_i2l C dX9_mark_80 rfl ?_
      refine v_ldc2 C dX9_mark_81 rfl m_1312 ?_
      refine v_ldc2 C dX9_mark_84 rfl m_1313 ?_
      obtain ⟨r17, e16, h⟩ := bdS h
      refine v_callSi C ys_X9_isIn m_949 (c_X9_isIn e16) (Sub.whole hD _ _) (As := [.long (Int32.toInt64 a3), .long (-99999), .long 99999]) rfl rfl (Nat.le_of_ble_eq_true rfl) ⟨Nat.le_of_ble_eq_true rfl, Nat.le_of_ble_eq_true rfl⟩ dX9_mark_87 rfl ?_
      refine v_if_ne C dX9_mark_90 (tgt := 96) (by decide) rfl (fun c18 => ?_) (fun c18 => ?_)
      · have h := ifn c18 h
        exact wF_X9_mark_96 C hD RET h
      · have h := ifp c18 h
        refine v_ldc C dX9_mark_93 rfl m_953 ?_
        obtain rfl := Option.some.inj h
        exact RET _ _ dX9_mark_95
def F_X9_mark_0 (a1 : Int32) (a2 : Int32) (a3 : Int32) (K : Mem) : Option (Int32 × Mem) :=
  bd (C_X9_isSheet a1) fun r2 =>
  if r2 = 0 then (
    some ((-1000000001), K)
  ) else (
    gd (inb a1 4) <|
    if 0 ≤ (K 4 (Int32.toNatClampNeg a1)) then (
      gd (inb a1 4) <|
      bd (C_X9_isIn (Int32.toInt64 a2) 0 (Int32.toInt64 ((K 5 (Int32.toNatClampNeg a1)) - 1))) fun r8 =>
      if r8 = 0 then (
        some ((-1000000013), K)
      ) else (
        gd (inb a1 4) <|
        if (K 4 (Int32.toNatClampNeg a1)) = 0 then (
          if a3 = (-1000000005) then (
            some ((-1000000012), K)
          ) else (
            F_X9_mark_63 a1 a2 a3 K
          )
        ) else (
          F_X9_mark_63 a1 a2 a3 K
        )
      )
    ) else (
      some ((-1000000011), K)
    )
  )
set_option maxRecDepth 100000 in
set_option maxHeartbeats 4000000 in
theorem wF_X9_mark_0 {G : Ctx} {ad : Nat → Nat} (C : Cx G RX9 cX9_mark 4 2 45) (hD : ∀ K, va_D (gA G) (wd (gC G) ad K 0 shsR)) {res : (Int32 × Mem)} (RET : RI G cX9_mark 4 (wd (gC G) ad res.2 0 shsR) res.1) {a1 : Int32} {a2 : Int32} {a3 : Int32} {K : Mem} (h : F_X9_mark_0 a1 a2 a3 K = some res) : V G 4 (wd (gC G) ad K 0 shsR) 0 [(0, .ref (ad 0)), (1, .int a1), (2, .int a2), (3, .int a3)] [] := by
  unfold F_X9_mark_0 at h
  refine v_iload_n C dX9_mark_0 rfl rfl 1 rfl ?_
  obtain ⟨r2, e1, h⟩ := bdS h
  refine v_callSi C ys_X9_isSheet m_1300 (c_X9_isSheet e1) (Sub.whole hD _ _) (As := [.int a1]) rfl rfl (Nat.le_of_ble_eq_true rfl) ⟨Nat.le_of_ble_eq_true rfl, Nat.le_of_ble_eq_true rfl⟩ dX9_mark_1 rfl ?_
  refine v_if_ne C dX9_mark_4 (tgt := 10) (by decide) rfl (fun c3 => ?_) (fun c3 => ?_)
  · have h := ifn c3 h
    refine v_aload_n C dX9_mark_10 rfl rfl 0 rfl ?_
    refine v_getr C dX9_mark_11 rfl ff_X9_19 sr_0 rfl ?_
    refine v_iload_n C dX9_mark_14 rfl rfl 1 rfl ?_
    obtain ⟨b4, h⟩ := gdS h
    refine v_iald C dX9_mark_15 rfl sr_4 b4 ?_
    refine v_if_ge C dX9_mark_16 (tgt := 23) (by decide) rfl (fun c5 => ?_) (fun c5 => ?_)
    · have h := ifp c5 h
      refine v_iload_n C dX9_mark_23 rfl rfl 2 rfl ?_
      refine v_i2l C dX9_mark_24 rfl ?_
      refine v_lconst C dX9_mark_25 rfl (v := 0) (by decide) ?_
      refine v_aload_n C dX9_mark_26 rfl rfl 0 rfl ?_
      refine v_getr C dX9_mark_27 rfl ff_X9_22 sr_0 rfl ?_
      refine v_iload_n C dX9_mark_30 rfl rfl 1 rfl ?_
      obtain ⟨b6, h⟩ := gdS h
      refine v_iald C dX9_mark_31 rfl sr_5 b6 ?_
      refine v_iconst C dX9_mark_32 rfl ic_1 ?_
      refine v_isub C dX9_mark_33 rfl ?_
      refine v_i2l C dX9_mark_34 rfl ?_
      obtain ⟨r8, e7, h⟩ := bdS h
      refine v_callSi C ys_X9_isIn m_949 (c_X9_isIn e7) (Sub.whole hD _ _) (As := [.long (Int32.toInt64 a2), .long 0, .long (Int32.toInt64 ((K 5 (Int32.toNatClampNeg a1)) - 1))]) rfl rfl (Nat.le_of_ble_eq_true rfl) ⟨Nat.le_of_ble_eq_true rfl, Nat.le_of_ble_eq_true rfl⟩ dX9_mark_35 rfl ?_
      refine v_if_ne C dX9_mark_38 (tgt := 45) (by decide) rfl (fun c9 => ?_) (fun c9 => ?_)
      · have h := ifn c9 h
        refine v_aload_n C dX9_mark_45 rfl rfl 0 rfl ?_
        refine v_getr C dX9_mark_46 rfl ff_X9_19 sr_0 rfl ?_
        refine v_iload_n C dX9_mark_49 rfl rfl 1 rfl ?_
        obtain ⟨b10, h⟩ := gdS h
        refine v_iald C dX9_mark_50 rfl sr_4 b10 ?_
        refine v_if_ne C dX9_mark_51 (tgt := 63) (by decide) rfl (fun c11 => ?_) (fun c11 => ?_)
        · have h := ifn c11 h
          exact wF_X9_mark_63 C hD RET h
        · have h := ifp c11 h
          refine v_iload_n C dX9_mark_54 rfl rfl 3 rfl ?_
          refine v_ldc C dX9_mark_55 rfl m_1145 ?_
          refine v_icmp_ne C dX9_mark_57 (tgt := 63) (by decide) rfl (fun c12 => ?_) (fun c12 => ?_)
          · have h := ifn c12 h
            exact wF_X9_mark_63 C hD RET h
          · have h := ifp c12 h
            refine v_ldc C dX9_mark_60 rfl m_1032 ?_
            obtain rfl := Option.some.inj h
            exact RET _ _ dX9_mark_62
      · have h := ifp c9 h
        refine v_ldcw C dX9_mark_41 rfl m_1311 ?_
        obtain rfl := Option.some.inj h
        exact RET _ _ dX9_mark_44
    · have h := ifn c5 h
      refine v_ldcw C dX9_mark_19 rfl m_1310 ?_
      obtain rfl := Option.some.inj h
      exact RET _ _ dX9_mark_22
  · have h := ifp c3 h
    refine v_ldc C dX9_mark_7 rfl m_953 ?_
    obtain rfl := Option.some.inj h
    exact RET _ _ dX9_mark_9
def C_X9_mark (a1 : Int32) (a2 : Int32) (a3 : Int32) (K : Mem) : Option (Int32 × Mem) := F_X9_mark_0 a1 a2 a3 K
set_option maxRecDepth 100000 in
theorem c_X9_mark {l : Launch} {D : va_G} {cA : FieldType → ClassId} {X : Ex} {ad : Nat → Nat} {a1 : Int32} {a2 : Int32} {a3 : Int32} {K : Mem} {r : Int32} {K' : Mem} (h : C_X9_mark a1 a2 a3 K = some (r, K')) : MI l D cA X yX9_mark cX9_mark 4 (some .int) 2 45 [.ref (ad 0), .int a1, .int a2, .int a3] (wd cA ad K 0 shsR) (wd cA ad K' 0 shsR) r :=
  mI_of (by decide +kernel) (Nat.le_of_ble_eq_true rfl) (fun G h1 h2 h3 h4 C hD RET => by subst h1 h2 h3 h4; exact wF_X9_mark_0 C (fun K' => wd_D K' hD) RET  h)
def F_X9_pour_90 (k27 : Int32 → Int32 → Int32 → Mem → Option (Int32 × Mem)) (a1 : Int32) (a2 : Int32) (a3 : Int32) (t0 : Int32) (K : Mem) : Option (Int32 × Mem) :=
  bd2 (C_X9_changes ((10 + (4 * a3)) + 2) t0 K) fun r18 K17 =>
  if t0 = r18 then (
    nm (a2 + 0) fun v22 =>
    nm (a3 + 1) fun v23 =>
    k27 a1 v22 v23 K17
  ) else (
    nm (a2 + 1) fun v20 =>
    nm (a3 + 1) fun v21 =>
    k27 a1 v20 v21 K17
  )
set_option maxRecDepth 100000 in
set_option maxHeartbeats 4000000 in
theorem wF_X9_pour_90 {G : Ctx} {ad : Nat → Nat} {k27 : Int32 → Int32 → Int32 → Mem → Option (Int32 × Mem)} (C : Cx G RX9 cX9_pour 6 2 45) (hD : ∀ K, va_D (gA G) (wd (gC G) ad K 0 shsR)) {res : (Int32 × Mem)} (RET : RI G cX9_pour 6 (wd (gC G) ad res.2 0 shsR) res.1) (hk27 : ∀ {a1 : Int32} {a2 : Int32} {a3 : Int32} {K : Mem} , k27 a1 a2 a3 K = some res → V G 6 (wd (gC G) ad K 0 shsR) 27 [(0, .ref (ad 0)), (1, .int a1), (2, .int a2), (3, .int a3)] []) {a1 : Int32} {a2 : Int32} {a3 : Int32} {t0 : Int32} {K : Mem} (h : F_X9_pour_90 k27 a1 a2 a3 t0 K = some res) : V G 6 (wd (gC G) ad K 0 shsR) 90 [(0, .ref (ad 0)), (1, .int a1), (2, .int a2), (3, .int a3)] [.int t0] := by
  unfold F_X9_pour_90 at h
  refine v_istore C dX9_pour_90 rfl (by decide) (L' := [(5, .int t0), (0, .ref (ad 0)), (1, .int a1), (2, .int a2), (3, .int a3)]) rfl ?_
  refine v_iload_n C dX9_pour_92 rfl rfl 3 rfl ?_
  refine v_iload C dX9_pour_93 rfl 0 rfl ?_
  refine v_aload_n C dX9_pour_95 rfl rfl 1 rfl ?_
  refine v_bipush C dX9_pour_96 rfl bi_10 ?_
  refine v_iconst C dX9_pour_98 rfl ic_4 ?_
  refine v_iload_n C dX9_pour_99 rfl rfl 4 rfl ?_
  refine v_imul C dX9_pour_100 rfl ?_
  refine v_iadd C dX9_pour_101 rfl ?_
  refine v_iconst C dX9_pour_102 rfl ic_2 ?_
  refine v_iadd C dX9_pour_103 rfl ?_
  refine v_iload C dX9_pour_104 rfl 0 rfl ?_
  obtain ⟨r18, K17, e16, h⟩ := bd2S h
  refine v_callVi C yv_X9_changes m_1037 (c_X9_changes e16) (Sub.whole hD _ _) ⟨_, _, _, _, _, wd_at sr_0, rfl⟩ (As := [.int ((10 + (4 * a3)) + 2), .int t0]) rfl rfl (Nat.le_of_ble_eq_true rfl) ⟨Nat.le_of_ble_eq_true rfl, Nat.le_of_ble_eq_true rfl⟩ dX9_pour_106 rfl ?_
  refine v_icmp_ne C dX9_pour_109 (tgt := 116) (by decide) rfl (fun c19 => ?_) (fun c19 => ?_)
  · have h := ifn c19 h
    refine v_iconst C dX9_pour_116 rfl ic_1 ?_
    refine v_iadd C dX9_pour_117 rfl ?_
    obtain ⟨v20, ev20, h⟩ := nmS h
    refine v_nmi ev20 ?_
    refine v_istore_n C dX9_pour_118 rfl rfl (by decide) (L' := [(2, .int v20), (5, .int t0), (0, .ref (ad 0)), (1, .int a1), (3, .int a3)]) rfl ?_
    obtain ⟨v21, ev21, h⟩ := nmS h
    refine v_iinc C dX9_pour_119 rfl 4 rfl (v := v21) (by rw [ev21]; rfl) (by decide) (L' := [(3, .int v21), (2, .int v20), (5, .int t0), (0, .ref (ad 0)), (1, .int a1)]) rfl ?_
    refine v_goto C dX9_pour_122 (tgt := 27) (by decide) ?_
    refine v_sub [3, 4, 1, 0] rfl ?_
    exact hk27 h
  · have h := ifp c19 h
    refine v_iconst C dX9_pour_112 rfl ic_0 ?_
    refine v_goto C dX9_pour_113 (tgt := 117) (by decide) ?_
    refine v_iadd C dX9_pour_117 rfl ?_
    obtain ⟨v22, ev22, h⟩ := nmS h
    refine v_nmi ev22 ?_
    refine v_istore_n C dX9_pour_118 rfl rfl (by decide) (L' := [(2, .int v22), (5, .int t0), (0, .ref (ad 0)), (1, .int a1), (3, .int a3)]) rfl ?_
    obtain ⟨v23, ev23, h⟩ := nmS h
    refine v_iinc C dX9_pour_119 rfl 4 rfl (v := v23) (by rw [ev23]; rfl) (by decide) (L' := [(3, .int v23), (2, .int v22), (5, .int t0), (0, .ref (ad 0)), (1, .int a1)]) rfl ?_
    refine v_goto C dX9_pour_122 (tgt := 27) (by decide) ?_
    refine v_sub [3, 4, 1, 0] rfl ?_
    exact hk27 h
def F_X9_pour_27 (k27 : Int32 → Int32 → Int32 → Mem → Option (Int32 × Mem)) (a1 : Int32) (a2 : Int32) (a3 : Int32) (K : Mem) : Option (Int32 × Mem) :=
  gd (inb a1 4) <|
  if (K 5 (Int32.toNatClampNeg a1)) ≤ a3 then (
    some (a2, K)
  ) else (
    gd (inb 0 3058) <|
    if (K 1 (Int32.toNatClampNeg 0)) ≤ a3 then (
      some (a2, K)
    ) else (
      gd (inb ((24 * a1) + a3) 96) <|
      nm (K 6 (Int32.toNatClampNeg ((24 * a1) + a3))) fun v11 =>
      if v11 = (-1000000005) then (
        gd (inb ((10 + (4 * a3)) + 2) 3058) <|
        F_X9_pour_90 k27 a1 a2 a3 (K 1 (Int32.toNatClampNeg ((10 + (4 * a3)) + 2))) K
      ) else (
        bd (C_X9_within v11 99) fun r14 =>
        F_X9_pour_90 k27 a1 a2 a3 r14 K
      )
    )
  )
def L_X9_pour_27 : Nat → Int32 → Int32 → Int32 → Mem → Option (Int32 × Mem)
  | 0, _, _, _, _ => none
  | n + 1, a1, a2, a3, K => F_X9_pour_27 (fun a1 a2 a3 K => L_X9_pour_27 n a1 a2 a3 K) a1 a2 a3 K
set_option maxRecDepth 100000 in
set_option maxHeartbeats 4000000 in
theorem wF_X9_pour_27 {G : Ctx} {ad : Nat → Nat} {k27 : Int32 → Int32 → Int32 → Mem → Option (Int32 × Mem)} (C : Cx G RX9 cX9_pour 6 2 45) (hD : ∀ K, va_D (gA G) (wd (gC G) ad K 0 shsR)) {res : (Int32 × Mem)} (RET : RI G cX9_pour 6 (wd (gC G) ad res.2 0 shsR) res.1) (hk27 : ∀ {a1 : Int32} {a2 : Int32} {a3 : Int32} {K : Mem} , k27 a1 a2 a3 K = some res → V G 6 (wd (gC G) ad K 0 shsR) 27 [(0, .ref (ad 0)), (1, .int a1), (2, .int a2), (3, .int a3)] []) {a1 : Int32} {a2 : Int32} {a3 : Int32} {K : Mem} (h : F_X9_pour_27 k27 a1 a2 a3 K = some res) : V G 6 (wd (gC G) ad K 0 shsR) 27 [(0, .ref (ad 0)), (1, .int a1), (2, .int a2), (3, .int a3)] [] := by
  unfold F_X9_pour_27 at h
  refine v_iload_n C dX9_pour_27 rfl rfl 3 rfl ?_
  refine v_aload_n C dX9_pour_28 rfl rfl 0 rfl ?_
  refine v_getr C dX9_pour_29 rfl ff_X9_22 sr_0 rfl ?_
  refine v_iload_n C dX9_pour_32 rfl rfl 1 rfl ?_
  obtain ⟨b6, h⟩ := gdS h
  refine v_iald C dX9_pour_33 rfl sr_5 b6 ?_
  refine v_icmp_ge C dX9_pour_34 (tgt := 125) (by decide) rfl (fun c7 => ?_) (fun c7 => ?_)
  · have h := ifp c7 h
    refine v_iload_n C dX9_pour_125 rfl rfl 2 rfl ?_
    obtain rfl := Option.some.inj h
    exact RET _ _ dX9_pour_126
  · have h := ifn c7 h
    refine v_iload_n C dX9_pour_37 rfl rfl 3 rfl ?_
    refine v_aload_n C dX9_pour_38 rfl rfl 0 rfl ?_
    refine v_getr C dX9_pour_39 rfl ff_X9_7 sr_0 rfl ?_
    refine v_iconst C dX9_pour_42 rfl ic_0 ?_
    obtain ⟨b8, h⟩ := gdS h
    refine v_iald C dX9_pour_43 rfl sr_1 b8 ?_
    refine v_icmp_ge C dX9_pour_44 (tgt := 125) (by decide) rfl (fun c9 => ?_) (fun c9 => ?_)
    · have h := ifp c9 h
      refine v_iload_n C dX9_pour_125 rfl rfl 2 rfl ?_
      obtain rfl := Option.some.inj h
      exact RET _ _ dX9_pour_126
    · have h := ifn c9 h
      refine v_aload_n C dX9_pour_47 rfl rfl 0 rfl ?_
      refine v_getr C dX9_pour_48 rfl ff_X9_25 sr_0 rfl ?_
      refine v_bipush C dX9_pour_51 rfl bi_24 ?_
      refine v_iload_n C dX9_pour_53 rfl rfl 1 rfl ?_
      refine v_imul C dX9_pour_54 rfl ?_
      refine v_iload_n C dX9_pour_55 rfl rfl 3 rfl ?_
      refine v_iadd C dX9_pour_56 rfl ?_
      obtain ⟨b10, h⟩ := gdS h
      refine v_iald C dX9_pour_57 rfl sr_6 b10 ?_
      obtain ⟨v11, ev11, h⟩ := nmS h
      refine v_nmi ev11 ?_
      refine v_istore C dX9_pour_58 rfl (by decide) (L' := [(4, .int v11), (0, .ref (ad 0)), (1, .int a1), (2, .int a2), (3, .int a3)]) rfl ?_
      refine v_iload C dX9_pour_60 rfl 0 rfl ?_
      refine v_ldc C dX9_pour_62 rfl m_1145 ?_
      refine v_icmp_ne C dX9_pour_64 (tgt := 83) (by decide) rfl (fun c12 => ?_) (fun c12 => ?_)
      · have h := ifn c12 h
        refine v_iload C dX9_pour_83 rfl 0 rfl ?_
        refine v_bipush C dX9_pour_85 rfl bi_99 ?_
        obtain ⟨r14, e13, h⟩ := bdS h
        refine v_callSi C ys_X9_within m_1014 (c_X9_within e13) (Sub.whole hD _ _) (As := [.int v11, .int 99]) rfl rfl (Nat.le_of_ble_eq_true rfl) ⟨Nat.le_of_ble_eq_true rfl, Nat.le_of_ble_eq_true rfl⟩ dX9_pour_87 rfl ?_
        refine v_sub [1, 2, 3, 4] rfl ?_
        exact wF_X9_pour_90 C hD RET hk27 h
      · have h := ifp c12 h
        refine v_aload_n C dX9_pour_67 rfl rfl 1 rfl ?_
        refine v_getr C dX9_pour_68 rfl ff_X9_7 sr_0 rfl ?_
        refine v_bipush C dX9_pour_71 rfl bi_10 ?_
        refine v_iconst C dX9_pour_73 rfl ic_4 ?_
        refine v_iload_n C dX9_pour_74 rfl rfl 4 rfl ?_
        refine v_imul C dX9_pour_75 rfl ?_
        refine v_iadd C dX9_pour_76 rfl ?_
        refine v_iconst C dX9_pour_77 rfl ic_2 ?_
        refine v_iadd C dX9_pour_78 rfl ?_
        obtain ⟨b15, h⟩ := gdS h
        refine v_iald C dX9_pour_79 rfl sr_1 b15 ?_
        refine v_goto C dX9_pour_80 (tgt := 90) (by decide) ?_
        refine v_sub [1, 2, 3, 4] rfl ?_
        exact wF_X9_pour_90 C hD RET hk27 h
theorem wL_X9_pour_27 {G : Ctx} {ad : Nat → Nat} (C : Cx G RX9 cX9_pour 6 2 45) (hD : ∀ K, va_D (gA G) (wd (gC G) ad K 0 shsR)) {res : (Int32 × Mem)} (RET : RI G cX9_pour 6 (wd (gC G) ad res.2 0 shsR) res.1) : ∀ (n : Nat) {a1 : Int32} {a2 : Int32} {a3 : Int32} {K : Mem} (h : L_X9_pour_27 n a1 a2 a3 K = some res), V G 6 (wd (gC G) ad K 0 shsR) 27 [(0, .ref (ad 0)), (1, .int a1), (2, .int a2), (3, .int a3)] [] := by
  intro n
  induction n with
  | zero =>
    intro a1 a2 a3 K h
    cases (show (none : Option (Int32 × Mem)) = some res from h)
  | succ n ih =>
    intro a1 a2 a3 K h
    exact wF_X9_pour_27 (k27 := fun a1 a2 a3 K => L_X9_pour_27  n a1 a2 a3 K) C hD RET (fun h => ih h) h
def F_X9_pour_0 (a1 : Int32) (K : Mem) : Option (Int32 × Mem) :=
  bd (C_X9_isSheet a1) fun r2 =>
  if r2 = 0 then (
    some ((-1000000001), K)
  ) else (
    gd (inb a1 4) <|
    if 0 ≤ (K 4 (Int32.toNatClampNeg a1)) then (
      L_X9_pour_27 FU a1 0 0 K
    ) else (
      some ((-1000000011), K)
    )
  )
set_option maxRecDepth 100000 in
set_option maxHeartbeats 4000000 in
theorem wF_X9_pour_0 {G : Ctx} {ad : Nat → Nat} (C : Cx G RX9 cX9_pour 6 2 45) (hD : ∀ K, va_D (gA G) (wd (gC G) ad K 0 shsR)) {res : (Int32 × Mem)} (RET : RI G cX9_pour 6 (wd (gC G) ad res.2 0 shsR) res.1) {a1 : Int32} {K : Mem} (h : F_X9_pour_0 a1 K = some res) : V G 6 (wd (gC G) ad K 0 shsR) 0 [(0, .ref (ad 0)), (1, .int a1)] [] := by
  unfold F_X9_pour_0 at h
  refine v_iload_n C dX9_pour_0 rfl rfl 1 rfl ?_
  obtain ⟨r2, e1, h⟩ := bdS h
  refine v_callSi C ys_X9_isSheet m_1300 (c_X9_isSheet e1) (Sub.whole hD _ _) (As := [.int a1]) rfl rfl (Nat.le_of_ble_eq_true rfl) ⟨Nat.le_of_ble_eq_true rfl, Nat.le_of_ble_eq_true rfl⟩ dX9_pour_1 rfl ?_
  refine v_if_ne C dX9_pour_4 (tgt := 10) (by decide) rfl (fun c3 => ?_) (fun c3 => ?_)
  · have h := ifn c3 h
    refine v_aload_n C dX9_pour_10 rfl rfl 0 rfl ?_
    refine v_getr C dX9_pour_11 rfl ff_X9_19 sr_0 rfl ?_
    refine v_iload_n C dX9_pour_14 rfl rfl 1 rfl ?_
    obtain ⟨b4, h⟩ := gdS h
    refine v_iald C dX9_pour_15 rfl sr_4 b4 ?_
    refine v_if_ge C dX9_pour_16 (tgt := 23) (by decide) rfl (fun c5 => ?_) (fun c5 => ?_)
    · have h := ifp c5 h
      refine v_iconst C dX9_pour_23 rfl ic_0 ?_
      refine v_istore_n C dX9_pour_24 rfl rfl (by decide) (L' := [(2, .int 0), (0, .ref (ad 0)), (1, .int a1)]) rfl ?_
      refine v_iconst C dX9_pour_25 rfl ic_0 ?_
      refine v_istore_n C dX9_pour_26 rfl rfl (by decide) (L' := [(3, .int 0), (2, .int 0), (0, .ref (ad 0)), (1, .int a1)]) rfl ?_
      refine v_sub [2, 3, 1, 0] rfl ?_
      exact wL_X9_pour_27 C hD RET FU h
    · have h := ifn c5 h
      refine v_ldcw C dX9_pour_19 rfl m_1310 ?_
      obtain rfl := Option.some.inj h
      exact RET _ _ dX9_pour_22
  · have h := ifp c3 h
    refine v_ldc C dX9_pour_7 rfl m_953 ?_
    obtain rfl := Option.some.inj h
    exact RET _ _ dX9_pour_9
def C_X9_pour (a1 : Int32) (K : Mem) : Option (Int32 × Mem) := F_X9_pour_0 a1 K
set_option maxRecDepth 100000 in
theorem c_X9_pour {l : Launch} {D : va_G} {cA : FieldType → ClassId} {X : Ex} {ad : Nat → Nat} {a1 : Int32} {K : Mem} {r : Int32} {K' : Mem} (h : C_X9_pour a1 K = some (r, K')) : MI l D cA X yX9_pour cX9_pour 6 (some .int) 2 45 [.ref (ad 0), .int a1] (wd cA ad K 0 shsR) (wd cA ad K' 0 shsR) r :=
  mI_of (by decide +kernel) (Nat.le_of_ble_eq_true rfl) (fun G h1 h2 h3 h4 C hD RET => by subst h1 h2 h3 h4; exact wF_X9_pour_0 C (fun K' => wd_D K' hD) RET  h)
def F_X9_reads_25 (k25 : Int32 → Int32 → Option Int32) (K : Mem) (a1 : Int32) (a2 : Int32) : Option Int32 :=
  gd (inb a1 4) <|
  if (K 5 (Int32.toNatClampNeg a1)) ≤ a2 then (
    some (-1000000005)
  ) else (
    gd (inb ((24 * a1) + a2) 96) <|
    nm (K 6 (Int32.toNatClampNeg ((24 * a1) + a2))) fun v9 =>
    if v9 = (-1000000005) then (
      nm (a2 + 1) fun v11 =>
      k25 a1 v11
    ) else (
      gd (inb 0 3058) <|
      if (K 1 (Int32.toNatClampNeg 0)) ≤ a2 then (
        some a2
      ) else (
        bd (C_X9_of K a2 1) fun r15 =>
        if v9 = r15 then (
          nm (a2 + 1) fun v17 =>
          k25 a1 v17
        ) else (
          some a2
        )
      )
    )
  )
def L_X9_reads_25 (K : Mem) : Nat → Int32 → Int32 → Option Int32
  | 0, _, _ => none
  | n + 1, a1, a2 => F_X9_reads_25 (fun a1 a2 => L_X9_reads_25 K n a1 a2) K a1 a2
set_option maxRecDepth 100000 in
set_option maxHeartbeats 4000000 in
theorem wF_X9_reads_25 {G : Ctx} {ad : Nat → Nat} {K : Mem} {k25 : Int32 → Int32 → Option Int32} (C : Cx G RX9 cX9_reads 4 2 45) (hD : ∀ K, va_D (gA G) (wd (gC G) ad K 0 shsR)) {res : Int32} (RET : RI G cX9_reads 4 (wd (gC G) ad K 0 shsR) res) (hk25 : ∀ {a1 : Int32} {a2 : Int32} , k25 a1 a2 = some res → V G 4 (wd (gC G) ad K 0 shsR) 25 [(0, .ref (ad 0)), (1, .int a1), (2, .int a2)] []) {a1 : Int32} {a2 : Int32} (h : F_X9_reads_25 k25 K a1 a2 = some res) : V G 4 (wd (gC G) ad K 0 shsR) 25 [(0, .ref (ad 0)), (1, .int a1), (2, .int a2)] [] := by
  unfold F_X9_reads_25 at h
  refine v_iload_n C dX9_reads_25 rfl rfl 2 rfl ?_
  refine v_aload_n C dX9_reads_26 rfl rfl 0 rfl ?_
  refine v_getr C dX9_reads_27 rfl ff_X9_22 sr_0 rfl ?_
  refine v_iload_n C dX9_reads_30 rfl rfl 1 rfl ?_
  obtain ⟨b6, h⟩ := gdS h
  refine v_iald C dX9_reads_31 rfl sr_5 b6 ?_
  refine v_icmp_ge C dX9_reads_32 (tgt := 81) (by decide) rfl (fun c7 => ?_) (fun c7 => ?_)
  · have h := ifp c7 h
    refine v_ldc C dX9_reads_81 rfl m_1145 ?_
    obtain rfl := Option.some.inj h
    exact RET _ _ dX9_reads_83
  · have h := ifn c7 h
    refine v_aload_n C dX9_reads_35 rfl rfl 0 rfl ?_
    refine v_getr C dX9_reads_36 rfl ff_X9_25 sr_0 rfl ?_
    refine v_bipush C dX9_reads_39 rfl bi_24 ?_
    refine v_iload_n C dX9_reads_41 rfl rfl 1 rfl ?_
    refine v_imul C dX9_reads_42 rfl ?_
    refine v_iload_n C dX9_reads_43 rfl rfl 2 rfl ?_
    refine v_iadd C dX9_reads_44 rfl ?_
    obtain ⟨b8, h⟩ := gdS h
    refine v_iald C dX9_reads_45 rfl sr_6 b8 ?_
    obtain ⟨v9, ev9, h⟩ := nmS h
    refine v_nmi ev9 ?_
    refine v_istore_n C dX9_reads_46 rfl rfl (by decide) (L' := [(3, .int v9), (0, .ref (ad 0)), (1, .int a1), (2, .int a2)]) rfl ?_
    refine v_iload_n C dX9_reads_47 rfl rfl 0 rfl ?_
    refine v_ldc C dX9_reads_48 rfl m_1145 ?_
    refine v_icmp_eq C dX9_reads_50 (tgt := 75) (by decide) rfl (fun c10 => ?_) (fun c10 => ?_)
    · have h := ifp c10 h
      obtain ⟨v11, ev11, h⟩ := nmS h
      refine v_iinc C dX9_reads_75 rfl 3 rfl (v := v11) (by rw [ev11]; rfl) (by decide) (L' := [(2, .int v11), (3, .int v9), (0, .ref (ad 0)), (1, .int a1)]) rfl ?_
      refine v_goto C dX9_reads_78 (tgt := 25) (by decide) ?_
      refine v_sub [2, 3, 0] rfl ?_
      exact hk25 h
    · have h := ifn c10 h
      refine v_iload_n C dX9_reads_53 rfl rfl 3 rfl ?_
      refine v_aload_n C dX9_reads_54 rfl rfl 1 rfl ?_
      refine v_getr C dX9_reads_55 rfl ff_X9_7 sr_0 rfl ?_
      refine v_iconst C dX9_reads_58 rfl ic_0 ?_
      obtain ⟨b12, h⟩ := gdS h
      refine v_iald C dX9_reads_59 rfl sr_1 b12 ?_
      refine v_icmp_ge C dX9_reads_60 (tgt := 73) (by decide) rfl (fun c13 => ?_) (fun c13 => ?_)
      · have h := ifp c13 h
        refine v_iload_n C dX9_reads_73 rfl rfl 3 rfl ?_
        obtain rfl := Option.some.inj h
        exact RET _ _ dX9_reads_74
      · have h := ifn c13 h
        refine v_iload_n C dX9_reads_63 rfl rfl 0 rfl ?_
        refine v_aload_n C dX9_reads_64 rfl rfl 1 rfl ?_
        refine v_iload_n C dX9_reads_65 rfl rfl 3 rfl ?_
        refine v_iconst C dX9_reads_66 rfl ic_1 ?_
        obtain ⟨r15, e14, h⟩ := bdS h
        refine v_callVi C yv_X9_of m_980 (c_X9_of e14) (Sub.whole hD _ _) ⟨_, _, _, _, _, wd_at sr_0, rfl⟩ (As := [.int a2, .int 1]) rfl rfl (Nat.le_of_ble_eq_true rfl) ⟨Nat.le_of_ble_eq_true rfl, Nat.le_of_ble_eq_true rfl⟩ dX9_reads_67 rfl ?_
        refine v_icmp_eq C dX9_reads_70 (tgt := 75) (by decide) rfl (fun c16 => ?_) (fun c16 => ?_)
        · have h := ifp c16 h
          obtain ⟨v17, ev17, h⟩ := nmS h
          refine v_iinc C dX9_reads_75 rfl 3 rfl (v := v17) (by rw [ev17]; rfl) (by decide) (L' := [(2, .int v17), (3, .int v9), (0, .ref (ad 0)), (1, .int a1)]) rfl ?_
          refine v_goto C dX9_reads_78 (tgt := 25) (by decide) ?_
          refine v_sub [2, 3, 0] rfl ?_
          exact hk25 h
        · have h := ifn c16 h
          refine v_iload_n C dX9_reads_73 rfl rfl 3 rfl ?_
          obtain rfl := Option.some.inj h
          exact RET _ _ dX9_reads_74
theorem wL_X9_reads_25 {G : Ctx} {ad : Nat → Nat} {K : Mem} (C : Cx G RX9 cX9_reads 4 2 45) (hD : ∀ K, va_D (gA G) (wd (gC G) ad K 0 shsR)) {res : Int32} (RET : RI G cX9_reads 4 (wd (gC G) ad K 0 shsR) res) : ∀ (n : Nat) {a1 : Int32} {a2 : Int32} (h : L_X9_reads_25 K n a1 a2 = some res), V G 4 (wd (gC G) ad K 0 shsR) 25 [(0, .ref (ad 0)), (1, .int a1), (2, .int a2)] [] := by
  intro n
  induction n with
  | zero =>
    intro a1 a2 h
    cases (show (none : Option Int32) = some res from h)
  | succ n ih =>
    intro a1 a2 h
    exact wF_X9_reads_25 (k25 := fun a1 a2 => L_X9_reads_25 K n a1 a2) C hD RET (fun h => ih h) h
def F_X9_reads_0 (K : Mem) (a1 : Int32) : Option Int32 :=
  bd (C_X9_isSheet a1) fun r2 =>
  if r2 = 0 then (
    some (-1000000001)
  ) else (
    gd (inb a1 4) <|
    if 0 ≤ (K 4 (Int32.toNatClampNeg a1)) then (
      L_X9_reads_25 K FU a1 0
    ) else (
      some (-1000000011)
    )
  )
set_option maxRecDepth 100000 in
set_option maxHeartbeats 4000000 in
theorem wF_X9_reads_0 {G : Ctx} {ad : Nat → Nat} {K : Mem} (C : Cx G RX9 cX9_reads 4 2 45) (hD : ∀ K, va_D (gA G) (wd (gC G) ad K 0 shsR)) {res : Int32} (RET : RI G cX9_reads 4 (wd (gC G) ad K 0 shsR) res) {a1 : Int32} (h : F_X9_reads_0 K a1 = some res) : V G 4 (wd (gC G) ad K 0 shsR) 0 [(0, .ref (ad 0)), (1, .int a1)] [] := by
  unfold F_X9_reads_0 at h
  refine v_iload_n C dX9_reads_0 rfl rfl 1 rfl ?_
  obtain ⟨r2, e1, h⟩ := bdS h
  refine v_callSi C ys_X9_isSheet m_1300 (c_X9_isSheet e1) (Sub.whole hD _ _) (As := [.int a1]) rfl rfl (Nat.le_of_ble_eq_true rfl) ⟨Nat.le_of_ble_eq_true rfl, Nat.le_of_ble_eq_true rfl⟩ dX9_reads_1 rfl ?_
  refine v_if_ne C dX9_reads_4 (tgt := 10) (by decide) rfl (fun c3 => ?_) (fun c3 => ?_)
  · have h := ifn c3 h
    refine v_aload_n C dX9_reads_10 rfl rfl 0 rfl ?_
    refine v_getr C dX9_reads_11 rfl ff_X9_19 sr_0 rfl ?_
    refine v_iload_n C dX9_reads_14 rfl rfl 1 rfl ?_
    obtain ⟨b4, h⟩ := gdS h
    refine v_iald C dX9_reads_15 rfl sr_4 b4 ?_
    refine v_if_ge C dX9_reads_16 (tgt := 23) (by decide) rfl (fun c5 => ?_) (fun c5 => ?_)
    · have h := ifp c5 h
      refine v_iconst C dX9_reads_23 rfl ic_0 ?_
      refine v_istore_n C dX9_reads_24 rfl rfl (by decide) (L' := [(2, .int 0), (0, .ref (ad 0)), (1, .int a1)]) rfl ?_
      refine v_sub [1, 2, 0] rfl ?_
      exact wL_X9_reads_25 C hD RET FU h
    · have h := ifn c5 h
      refine v_ldcw C dX9_reads_19 rfl m_1310 ?_
      obtain rfl := Option.some.inj h
      exact RET _ _ dX9_reads_22
  · have h := ifp c3 h
    refine v_ldc C dX9_reads_7 rfl m_953 ?_
    obtain rfl := Option.some.inj h
    exact RET _ _ dX9_reads_9
def C_X9_reads (K : Mem) (a1 : Int32) : Option Int32 := F_X9_reads_0 K a1
set_option maxRecDepth 100000 in
theorem c_X9_reads {l : Launch} {D : va_G} {cA : FieldType → ClassId} {X : Ex} {ad : Nat → Nat} {a1 : Int32} {K : Mem} {r : Int32} (h : C_X9_reads K a1 = some r) : MI l D cA X yX9_reads cX9_reads 4 (some .int) 2 45 [.ref (ad 0), .int a1] (wd cA ad K 0 shsR) (wd cA ad K 0 shsR) r :=
  mI_of (by decide +kernel) (Nat.le_of_ble_eq_true rfl) (fun G h1 h2 h3 h4 C hD RET => by subst h1 h2 h3 h4; exact wF_X9_reads_0 C (fun K' => wd_D K' hD) RET  h)
def F_X9_offBy_9 (k9 : Int32 → Int32 → Int32 → Int32 → Mem → Option (Int32 × Mem)) (a1 : Int32) (a2 : Int32) (a3 : Int32) (a4 : Int32) (K : Mem) : Option (Int32 × Mem) :=
  gd (inb a1 4) <|
  if (K 5 (Int32.toNatClampNeg a1)) ≤ a4 then (
    bd (C_X9_laysBack K) fun K6 =>
    some (a3, K6)
  ) else (
    gd (inb ((24 * a1) + a4) 96) <|
    nm (K 6 (Int32.toNatClampNeg ((24 * a1) + a4))) fun v8 =>
    if v8 = (-1000000005) then (
      nm (a3 + 0) fun v18 =>
      bd (C_X9_goesOn K) fun K20 =>
      nm (a4 + 1) fun v21 =>
      k9 a1 a2 v18 v21 K20
    ) else (
      bd (C_X9_of K a2 2) fun r11 =>
      bd (C_X9_off v8 r11) fun r13 =>
      nm (a3 + r13) fun v14 =>
      bd (C_X9_goesOn K) fun K16 =>
      nm (a4 + 1) fun v17 =>
      k9 a1 a2 v14 v17 K16
    )
  )
def L_X9_offBy_9 : Nat → Int32 → Int32 → Int32 → Int32 → Mem → Option (Int32 × Mem)
  | 0, _, _, _, _, _ => none
  | n + 1, a1, a2, a3, a4, K => F_X9_offBy_9 (fun a1 a2 a3 a4 K => L_X9_offBy_9 n a1 a2 a3 a4 K) a1 a2 a3 a4 K
set_option maxRecDepth 100000 in
set_option maxHeartbeats 4000000 in
theorem wF_X9_offBy_9 {G : Ctx} {ad : Nat → Nat} {k9 : Int32 → Int32 → Int32 → Int32 → Mem → Option (Int32 × Mem)} (C : Cx G RX9 cX9_offBy 6 6 135) (hD : ∀ K, va_D (gA G) (wd (gC G) ad K 0 shsR)) {res : (Int32 × Mem)} (RET : RI G cX9_offBy 6 (wd (gC G) ad res.2 0 shsR) res.1) (hk9 : ∀ {a1 : Int32} {a2 : Int32} {a3 : Int32} {a4 : Int32} {K : Mem} , k9 a1 a2 a3 a4 K = some res → V G 6 (wd (gC G) ad K 0 shsR) 9 [(0, .ref (ad 0)), (1, .int a1), (2, .int a2), (3, .int a3), (4, .int a4)] []) {a1 : Int32} {a2 : Int32} {a3 : Int32} {a4 : Int32} {K : Mem} (h : F_X9_offBy_9 k9 a1 a2 a3 a4 K = some res) : V G 6 (wd (gC G) ad K 0 shsR) 9 [(0, .ref (ad 0)), (1, .int a1), (2, .int a2), (3, .int a3), (4, .int a4)] [] := by
  unfold F_X9_offBy_9 at h
  refine v_iload C dX9_offBy_9 rfl 4 rfl ?_
  refine v_aload_n C dX9_offBy_11 rfl rfl 0 rfl ?_
  refine v_getr C dX9_offBy_12 rfl ff_X9_22 sr_0 rfl ?_
  refine v_iload_n C dX9_offBy_15 rfl rfl 1 rfl ?_
  obtain ⟨b3, h⟩ := gdS h
  refine v_iald C dX9_offBy_16 rfl sr_5 b3 ?_
  refine v_icmp_ge C dX9_offBy_17 (tgt := 69) (by decide) rfl (fun c4 => ?_) (fun c4 => ?_)
  · have h := ifp c4 h
    refine v_aload_n C dX9_offBy_69 rfl rfl 0 rfl ?_
    obtain ⟨K6, e5, h⟩ := bdS h
    refine v_callVv C yv_X9_laysBack m_1177 (c_X9_laysBack e5) (Sub.whole hD _ _) ⟨_, _, _, _, _, wd_at sr_0, rfl⟩ (As := []) rfl rfl (Nat.le_of_ble_eq_true rfl) ⟨Nat.le_of_ble_eq_true rfl, Nat.le_of_ble_eq_true rfl⟩ dX9_offBy_70 rfl ?_
    refine v_iload_n C dX9_offBy_73 rfl rfl 3 rfl ?_
    obtain rfl := Option.some.inj h
    exact RET _ _ dX9_offBy_74
  · have h := ifn c4 h
    refine v_aload_n C dX9_offBy_20 rfl rfl 0 rfl ?_
    refine v_getr C dX9_offBy_21 rfl ff_X9_25 sr_0 rfl ?_
    refine v_bipush C dX9_offBy_24 rfl bi_24 ?_
    refine v_iload_n C dX9_offBy_26 rfl rfl 1 rfl ?_
    refine v_imul C dX9_offBy_27 rfl ?_
    refine v_iload C dX9_offBy_28 rfl 4 rfl ?_
    refine v_iadd C dX9_offBy_30 rfl ?_
    obtain ⟨b7, h⟩ := gdS h
    refine v_iald C dX9_offBy_31 rfl sr_6 b7 ?_
    obtain ⟨v8, ev8, h⟩ := nmS h
    refine v_nmi ev8 ?_
    refine v_istore C dX9_offBy_32 rfl (by decide) (L' := [(5, .int v8), (0, .ref (ad 0)), (1, .int a1), (2, .int a2), (3, .int a3), (4, .int a4)]) rfl ?_
    refine v_iload_n C dX9_offBy_34 rfl rfl 4 rfl ?_
    refine v_iload C dX9_offBy_35 rfl 0 rfl ?_
    refine v_ldc C dX9_offBy_37 rfl m_1145 ?_
    refine v_icmp_ne C dX9_offBy_39 (tgt := 46) (by decide) rfl (fun c9 => ?_) (fun c9 => ?_)
    · have h := ifn c9 h
      refine v_iload C dX9_offBy_46 rfl 0 rfl ?_
      refine v_aload_n C dX9_offBy_48 rfl rfl 1 rfl ?_
      refine v_iload_n C dX9_offBy_49 rfl rfl 3 rfl ?_
      refine v_iconst C dX9_offBy_50 rfl ic_2 ?_
      obtain ⟨r11, e10, h⟩ := bdS h
      refine v_callVi C yv_X9_of m_980 (c_X9_of e10) (Sub.whole hD _ _) ⟨_, _, _, _, _, wd_at sr_0, rfl⟩ (As := [.int a2, .int 2]) rfl rfl (Nat.le_of_ble_eq_true rfl) ⟨Nat.le_of_ble_eq_true rfl, Nat.le_of_ble_eq_true rfl⟩ dX9_offBy_51 rfl ?_
      obtain ⟨r13, e12, h⟩ := bdS h
      refine v_callSi C ys_X9_off m_1330 (c_X9_off e12) (Sub.whole hD _ _) (As := [.int v8, .int r11]) rfl rfl (Nat.le_of_ble_eq_true rfl) ⟨Nat.le_of_ble_eq_true rfl, Nat.le_of_ble_eq_true rfl⟩ dX9_offBy_54 rfl ?_
      refine v_iadd C dX9_offBy_57 rfl ?_
      obtain ⟨v14, ev14, h⟩ := nmS h
      refine v_nmi ev14 ?_
      refine v_istore_n C dX9_offBy_58 rfl rfl (by decide) (L' := [(3, .int v14), (5, .int v8), (0, .ref (ad 0)), (1, .int a1), (2, .int a2), (4, .int a4)]) rfl ?_
      refine v_aload_n C dX9_offBy_59 rfl rfl 2 rfl ?_
      obtain ⟨K16, e15, h⟩ := bdS h
      refine v_callVv C yv_X9_goesOn m_1097 (c_X9_goesOn e15) (Sub.whole hD _ _) ⟨_, _, _, _, _, wd_at sr_0, rfl⟩ (As := []) rfl rfl (Nat.le_of_ble_eq_true rfl) ⟨Nat.le_of_ble_eq_true rfl, Nat.le_of_ble_eq_true rfl⟩ dX9_offBy_60 rfl ?_
      obtain ⟨v17, ev17, h⟩ := nmS h
      refine v_iinc C dX9_offBy_63 rfl 5 rfl (v := v17) (by rw [ev17]; rfl) (by decide) (L' := [(4, .int v17), (3, .int v14), (5, .int v8), (0, .ref (ad 0)), (1, .int a1), (2, .int a2)]) rfl ?_
      refine v_goto C dX9_offBy_66 (tgt := 9) (by decide) ?_
      refine v_sub [3, 4, 5, 1, 0] rfl ?_
      exact hk9 h
    · have h := ifp c9 h
      refine v_iconst C dX9_offBy_42 rfl ic_0 ?_
      refine v_goto C dX9_offBy_43 (tgt := 57) (by decide) ?_
      refine v_iadd C dX9_offBy_57 rfl ?_
      obtain ⟨v18, ev18, h⟩ := nmS h
      refine v_nmi ev18 ?_
      refine v_istore_n C dX9_offBy_58 rfl rfl (by decide) (L' := [(3, .int v18), (5, .int v8), (0, .ref (ad 0)), (1, .int a1), (2, .int a2), (4, .int a4)]) rfl ?_
      refine v_aload_n C dX9_offBy_59 rfl rfl 2 rfl ?_
      obtain ⟨K20, e19, h⟩ := bdS h
      refine v_callVv C yv_X9_goesOn m_1097 (c_X9_goesOn e19) (Sub.whole hD _ _) ⟨_, _, _, _, _, wd_at sr_0, rfl⟩ (As := []) rfl rfl (Nat.le_of_ble_eq_true rfl) ⟨Nat.le_of_ble_eq_true rfl, Nat.le_of_ble_eq_true rfl⟩ dX9_offBy_60 rfl ?_
      obtain ⟨v21, ev21, h⟩ := nmS h
      refine v_iinc C dX9_offBy_63 rfl 5 rfl (v := v21) (by rw [ev21]; rfl) (by decide) (L' := [(4, .int v21), (3, .int v18), (5, .int v8), (0, .ref (ad 0)), (1, .int a1), (2, .int a2)]) rfl ?_
      refine v_goto C dX9_offBy_66 (tgt := 9) (by decide) ?_
      refine v_sub [3, 4, 5, 1, 0] rfl ?_
      exact hk9 h
theorem wL_X9_offBy_9 {G : Ctx} {ad : Nat → Nat} (C : Cx G RX9 cX9_offBy 6 6 135) (hD : ∀ K, va_D (gA G) (wd (gC G) ad K 0 shsR)) {res : (Int32 × Mem)} (RET : RI G cX9_offBy 6 (wd (gC G) ad res.2 0 shsR) res.1) : ∀ (n : Nat) {a1 : Int32} {a2 : Int32} {a3 : Int32} {a4 : Int32} {K : Mem} (h : L_X9_offBy_9 n a1 a2 a3 a4 K = some res), V G 6 (wd (gC G) ad K 0 shsR) 9 [(0, .ref (ad 0)), (1, .int a1), (2, .int a2), (3, .int a3), (4, .int a4)] [] := by
  intro n
  induction n with
  | zero =>
    intro a1 a2 a3 a4 K h
    cases (show (none : Option (Int32 × Mem)) = some res from h)
  | succ n ih =>
    intro a1 a2 a3 a4 K h
    exact wF_X9_offBy_9 (k9 := fun a1 a2 a3 a4 K => L_X9_offBy_9  n a1 a2 a3 a4 K) C hD RET (fun h => ih h) h
def F_X9_offBy_0 (a1 : Int32) (a2 : Int32) (K : Mem) : Option (Int32 × Mem) :=
  bd (C_X9_laysBy K) fun K2 =>
  L_X9_offBy_9 FU a1 a2 0 0 K2
set_option maxRecDepth 100000 in
set_option maxHeartbeats 4000000 in
theorem wF_X9_offBy_0 {G : Ctx} {ad : Nat → Nat} (C : Cx G RX9 cX9_offBy 6 6 135) (hD : ∀ K, va_D (gA G) (wd (gC G) ad K 0 shsR)) {res : (Int32 × Mem)} (RET : RI G cX9_offBy 6 (wd (gC G) ad res.2 0 shsR) res.1) {a1 : Int32} {a2 : Int32} {K : Mem} (h : F_X9_offBy_0 a1 a2 K = some res) : V G 6 (wd (gC G) ad K 0 shsR) 0 [(0, .ref (ad 0)), (1, .int a1), (2, .int a2)] [] := by
  unfold F_X9_offBy_0 at h
  refine v_aload_n C dX9_offBy_0 rfl rfl 0 rfl ?_
  obtain ⟨K2, e1, h⟩ := bdS h
  refine v_callVv C yv_X9_laysBy m_1173 (c_X9_laysBy e1) (Sub.whole hD _ _) ⟨_, _, _, _, _, wd_at sr_0, rfl⟩ (As := []) rfl rfl (Nat.le_of_ble_eq_true rfl) ⟨Nat.le_of_ble_eq_true rfl, Nat.le_of_ble_eq_true rfl⟩ dX9_offBy_1 rfl ?_
  refine v_iconst C dX9_offBy_4 rfl ic_0 ?_
  refine v_istore_n C dX9_offBy_5 rfl rfl (by decide) (L' := [(3, .int 0), (0, .ref (ad 0)), (1, .int a1), (2, .int a2)]) rfl ?_
  refine v_iconst C dX9_offBy_6 rfl ic_0 ?_
  refine v_istore C dX9_offBy_7 rfl (by decide) (L' := [(4, .int 0), (3, .int 0), (0, .ref (ad 0)), (1, .int a1), (2, .int a2)]) rfl ?_
  refine v_sub [2, 3, 4, 1, 0] rfl ?_
  exact wL_X9_offBy_9 C hD RET FU h
def C_X9_offBy (a1 : Int32) (a2 : Int32) (K : Mem) : Option (Int32 × Mem) := F_X9_offBy_0 a1 a2 K
set_option maxRecDepth 100000 in
theorem c_X9_offBy {l : Launch} {D : va_G} {cA : FieldType → ClassId} {X : Ex} {ad : Nat → Nat} {a1 : Int32} {a2 : Int32} {K : Mem} {r : Int32} {K' : Mem} (h : C_X9_offBy a1 a2 K = some (r, K')) : MI l D cA X yX9_offBy cX9_offBy 6 (some .int) 6 135 [.ref (ad 0), .int a1, .int a2] (wd cA ad K 0 shsR) (wd cA ad K' 0 shsR) r :=
  mI_of (by decide +kernel) (Nat.le_of_ble_eq_true rfl) (fun G h1 h2 h3 h4 C hD RET => by subst h1 h2 h3 h4; exact wF_X9_offBy_0 C (fun K' => wd_D K' hD) RET  h)
def F_X9_like_41 (k41 : Int32 → Int32 → Int32 → Int32 → Int32 → Mem → Option (Int32 × Mem)) (a1 : Int32) (a2 : Int32) (a3 : Int32) (a4 : Int32) (a5 : Int32) (K : Mem) : Option (Int32 × Mem) :=
  gd (inb 0 3058) <|
  if (K 1 (Int32.toNatClampNeg 0)) ≤ a5 then (
    if 0 ≤ a3 then (
      if a2 = 0 then (
        some (a3, K)
      ) else (
        some (a4, K)
      )
    ) else (
      some ((-1000000005), K)
    )
  ) else (
    bd2 (C_X9_offBy a1 a5 K) fun r15 K14 =>
    if a3 < 0 then (
      nm (a5 + 1) fun v17 =>
      k41 a1 a2 a5 r15 v17 K14
    ) else (
      if a4 ≤ r15 then (
        nm (a5 + 1) fun v19 =>
        k41 a1 a2 a3 a4 v19 K14
      ) else (
        nm (a5 + 1) fun v20 =>
        k41 a1 a2 a5 r15 v20 K14
      )
    )
  )
def L_X9_like_41 : Nat → Int32 → Int32 → Int32 → Int32 → Int32 → Mem → Option (Int32 × Mem)
  | 0, _, _, _, _, _, _ => none
  | n + 1, a1, a2, a3, a4, a5, K => F_X9_like_41 (fun a1 a2 a3 a4 a5 K => L_X9_like_41 n a1 a2 a3 a4 a5 K) a1 a2 a3 a4 a5 K
set_option maxRecDepth 100000 in
set_option maxHeartbeats 4000000 in
theorem wF_X9_like_41 {G : Ctx} {ad : Nat → Nat} {k41 : Int32 → Int32 → Int32 → Int32 → Int32 → Mem → Option (Int32 × Mem)} (C : Cx G RX9 cX9_like 7 7 160) (hD : ∀ K, va_D (gA G) (wd (gC G) ad K 0 shsR)) {res : (Int32 × Mem)} (RET : RI G cX9_like 7 (wd (gC G) ad res.2 0 shsR) res.1) (hk41 : ∀ {a1 : Int32} {a2 : Int32} {a3 : Int32} {a4 : Int32} {a5 : Int32} {K : Mem} , k41 a1 a2 a3 a4 a5 K = some res → V G 7 (wd (gC G) ad K 0 shsR) 41 [(0, .ref (ad 0)), (1, .int a1), (2, .int a2), (3, .int a3), (4, .int a4), (5, .int a5)] []) {a1 : Int32} {a2 : Int32} {a3 : Int32} {a4 : Int32} {a5 : Int32} {K : Mem} (h : F_X9_like_41 k41 a1 a2 a3 a4 a5 K = some res) : V G 7 (wd (gC G) ad K 0 shsR) 41 [(0, .ref (ad 0)), (1, .int a1), (2, .int a2), (3, .int a3), (4, .int a4), (5, .int a5)] [] := by
  unfold F_X9_like_41 at h
  refine v_iload C dX9_like_41 rfl 5 rfl ?_
  refine v_aload_n C dX9_like_43 rfl rfl 0 rfl ?_
  refine v_getr C dX9_like_44 rfl ff_X9_7 sr_0 rfl ?_
  refine v_iconst C dX9_like_47 rfl ic_0 ?_
  obtain ⟨b9, h⟩ := gdS h
  refine v_iald C dX9_like_48 rfl sr_1 b9 ?_
  refine v_icmp_ge C dX9_like_49 (tgt := 85) (by decide) rfl (fun c10 => ?_) (fun c10 => ?_)
  · have h := ifp c10 h
    refine v_iload_n C dX9_like_85 rfl rfl 3 rfl ?_
    refine v_if_ge C dX9_like_86 (tgt := 94) (by decide) rfl (fun c11 => ?_) (fun c11 => ?_)
    · have h := ifp c11 h
      refine v_iload_n C dX9_like_94 rfl rfl 2 rfl ?_
      refine v_if_ne C dX9_like_95 (tgt := 102) (by decide) rfl (fun c12 => ?_) (fun c12 => ?_)
      · have h := ifn c12 h
        refine v_iload C dX9_like_102 rfl 4 rfl ?_
        obtain rfl := Option.some.inj h
        exact RET _ _ dX9_like_104
      · have h := ifp c12 h
        refine v_iload_n C dX9_like_98 rfl rfl 3 rfl ?_
        refine v_goto C dX9_like_99 (tgt := 104) (by decide) ?_
        obtain rfl := Option.some.inj h
        exact RET _ _ dX9_like_104
    · have h := ifn c11 h
      refine v_ldc C dX9_like_89 rfl m_1145 ?_
      refine v_goto C dX9_like_91 (tgt := 104) (by decide) ?_
      obtain rfl := Option.some.inj h
      exact RET _ _ dX9_like_104
  · have h := ifn c10 h
    refine v_aload_n C dX9_like_52 rfl rfl 0 rfl ?_
    refine v_iload_n C dX9_like_53 rfl rfl 1 rfl ?_
    refine v_iload C dX9_like_54 rfl 5 rfl ?_
    obtain ⟨r15, K14, e13, h⟩ := bd2S h
    refine v_callVi C yv_X9_offBy m_1326 (c_X9_offBy e13) (Sub.whole hD _ _) ⟨_, _, _, _, _, wd_at sr_0, rfl⟩ (As := [.int a1, .int a5]) rfl rfl (Nat.le_of_ble_eq_true rfl) ⟨Nat.le_of_ble_eq_true rfl, Nat.le_of_ble_eq_true rfl⟩ dX9_like_56 rfl ?_
    refine v_istore C dX9_like_59 rfl (by decide) (L' := [(6, .int r15), (0, .ref (ad 0)), (1, .int a1), (2, .int a2), (3, .int a3), (4, .int a4), (5, .int a5)]) rfl ?_
    refine v_iload_n C dX9_like_61 rfl rfl 4 rfl ?_
    refine v_if_lt C dX9_like_62 (tgt := 72) (by decide) rfl (fun c16 => ?_) (fun c16 => ?_)
    · have h := ifp c16 h
      refine v_iload C dX9_like_72 rfl 6 rfl ?_
      refine v_istore_n C dX9_like_74 rfl rfl (by decide) (L' := [(3, .int a5), (6, .int r15), (0, .ref (ad 0)), (1, .int a1), (2, .int a2), (4, .int a4), (5, .int a5)]) rfl ?_
      refine v_iload C dX9_like_75 rfl 1 rfl ?_
      refine v_istore C dX9_like_77 rfl (by decide) (L' := [(4, .int r15), (3, .int a5), (6, .int r15), (0, .ref (ad 0)), (1, .int a1), (2, .int a2), (5, .int a5)]) rfl ?_
      obtain ⟨v17, ev17, h⟩ := nmS h
      refine v_iinc C dX9_like_79 rfl 6 rfl (v := v17) (by rw [ev17]; rfl) (by decide) (L' := [(5, .int v17), (4, .int r15), (3, .int a5), (6, .int r15), (0, .ref (ad 0)), (1, .int a1), (2, .int a2)]) rfl ?_
      refine v_goto C dX9_like_82 (tgt := 41) (by decide) ?_
      refine v_sub [4, 5, 6, 2, 1, 0] rfl ?_
      exact hk41 h
    · have h := ifn c16 h
      refine v_iload C dX9_like_65 rfl 0 rfl ?_
      refine v_iload C dX9_like_67 rfl 5 rfl ?_
      refine v_icmp_ge C dX9_like_69 (tgt := 79) (by decide) rfl (fun c18 => ?_) (fun c18 => ?_)
      · have h := ifp c18 h
        obtain ⟨v19, ev19, h⟩ := nmS h
        refine v_iinc C dX9_like_79 rfl 6 rfl (v := v19) (by rw [ev19]; rfl) (by decide) (L' := [(5, .int v19), (6, .int r15), (0, .ref (ad 0)), (1, .int a1), (2, .int a2), (3, .int a3), (4, .int a4)]) rfl ?_
        refine v_goto C dX9_like_82 (tgt := 41) (by decide) ?_
        refine v_sub [2, 3, 4, 5, 6, 0] rfl ?_
        exact hk41 h
      · have h := ifn c18 h
        refine v_iload C dX9_like_72 rfl 6 rfl ?_
        refine v_istore_n C dX9_like_74 rfl rfl (by decide) (L' := [(3, .int a5), (6, .int r15), (0, .ref (ad 0)), (1, .int a1), (2, .int a2), (4, .int a4), (5, .int a5)]) rfl ?_
        refine v_iload C dX9_like_75 rfl 1 rfl ?_
        refine v_istore C dX9_like_77 rfl (by decide) (L' := [(4, .int r15), (3, .int a5), (6, .int r15), (0, .ref (ad 0)), (1, .int a1), (2, .int a2), (5, .int a5)]) rfl ?_
        obtain ⟨v20, ev20, h⟩ := nmS h
        refine v_iinc C dX9_like_79 rfl 6 rfl (v := v20) (by rw [ev20]; rfl) (by decide) (L' := [(5, .int v20), (4, .int r15), (3, .int a5), (6, .int r15), (0, .ref (ad 0)), (1, .int a1), (2, .int a2)]) rfl ?_
        refine v_goto C dX9_like_82 (tgt := 41) (by decide) ?_
        refine v_sub [4, 5, 6, 2, 1, 0] rfl ?_
        exact hk41 h
theorem wL_X9_like_41 {G : Ctx} {ad : Nat → Nat} (C : Cx G RX9 cX9_like 7 7 160) (hD : ∀ K, va_D (gA G) (wd (gC G) ad K 0 shsR)) {res : (Int32 × Mem)} (RET : RI G cX9_like 7 (wd (gC G) ad res.2 0 shsR) res.1) : ∀ (n : Nat) {a1 : Int32} {a2 : Int32} {a3 : Int32} {a4 : Int32} {a5 : Int32} {K : Mem} (h : L_X9_like_41 n a1 a2 a3 a4 a5 K = some res), V G 7 (wd (gC G) ad K 0 shsR) 41 [(0, .ref (ad 0)), (1, .int a1), (2, .int a2), (3, .int a3), (4, .int a4), (5, .int a5)] [] := by
  intro n
  induction n with
  | zero =>
    intro a1 a2 a3 a4 a5 K h
    cases (show (none : Option (Int32 × Mem)) = some res from h)
  | succ n ih =>
    intro a1 a2 a3 a4 a5 K h
    exact wF_X9_like_41 (k41 := fun a1 a2 a3 a4 a5 K => L_X9_like_41  n a1 a2 a3 a4 a5 K) C hD RET (fun h => ih h) h
def F_X9_like_0 (a1 : Int32) (a2 : Int32) (K : Mem) : Option (Int32 × Mem) :=
  bd (C_X9_isSheet a1) fun r2 =>
  if r2 = 0 then (
    some ((-1000000001), K)
  ) else (
    bd (C_X9_isIn (Int32.toInt64 a2) 0 1) fun r5 =>
    if r5 = 0 then (
      some ((-1000000001), K)
    ) else (
      gd (inb a1 4) <|
      if 0 ≤ (K 4 (Int32.toNatClampNeg a1)) then (
        L_X9_like_41 FU a1 a2 (-1) 0 0 K
      ) else (
        some ((-1000000011), K)
      )
    )
  )
set_option maxRecDepth 100000 in
set_option maxHeartbeats 4000000 in
theorem wF_X9_like_0 {G : Ctx} {ad : Nat → Nat} (C : Cx G RX9 cX9_like 7 7 160) (hD : ∀ K, va_D (gA G) (wd (gC G) ad K 0 shsR)) {res : (Int32 × Mem)} (RET : RI G cX9_like 7 (wd (gC G) ad res.2 0 shsR) res.1) {a1 : Int32} {a2 : Int32} {K : Mem} (h : F_X9_like_0 a1 a2 K = some res) : V G 7 (wd (gC G) ad K 0 shsR) 0 [(0, .ref (ad 0)), (1, .int a1), (2, .int a2)] [] := by
  unfold F_X9_like_0 at h
  refine v_iload_n C dX9_like_0 rfl rfl 1 rfl ?_
  obtain ⟨r2, e1, h⟩ := bdS h
  refine v_callSi C ys_X9_isSheet m_1300 (c_X9_isSheet e1) (Sub.whole hD _ _) (As := [.int a1]) rfl rfl (Nat.le_of_ble_eq_true rfl) ⟨Nat.le_of_ble_eq_true rfl, Nat.le_of_ble_eq_true rfl⟩ dX9_like_1 rfl ?_
  refine v_if_eq C dX9_like_4 (tgt := 17) (by decide) rfl (fun c3 => ?_) (fun c3 => ?_)
  · have h := ifp c3 h
    refine v_ldc C dX9_like_17 rfl m_953 ?_
    obtain rfl := Option.some.inj h
    exact RET _ _ dX9_like_19
  · have h := ifn c3 h
    refine v_iload_n C dX9_like_7 rfl rfl 2 rfl ?_
    refine v_i2l C dX9_like_8 rfl ?_
    refine v_lconst C dX9_like_9 rfl (v := 0) (by decide) ?_
    refine v_lconst C dX9_like_10 rfl (v := 1) (by decide) ?_
    obtain ⟨r5, e4, h⟩ := bdS h
    refine v_callSi C ys_X9_isIn m_949 (c_X9_isIn e4) (Sub.whole hD _ _) (As := [.long (Int32.toInt64 a2), .long 0, .long 1]) rfl rfl (Nat.le_of_ble_eq_true rfl) ⟨Nat.le_of_ble_eq_true rfl, Nat.le_of_ble_eq_true rfl⟩ dX9_like_11 rfl ?_
    refine v_if_ne C dX9_like_14 (tgt := 20) (by decide) rfl (fun c6 => ?_) (fun c6 => ?_)
    · have h := ifn c6 h
      refine v_aload_n C dX9_like_20 rfl rfl 0 rfl ?_
      refine v_getr C dX9_like_21 rfl ff_X9_19 sr_0 rfl ?_
      refine v_iload_n C dX9_like_24 rfl rfl 1 rfl ?_
      obtain ⟨b7, h⟩ := gdS h
      refine v_iald C dX9_like_25 rfl sr_4 b7 ?_
      refine v_if_ge C dX9_like_26 (tgt := 33) (by decide) rfl (fun c8 => ?_) (fun c8 => ?_)
      · have h := ifp c8 h
        refine v_iconst C dX9_like_33 rfl ic_n1 ?_
        refine v_istore_n C dX9_like_34 rfl rfl (by decide) (L' := [(3, .int (-1)), (0, .ref (ad 0)), (1, .int a1), (2, .int a2)]) rfl ?_
        refine v_iconst C dX9_like_35 rfl ic_0 ?_
        refine v_istore C dX9_like_36 rfl (by decide) (L' := [(4, .int 0), (3, .int (-1)), (0, .ref (ad 0)), (1, .int a1), (2, .int a2)]) rfl ?_
        refine v_iconst C dX9_like_38 rfl ic_0 ?_
        refine v_istore C dX9_like_39 rfl (by decide) (L' := [(5, .int 0), (4, .int 0), (3, .int (-1)), (0, .ref (ad 0)), (1, .int a1), (2, .int a2)]) rfl ?_
        refine v_sub [3, 4, 5, 2, 1, 0] rfl ?_
        exact wL_X9_like_41 C hD RET FU h
      · have h := ifn c8 h
        refine v_ldcw C dX9_like_29 rfl m_1310 ?_
        obtain rfl := Option.some.inj h
        exact RET _ _ dX9_like_32
    · have h := ifp c6 h
      refine v_ldc C dX9_like_17 rfl m_953 ?_
      obtain rfl := Option.some.inj h
      exact RET _ _ dX9_like_19
def C_X9_like (a1 : Int32) (a2 : Int32) (K : Mem) : Option (Int32 × Mem) := F_X9_like_0 a1 a2 K
set_option maxRecDepth 100000 in
theorem c_X9_like {l : Launch} {D : va_G} {cA : FieldType → ClassId} {X : Ex} {ad : Nat → Nat} {a1 : Int32} {a2 : Int32} {K : Mem} {r : Int32} {K' : Mem} (h : C_X9_like a1 a2 K = some (r, K')) : MI l D cA X yX9_like cX9_like 7 (some .int) 7 160 [.ref (ad 0), .int a1, .int a2] (wd cA ad K 0 shsR) (wd cA ad K' 0 shsR) r :=
  mI_of (by decide +kernel) (Nat.le_of_ble_eq_true rfl) (fun G h1 h2 h3 h4 C hD RET => by subst h1 h2 h3 h4; exact wF_X9_like_0 C (fun K' => wd_D K' hD) RET  h)
def F_X9_copy_150 (k150 : Int32 → Int32 → Int32 → Int32 → Mem → Option (Int32 × Mem)) (a3 : Int32) (a4 : Int32) (a5 : Int32) (a6 : Int32) (K : Mem) : Option (Int32 × Mem) :=
  if a5 ≤ a6 then (
    some (a5, K)
  ) else (
    gd (inb a6 24) <|
    gd (inb (((24 * a3) + a4) + a6) 96) <|
    nm (up K 6 (Int32.toNatClampNeg (((24 * a3) + a4) + a6)) (K 18 (Int32.toNatClampNeg a6))) fun K29 =>
    nm (a6 + 1) fun v30 =>
    k150 a3 a4 a5 v30 K29
  )
def L_X9_copy_150 : Nat → Int32 → Int32 → Int32 → Int32 → Mem → Option (Int32 × Mem)
  | 0, _, _, _, _, _ => none
  | n + 1, a3, a4, a5, a6, K => F_X9_copy_150 (fun a3 a4 a5 a6 K => L_X9_copy_150 n a3 a4 a5 a6 K) a3 a4 a5 a6 K
set_option maxRecDepth 100000 in
set_option maxHeartbeats 4000000 in
theorem wF_X9_copy_150 {G : Ctx} {ad : Nat → Nat} {k150 : Int32 → Int32 → Int32 → Int32 → Mem → Option (Int32 × Mem)} (C : Cx G RX9 cX9_copy 7 2 45) (hD : ∀ K, va_D (gA G) (wd (gC G) ad K 0 shsR)) {res : (Int32 × Mem)} (RET : RI G cX9_copy 7 (wd (gC G) ad res.2 0 shsR) res.1) (hk150 : ∀ {a3 : Int32} {a4 : Int32} {a5 : Int32} {a6 : Int32} {K : Mem} , k150 a3 a4 a5 a6 K = some res → V G 7 (wd (gC G) ad K 0 shsR) 150 [(0, .ref (ad 0)), (3, .int a3), (4, .int a4), (5, .int a5), (6, .int a6)] []) {a3 : Int32} {a4 : Int32} {a5 : Int32} {a6 : Int32} {K : Mem} (h : F_X9_copy_150 k150 a3 a4 a5 a6 K = some res) : V G 7 (wd (gC G) ad K 0 shsR) 150 [(0, .ref (ad 0)), (3, .int a3), (4, .int a4), (5, .int a5), (6, .int a6)] [] := by
  unfold F_X9_copy_150 at h
  refine v_iload C dX9_copy_150 rfl 4 rfl ?_
  refine v_iload C dX9_copy_152 rfl 3 rfl ?_
  refine v_icmp_ge C dX9_copy_154 (tgt := 185) (by decide) rfl (fun c26 => ?_) (fun c26 => ?_)
  · have h := ifp c26 h
    refine v_iload C dX9_copy_185 rfl 3 rfl ?_
    obtain rfl := Option.some.inj h
    exact RET _ _ dX9_copy_187
  · have h := ifn c26 h
    refine v_aload_n C dX9_copy_157 rfl rfl 0 rfl ?_
    refine v_getr C dX9_copy_158 rfl ff_X9_25 sr_0 rfl ?_
    refine v_bipush C dX9_copy_161 rfl bi_24 ?_
    refine v_iload_n C dX9_copy_163 rfl rfl 1 rfl ?_
    refine v_imul C dX9_copy_164 rfl ?_
    refine v_iload C dX9_copy_165 rfl 2 rfl ?_
    refine v_iadd C dX9_copy_167 rfl ?_
    refine v_iload C dX9_copy_168 rfl 4 rfl ?_
    refine v_iadd C dX9_copy_170 rfl ?_
    refine v_aload_n C dX9_copy_171 rfl rfl 0 rfl ?_
    refine v_getr C dX9_copy_172 rfl ff_X9_61 sr_0 rfl ?_
    refine v_iload C dX9_copy_175 rfl 4 rfl ?_
    obtain ⟨b27, h⟩ := gdS h
    refine v_iald C dX9_copy_177 rfl sr_18 b27 ?_
    obtain ⟨b28, h⟩ := gdS h
    obtain ⟨K29, eK29, h⟩ := nmS h
    refine v_iast C hD dX9_copy_178 rfl sr_6 b28 eK29 ?_
    obtain ⟨v30, ev30, h⟩ := nmS h
    refine v_iinc C dX9_copy_179 rfl 4 rfl (v := v30) (by rw [ev30]; rfl) (by decide) (L' := [(6, .int v30), (0, .ref (ad 0)), (3, .int a3), (4, .int a4), (5, .int a5)]) rfl ?_
    refine v_goto C dX9_copy_182 (tgt := 150) (by decide) ?_
    refine v_sub [1, 2, 3, 4, 0] rfl ?_
    exact hk150 h
theorem wL_X9_copy_150 {G : Ctx} {ad : Nat → Nat} (C : Cx G RX9 cX9_copy 7 2 45) (hD : ∀ K, va_D (gA G) (wd (gC G) ad K 0 shsR)) {res : (Int32 × Mem)} (RET : RI G cX9_copy 7 (wd (gC G) ad res.2 0 shsR) res.1) : ∀ (n : Nat) {a3 : Int32} {a4 : Int32} {a5 : Int32} {a6 : Int32} {K : Mem} (h : L_X9_copy_150 n a3 a4 a5 a6 K = some res), V G 7 (wd (gC G) ad K 0 shsR) 150 [(0, .ref (ad 0)), (3, .int a3), (4, .int a4), (5, .int a5), (6, .int a6)] [] := by
  intro n
  induction n with
  | zero =>
    intro a3 a4 a5 a6 K h
    cases (show (none : Option (Int32 × Mem)) = some res from h)
  | succ n ih =>
    intro a3 a4 a5 a6 K h
    exact wF_X9_copy_150 (k150 := fun a3 a4 a5 a6 K => L_X9_copy_150  n a3 a4 a5 a6 K) C hD RET (fun h => ih h) h
def F_X9_copy_113 (k113 : Int32 → Int32 → Int32 → Int32 → Int32 → Int32 → Mem → Option (Int32 × Mem)) (a1 : Int32) (a2 : Int32) (a3 : Int32) (a4 : Int32) (a5 : Int32) (a6 : Int32) (K : Mem) : Option (Int32 × Mem) :=
  if a5 ≤ a6 then (
    L_X9_copy_150 FU a3 a4 a5 0 K
  ) else (
    gd (inb (((24 * a1) + a2) + a6) 96) <|
    gd (inb a6 24) <|
    nm (up K 18 (Int32.toNatClampNeg a6) (K 6 (Int32.toNatClampNeg (((24 * a1) + a2) + a6)))) fun K24 =>
    nm (a6 + 1) fun v25 =>
    k113 a1 a2 a3 a4 a5 v25 K24
  )
def L_X9_copy_113 : Nat → Int32 → Int32 → Int32 → Int32 → Int32 → Int32 → Mem → Option (Int32 × Mem)
  | 0, _, _, _, _, _, _, _ => none
  | n + 1, a1, a2, a3, a4, a5, a6, K => F_X9_copy_113 (fun a1 a2 a3 a4 a5 a6 K => L_X9_copy_113 n a1 a2 a3 a4 a5 a6 K) a1 a2 a3 a4 a5 a6 K
set_option maxRecDepth 100000 in
set_option maxHeartbeats 4000000 in
theorem wF_X9_copy_113 {G : Ctx} {ad : Nat → Nat} {k113 : Int32 → Int32 → Int32 → Int32 → Int32 → Int32 → Mem → Option (Int32 × Mem)} (C : Cx G RX9 cX9_copy 7 2 45) (hD : ∀ K, va_D (gA G) (wd (gC G) ad K 0 shsR)) {res : (Int32 × Mem)} (RET : RI G cX9_copy 7 (wd (gC G) ad res.2 0 shsR) res.1) (hk113 : ∀ {a1 : Int32} {a2 : Int32} {a3 : Int32} {a4 : Int32} {a5 : Int32} {a6 : Int32} {K : Mem} , k113 a1 a2 a3 a4 a5 a6 K = some res → V G 7 (wd (gC G) ad K 0 shsR) 113 [(0, .ref (ad 0)), (1, .int a1), (2, .int a2), (3, .int a3), (4, .int a4), (5, .int a5), (6, .int a6)] []) {a1 : Int32} {a2 : Int32} {a3 : Int32} {a4 : Int32} {a5 : Int32} {a6 : Int32} {K : Mem} (h : F_X9_copy_113 k113 a1 a2 a3 a4 a5 a6 K = some res) : V G 7 (wd (gC G) ad K 0 shsR) 113 [(0, .ref (ad 0)), (1, .int a1), (2, .int a2), (3, .int a3), (4, .int a4), (5, .int a5), (6, .int a6)] [] := by
  unfold F_X9_copy_113 at h
  refine v_iload C dX9_copy_113 rfl 6 rfl ?_
  refine v_iload C dX9_copy_115 rfl 5 rfl ?_
  refine v_icmp_ge C dX9_copy_117 (tgt := 147) (by decide) rfl (fun c21 => ?_) (fun c21 => ?_)
  · have h := ifp c21 h
    refine v_iconst C dX9_copy_147 rfl ic_0 ?_
    refine v_istore C dX9_copy_148 rfl (by decide) (L' := [(6, .int 0), (0, .ref (ad 0)), (1, .int a1), (2, .int a2), (3, .int a3), (4, .int a4), (5, .int a5)]) rfl ?_
    refine v_sub [1, 4, 5, 6, 0] rfl ?_
    exact wL_X9_copy_150 C hD RET FU h
  · have h := ifn c21 h
    refine v_aload_n C dX9_copy_120 rfl rfl 0 rfl ?_
    refine v_getr C dX9_copy_121 rfl ff_X9_61 sr_0 rfl ?_
    refine v_iload C dX9_copy_124 rfl 6 rfl ?_
    refine v_aload_n C dX9_copy_126 rfl rfl 0 rfl ?_
    refine v_getr C dX9_copy_127 rfl ff_X9_25 sr_0 rfl ?_
    refine v_bipush C dX9_copy_130 rfl bi_24 ?_
    refine v_iload_n C dX9_copy_132 rfl rfl 1 rfl ?_
    refine v_imul C dX9_copy_133 rfl ?_
    refine v_iload_n C dX9_copy_134 rfl rfl 2 rfl ?_
    refine v_iadd C dX9_copy_135 rfl ?_
    refine v_iload C dX9_copy_136 rfl 6 rfl ?_
    refine v_iadd C dX9_copy_138 rfl ?_
    obtain ⟨b22, h⟩ := gdS h
    refine v_iald C dX9_copy_139 rfl sr_6 b22 ?_
    obtain ⟨b23, h⟩ := gdS h
    obtain ⟨K24, eK24, h⟩ := nmS h
    refine v_iast C hD dX9_copy_140 rfl sr_18 b23 eK24 ?_
    obtain ⟨v25, ev25, h⟩ := nmS h
    refine v_iinc C dX9_copy_141 rfl 6 rfl (v := v25) (by rw [ev25]; rfl) (by decide) (L' := [(6, .int v25), (0, .ref (ad 0)), (1, .int a1), (2, .int a2), (3, .int a3), (4, .int a4), (5, .int a5)]) rfl ?_
    refine v_goto C dX9_copy_144 (tgt := 113) (by decide) ?_
    refine v_sub [1, 2, 3, 4, 5, 6, 0] rfl ?_
    exact hk113 h
theorem wL_X9_copy_113 {G : Ctx} {ad : Nat → Nat} (C : Cx G RX9 cX9_copy 7 2 45) (hD : ∀ K, va_D (gA G) (wd (gC G) ad K 0 shsR)) {res : (Int32 × Mem)} (RET : RI G cX9_copy 7 (wd (gC G) ad res.2 0 shsR) res.1) : ∀ (n : Nat) {a1 : Int32} {a2 : Int32} {a3 : Int32} {a4 : Int32} {a5 : Int32} {a6 : Int32} {K : Mem} (h : L_X9_copy_113 n a1 a2 a3 a4 a5 a6 K = some res), V G 7 (wd (gC G) ad K 0 shsR) 113 [(0, .ref (ad 0)), (1, .int a1), (2, .int a2), (3, .int a3), (4, .int a4), (5, .int a5), (6, .int a6)] [] := by
  intro n
  induction n with
  | zero =>
    intro a1 a2 a3 a4 a5 a6 K h
    cases (show (none : Option (Int32 × Mem)) = some res from h)
  | succ n ih =>
    intro a1 a2 a3 a4 a5 a6 K h
    exact wF_X9_copy_113 (k113 := fun a1 a2 a3 a4 a5 a6 K => L_X9_copy_113  n a1 a2 a3 a4 a5 a6 K) C hD RET (fun h => ih h) h
def F_X9_copy_0 (a1 : Int32) (a2 : Int32) (a3 : Int32) (a4 : Int32) (a5 : Int32) (K : Mem) : Option (Int32 × Mem) :=
  bd (C_X9_isSheet a1) fun r2 =>
  if r2 = 0 then (
    some ((-1000000001), K)
  ) else (
    bd (C_X9_isSheet a3) fun r5 =>
    if r5 = 0 then (
      some ((-1000000001), K)
    ) else (
      gd (inb a1 4) <|
      if (K 4 (Int32.toNatClampNeg a1)) < 0 then (
        some ((-1000000011), K)
      ) else (
        gd (inb a3 4) <|
        if 0 ≤ (K 4 (Int32.toNatClampNeg a3)) then (
          gd (inb a1 4) <|
          gd (inb a3 4) <|
          if (K 4 (Int32.toNatClampNeg a1)) = (K 4 (Int32.toNatClampNeg a3)) then (
            if a2 < 0 then (
              some ((-1000000013), K)
            ) else (
              if a4 < 0 then (
                some ((-1000000013), K)
              ) else (
                if a5 < 0 then (
                  some ((-1000000013), K)
                ) else (
                  gd (inb a1 4) <|
                  if 0 < (lg_cmp ((Int32.toInt64 a2) + (Int32.toInt64 a5)) (Int32.toInt64 (K 5 (Int32.toNatClampNeg a1)))) then (
                    some ((-1000000013), K)
                  ) else (
                    gd (inb a3 4) <|
                    if (lg_cmp ((Int32.toInt64 a4) + (Int32.toInt64 a5)) (Int32.toInt64 (K 5 (Int32.toNatClampNeg a3)))) ≤ 0 then (
                      L_X9_copy_113 FU a1 a2 a3 a4 a5 0 K
                    ) else (
                      some ((-1000000013), K)
                    )
                  )
                )
              )
            )
          ) else (
            some ((-1000000012), K)
          )
        ) else (
          some ((-1000000011), K)
        )
      )
    )
  )
set_option maxRecDepth 100000 in
set_option maxHeartbeats 4000000 in
theorem wF_X9_copy_0 {G : Ctx} {ad : Nat → Nat} (C : Cx G RX9 cX9_copy 7 2 45) (hD : ∀ K, va_D (gA G) (wd (gC G) ad K 0 shsR)) {res : (Int32 × Mem)} (RET : RI G cX9_copy 7 (wd (gC G) ad res.2 0 shsR) res.1) {a1 : Int32} {a2 : Int32} {a3 : Int32} {a4 : Int32} {a5 : Int32} {K : Mem} (h : F_X9_copy_0 a1 a2 a3 a4 a5 K = some res) : V G 7 (wd (gC G) ad K 0 shsR) 0 [(0, .ref (ad 0)), (1, .int a1), (2, .int a2), (3, .int a3), (4, .int a4), (5, .int a5)] [] := by
  unfold F_X9_copy_0 at h
  refine v_iload_n C dX9_copy_0 rfl rfl 1 rfl ?_
  obtain ⟨r2, e1, h⟩ := bdS h
  refine v_callSi C ys_X9_isSheet m_1300 (c_X9_isSheet e1) (Sub.whole hD _ _) (As := [.int a1]) rfl rfl (Nat.le_of_ble_eq_true rfl) ⟨Nat.le_of_ble_eq_true rfl, Nat.le_of_ble_eq_true rfl⟩ dX9_copy_1 rfl ?_
  refine v_if_eq C dX9_copy_4 (tgt := 14) (by decide) rfl (fun c3 => ?_) (fun c3 => ?_)
  · have h := ifp c3 h
    refine v_ldc C dX9_copy_14 rfl m_953 ?_
    obtain rfl := Option.some.inj h
    exact RET _ _ dX9_copy_16
  · have h := ifn c3 h
    refine v_iload_n C dX9_copy_7 rfl rfl 3 rfl ?_
    obtain ⟨r5, e4, h⟩ := bdS h
    refine v_callSi C ys_X9_isSheet m_1300 (c_X9_isSheet e4) (Sub.whole hD _ _) (As := [.int a3]) rfl rfl (Nat.le_of_ble_eq_true rfl) ⟨Nat.le_of_ble_eq_true rfl, Nat.le_of_ble_eq_true rfl⟩ dX9_copy_8 rfl ?_
    refine v_if_ne C dX9_copy_11 (tgt := 17) (by decide) rfl (fun c6 => ?_) (fun c6 => ?_)
    · have h := ifn c6 h
      refine v_aload_n C dX9_copy_17 rfl rfl 0 rfl ?_
      refine v_getr C dX9_copy_18 rfl ff_X9_19 sr_0 rfl ?_
      refine v_iload_n C dX9_copy_21 rfl rfl 1 rfl ?_
      obtain ⟨b7, h⟩ := gdS h
      refine v_iald C dX9_copy_22 rfl sr_4 b7 ?_
      refine v_if_lt C dX9_copy_23 (tgt := 35) (by decide) rfl (fun c8 => ?_) (fun c8 => ?_)
      · have h := ifp c8 h
        refine v_ldcw C dX9_copy_35 rfl m_1310 ?_
        obtain rfl := Option.some.inj h
        exact RET _ _ dX9_copy_38
      · have h := ifn c8 h
        refine v_aload_n C dX9_copy_26 rfl rfl 0 rfl ?_
        refine v_getr C dX9_copy_27 rfl ff_X9_19 sr_0 rfl ?_
        refine v_iload_n C dX9_copy_30 rfl rfl 3 rfl ?_
        obtain ⟨b9, h⟩ := gdS h
        refine v_iald C dX9_copy_31 rfl sr_4 b9 ?_
        refine v_if_ge C dX9_copy_32 (tgt := 39) (by decide) rfl (fun c10 => ?_) (fun c10 => ?_)
        · have h := ifp c10 h
          refine v_aload_n C dX9_copy_39 rfl rfl 0 rfl ?_
          refine v_getr C dX9_copy_40 rfl ff_X9_19 sr_0 rfl ?_
          refine v_iload_n C dX9_copy_43 rfl rfl 1 rfl ?_
          obtain ⟨b11, h⟩ := gdS h
          refine v_iald C dX9_copy_44 rfl sr_4 b11 ?_
          refine v_aload_n C dX9_copy_45 rfl rfl 0 rfl ?_
          refine v_getr C dX9_copy_46 rfl ff_X9_19 sr_0 rfl ?_
          refine v_iload_n C dX9_copy_49 rfl rfl 3 rfl ?_
          obtain ⟨b12, h⟩ := gdS h
          refine v_iald C dX9_copy_50 rfl sr_4 b12 ?_
          refine v_icmp_eq C dX9_copy_51 (tgt := 57) (by decide) rfl (fun c13 => ?_) (fun c13 => ?_)
          · have h := ifp c13 h
            refine v_iload_n C dX9_copy_57 rfl rfl 2 rfl ?_
            refine v_if_lt C dX9_copy_58 (tgt := 106) (by decide) rfl (fun c14 => ?_) (fun c14 => ?_)
            · have h := ifp c14 h
              refine v_ldcw C dX9_copy_106 rfl m_1311 ?_
              obtain rfl := Option.some.inj h
              exact RET _ _ dX9_copy_109
            · have h := ifn c14 h
              refine v_iload C dX9_copy_61 rfl 4 rfl ?_
              refine v_if_lt C dX9_copy_63 (tgt := 106) (by decide) rfl (fun c15 => ?_) (fun c15 => ?_)
              · have h := ifp c15 h
                refine v_ldcw C dX9_copy_106 rfl m_1311 ?_
                obtain rfl := Option.some.inj h
                exact RET _ _ dX9_copy_109
              · have h := ifn c15 h
                refine v_iload C dX9_copy_66 rfl 5 rfl ?_
                refine v_if_lt C dX9_copy_68 (tgt := 106) (by decide) rfl (fun c16 => ?_) (fun c16 => ?_)
                · have h := ifp c16 h
                  refine v_ldcw C dX9_copy_106 rfl m_1311 ?_
                  obtain rfl := Option.some.inj h
                  exact RET _ _ dX9_copy_109
                · have h := ifn c16 h
                  refine v_iload_n C dX9_copy_71 rfl rfl 2 rfl ?_
                  refine v_i2l C dX9_copy_72 rfl ?_
                  refine v_iload C dX9_copy_73 rfl 5 rfl ?_
                  refine v_i2l C dX9_copy_75 rfl ?_
                  refine v_ladd C dX9_copy_76 rfl ?_
                  refine v_aload_n C dX9_copy_77 rfl rfl 0 rfl ?_
                  refine v_getr C dX9_copy_78 rfl ff_X9_22 sr_0 rfl ?_
                  refine v_iload_n C dX9_copy_81 rfl rfl 1 rfl ?_
                  obtain ⟨b17, h⟩ := gdS h
                  refine v_iald C dX9_copy_82 rfl sr_5 b17 ?_
                  refine v_i2l C dX9_copy_83 rfl ?_
                  refine v_lcmp C dX9_copy_84 rfl ?_
                  refine v_if_gt C dX9_copy_85 (tgt := 106) (by decide) rfl (fun c18 => ?_) (fun c18 => ?_)
                  · have h := ifp c18 h
                    refine v_ldcw C dX9_copy_106 rfl m_1311 ?_
                    obtain rfl := Option.some.inj h
                    exact RET _ _ dX9_copy_109
                  · have h := ifn c18 h
                    refine v_iload C dX9_copy_88 rfl 4 rfl ?_
                    refine v_i2l C dX9_copy_90 rfl ?_
                    refine v_iload C dX9_copy_91 rfl 5 rfl ?_
                    refine v_i2l C dX9_copy_93 rfl ?_
                    refine v_ladd C dX9_copy_94 rfl ?_
                    refine v_aload_n C dX9_copy_95 rfl rfl 0 rfl ?_
                    refine v_getr C dX9_copy_96 rfl ff_X9_22 sr_0 rfl ?_
                    refine v_iload_n C dX9_copy_99 rfl rfl 3 rfl ?_
                    obtain ⟨b19, h⟩ := gdS h
                    refine v_iald C dX9_copy_100 rfl sr_5 b19 ?_
                    refine v_i2l C dX9_copy_101 rfl ?_
                    refine v_lcmp C dX9_copy_102 rfl ?_
                    refine v_if_le C dX9_copy_103 (tgt := 110) (by decide) rfl (fun c20 => ?_) (fun c20 => ?_)
                    · have h := ifp c20 h
                      refine v_iconst C dX9_copy_110 rfl ic_0 ?_
                      refine v_istore C dX9_copy_111 rfl (by decide) (L' := [(6, .int 0), (0, .ref (ad 0)), (1, .int a1), (2, .int a2), (3, .int a3), (4, .int a4), (5, .int a5)]) rfl ?_
                      refine v_sub [1, 2, 3, 4, 5, 6, 0] rfl ?_
                      exact wL_X9_copy_113 C hD RET FU h
                    · have h := ifn c20 h
                      refine v_ldcw C dX9_copy_106 rfl m_1311 ?_
                      obtain rfl := Option.some.inj h
                      exact RET _ _ dX9_copy_109
          · have h := ifn c13 h
            refine v_ldc C dX9_copy_54 rfl m_1032 ?_
            obtain rfl := Option.some.inj h
            exact RET _ _ dX9_copy_56
        · have h := ifn c10 h
          refine v_ldcw C dX9_copy_35 rfl m_1310 ?_
          obtain rfl := Option.some.inj h
          exact RET _ _ dX9_copy_38
    · have h := ifp c6 h
      refine v_ldc C dX9_copy_14 rfl m_953 ?_
      obtain rfl := Option.some.inj h
      exact RET _ _ dX9_copy_16
def C_X9_copy (a1 : Int32) (a2 : Int32) (a3 : Int32) (a4 : Int32) (a5 : Int32) (K : Mem) : Option (Int32 × Mem) := F_X9_copy_0 a1 a2 a3 a4 a5 K
set_option maxRecDepth 100000 in
theorem c_X9_copy {l : Launch} {D : va_G} {cA : FieldType → ClassId} {X : Ex} {ad : Nat → Nat} {a1 : Int32} {a2 : Int32} {a3 : Int32} {a4 : Int32} {a5 : Int32} {K : Mem} {r : Int32} {K' : Mem} (h : C_X9_copy a1 a2 a3 a4 a5 K = some (r, K')) : MI l D cA X yX9_copy cX9_copy 7 (some .int) 2 45 [.ref (ad 0), .int a1, .int a2, .int a3, .int a4, .int a5] (wd cA ad K 0 shsR) (wd cA ad K' 0 shsR) r :=
  mI_of (by decide +kernel) (Nat.le_of_ble_eq_true rfl) (fun G h1 h2 h3 h4 C hD RET => by subst h1 h2 h3 h4; exact wF_X9_copy_0 C (fun K' => wd_D K' hD) RET  h)
def F_X9_isSlot_0 (a0 : Int32) : Option Int32 :=
  bd (C_X9_isIn (Int32.toInt64 a0) 0 4) fun r2 =>
  gd (z01 r2) <|
  some r2
set_option maxRecDepth 100000 in
set_option maxHeartbeats 4000000 in
theorem wF_X9_isSlot_0 {G : Ctx} {w : va_W} (C : Cx G RX9 cX9_isSlot 1 1 25) (hD : va_D (gA G) w) {res : Int32} (RET : RZ G cX9_isSlot 1 w res) {a0 : Int32} (h : F_X9_isSlot_0 a0 = some res) : V G 1 w 0 [(0, .int a0)] [] := by
  unfold F_X9_isSlot_0 at h
  refine v_iload_n C dX9_isSlot_0 rfl rfl 0 rfl ?_
  refine v_i2l C dX9_isSlot_1 rfl ?_
  refine v_lconst C dX9_isSlot_2 rfl (v := 0) (by decide) ?_
  refine v_ldc2 C dX9_isSlot_3 rfl m_1117 ?_
  obtain ⟨r2, e1, h⟩ := bdS h
  refine v_callSi C ys_X9_isIn m_949 (c_X9_isIn e1) (Sub.same hD) (As := [.long (Int32.toInt64 a0), .long 0, .long 4]) rfl rfl (Nat.le_of_ble_eq_true rfl) ⟨Nat.le_of_ble_eq_true rfl, Nat.le_of_ble_eq_true rfl⟩ dX9_isSlot_6 rfl ?_
  obtain ⟨b3, h⟩ := gdS h
  obtain rfl := Option.some.inj h
  exact RET _ _ dX9_isSlot_9 (z01S b3)
def C_X9_isSlot (a0 : Int32) : Option Int32 := F_X9_isSlot_0 a0
set_option maxRecDepth 100000 in
theorem c_X9_isSlot {l : Launch} {D : va_G} {cA : FieldType → ClassId} {X : Ex} {w : va_W} {a0 : Int32} {r : Int32} (h : C_X9_isSlot a0 = some r) : MI l D cA X yX9_isSlot cX9_isSlot 1 (some .boolean) 1 25 [.int a0] w w r :=
  mZ_of (by decide +kernel) (Nat.le_of_ble_eq_true rfl) (fun G h1 h2 h3 h4 C hD RET => by subst h1 h2 h3 h4; exact wF_X9_isSlot_0 C hD RET  h)
def F_X9_lay_150 (k150 : Int32 → Int32 → Int32 → Int32 → Mem → Option (Int32 × Mem)) (a1 : Int32) (a3 : Int32) (a5 : Int32) (a6 : Int32) (K : Mem) : Option (Int32 × Mem) :=
  if 24 ≤ a6 then (
    some (a5, K)
  ) else (
    gd (inb ((24 * a3) + a6) 96) <|
    gd (inb ((24 * a1) + a6) 120) <|
    nm (up K 11 (Int32.toNatClampNeg ((24 * a1) + a6)) (K 6 (Int32.toNatClampNeg ((24 * a3) + a6)))) fun K39 =>
    nm (a6 + 1) fun v40 =>
    k150 a1 a3 a5 v40 K39
  )
def L_X9_lay_150 : Nat → Int32 → Int32 → Int32 → Int32 → Mem → Option (Int32 × Mem)
  | 0, _, _, _, _, _ => none
  | n + 1, a1, a3, a5, a6, K => F_X9_lay_150 (fun a1 a3 a5 a6 K => L_X9_lay_150 n a1 a3 a5 a6 K) a1 a3 a5 a6 K
set_option maxRecDepth 100000 in
set_option maxHeartbeats 4000000 in
theorem wF_X9_lay_150 {G : Ctx} {ad : Nat → Nat} {k150 : Int32 → Int32 → Int32 → Int32 → Mem → Option (Int32 × Mem)} (C : Cx G RX9 cX9_lay 7 2 46) (hD : ∀ K, va_D (gA G) (wd (gC G) ad K 0 shsR)) {res : (Int32 × Mem)} (RET : RI G cX9_lay 7 (wd (gC G) ad res.2 0 shsR) res.1) (hk150 : ∀ {a1 : Int32} {a3 : Int32} {a5 : Int32} {a6 : Int32} {K : Mem} , k150 a1 a3 a5 a6 K = some res → V G 7 (wd (gC G) ad K 0 shsR) 150 [(0, .ref (ad 0)), (1, .int a1), (3, .int a3), (5, .int a5), (6, .int a6)] []) {a1 : Int32} {a3 : Int32} {a5 : Int32} {a6 : Int32} {K : Mem} (h : F_X9_lay_150 k150 a1 a3 a5 a6 K = some res) : V G 7 (wd (gC G) ad K 0 shsR) 150 [(0, .ref (ad 0)), (1, .int a1), (3, .int a3), (5, .int a5), (6, .int a6)] [] := by
  unfold F_X9_lay_150 at h
  refine v_iload C dX9_lay_150 rfl 4 rfl ?_
  refine v_bipush C dX9_lay_152 rfl bi_24 ?_
  refine v_icmp_ge C dX9_lay_154 (tgt := 187) (by decide) rfl (fun c36 => ?_) (fun c36 => ?_)
  · have h := ifp c36 h
    refine v_iload C dX9_lay_187 rfl 3 rfl ?_
    obtain rfl := Option.some.inj h
    exact RET _ _ dX9_lay_189
  · have h := ifn c36 h
    refine v_aload_n C dX9_lay_157 rfl rfl 0 rfl ?_
    refine v_getr C dX9_lay_158 rfl ff_X9_40 sr_0 rfl ?_
    refine v_bipush C dX9_lay_161 rfl bi_24 ?_
    refine v_iload_n C dX9_lay_163 rfl rfl 1 rfl ?_
    refine v_imul C dX9_lay_164 rfl ?_
    refine v_iload C dX9_lay_165 rfl 4 rfl ?_
    refine v_iadd C dX9_lay_167 rfl ?_
    refine v_aload_n C dX9_lay_168 rfl rfl 0 rfl ?_
    refine v_getr C dX9_lay_169 rfl ff_X9_25 sr_0 rfl ?_
    refine v_bipush C dX9_lay_172 rfl bi_24 ?_
    refine v_iload_n C dX9_lay_174 rfl rfl 2 rfl ?_
    refine v_imul C dX9_lay_175 rfl ?_
    refine v_iload C dX9_lay_176 rfl 4 rfl ?_
    refine v_iadd C dX9_lay_178 rfl ?_
    obtain ⟨b37, h⟩ := gdS h
    refine v_iald C dX9_lay_179 rfl sr_6 b37 ?_
    obtain ⟨b38, h⟩ := gdS h
    obtain ⟨K39, eK39, h⟩ := nmS h
    refine v_iast C hD dX9_lay_180 rfl sr_11 b38 eK39 ?_
    obtain ⟨v40, ev40, h⟩ := nmS h
    refine v_iinc C dX9_lay_181 rfl 4 rfl (v := v40) (by rw [ev40]; rfl) (by decide) (L' := [(6, .int v40), (0, .ref (ad 0)), (1, .int a1), (3, .int a3), (5, .int a5)]) rfl ?_
    refine v_goto C dX9_lay_184 (tgt := 150) (by decide) ?_
    refine v_sub [1, 2, 3, 4, 0] rfl ?_
    exact hk150 h
theorem wL_X9_lay_150 {G : Ctx} {ad : Nat → Nat} (C : Cx G RX9 cX9_lay 7 2 46) (hD : ∀ K, va_D (gA G) (wd (gC G) ad K 0 shsR)) {res : (Int32 × Mem)} (RET : RI G cX9_lay 7 (wd (gC G) ad res.2 0 shsR) res.1) : ∀ (n : Nat) {a1 : Int32} {a3 : Int32} {a5 : Int32} {a6 : Int32} {K : Mem} (h : L_X9_lay_150 n a1 a3 a5 a6 K = some res), V G 7 (wd (gC G) ad K 0 shsR) 150 [(0, .ref (ad 0)), (1, .int a1), (3, .int a3), (5, .int a5), (6, .int a6)] [] := by
  intro n
  induction n with
  | zero =>
    intro a1 a3 a5 a6 K h
    cases (show (none : Option (Int32 × Mem)) = some res from h)
  | succ n ih =>
    intro a1 a3 a5 a6 K h
    exact wF_X9_lay_150 (k150 := fun a1 a3 a5 a6 K => L_X9_lay_150  n a1 a3 a5 a6 K) C hD RET (fun h => ih h) h
def F_X9_lay_129 (a1 : Int32) (a2 : Int32) (a3 : Int32) (a5 : Int32) (t0 : Int32) (t1 : Int32) (K : Mem) : Option (Int32 × Mem) :=
  gd (inb t1 5) <|
  nm (up K 9 (Int32.toNatClampNeg t1) t0) fun K31 =>
  if a2 = 2 then (
    gd (inb a3 4) <|
    gd (inb a1 5) <|
    nm (up K31 10 (Int32.toNatClampNeg a1) (K31 5 (Int32.toNatClampNeg a3))) fun K35 =>
    L_X9_lay_150 FU a1 a3 a5 0 K35
  ) else (
    some (a5, K31)
  )
set_option maxRecDepth 100000 in
set_option maxHeartbeats 4000000 in
theorem wF_X9_lay_129 {G : Ctx} {ad : Nat → Nat} (C : Cx G RX9 cX9_lay 7 2 46) (hD : ∀ K, va_D (gA G) (wd (gC G) ad K 0 shsR)) {res : (Int32 × Mem)} (RET : RI G cX9_lay 7 (wd (gC G) ad res.2 0 shsR) res.1) {a1 : Int32} {a2 : Int32} {a3 : Int32} {a5 : Int32} {t0 : Int32} {t1 : Int32} {K : Mem} (h : F_X9_lay_129 a1 a2 a3 a5 t0 t1 K = some res) : V G 7 (wd (gC G) ad K 0 shsR) 129 [(0, .ref (ad 0)), (1, .int a1), (2, .int a2), (3, .int a3), (5, .int a5)] [.int t0, .int t1, .ref (ad 9)] := by
  unfold F_X9_lay_129 at h
  obtain ⟨b30, h⟩ := gdS h
  obtain ⟨K31, eK31, h⟩ := nmS h
  refine v_iast C hD dX9_lay_129 rfl sr_9 b30 eK31 ?_
  refine v_iload_n C dX9_lay_130 rfl rfl 2 rfl ?_
  refine v_iconst C dX9_lay_131 rfl ic_2 ?_
  refine v_icmp_ne C dX9_lay_132 (tgt := 187) (by decide) rfl (fun c32 => ?_) (fun c32 => ?_)
  · have h := ifn c32 h
    refine v_iload C dX9_lay_187 rfl 4 rfl ?_
    obtain rfl := Option.some.inj h
    exact RET _ _ dX9_lay_189
  · have h := ifp c32 h
    refine v_aload_n C dX9_lay_135 rfl rfl 0 rfl ?_
    refine v_getr C dX9_lay_136 rfl ff_X9_37 sr_0 rfl ?_
    refine v_iload_n C dX9_lay_139 rfl rfl 1 rfl ?_
    refine v_aload_n C dX9_lay_140 rfl rfl 0 rfl ?_
    refine v_getr C dX9_lay_141 rfl ff_X9_22 sr_0 rfl ?_
    refine v_iload_n C dX9_lay_144 rfl rfl 3 rfl ?_
    obtain ⟨b33, h⟩ := gdS h
    refine v_iald C dX9_lay_145 rfl sr_5 b33 ?_
    obtain ⟨b34, h⟩ := gdS h
    obtain ⟨K35, eK35, h⟩ := nmS h
    refine v_iast C hD dX9_lay_146 rfl sr_10 b34 eK35 ?_
    refine v_iconst C dX9_lay_147 rfl ic_0 ?_
    refine v_istore C dX9_lay_148 rfl (by decide) (L' := [(6, .int 0), (0, .ref (ad 0)), (1, .int a1), (2, .int a2), (3, .int a3), (5, .int a5)]) rfl ?_
    refine v_sub [1, 2, 4, 5, 0] rfl ?_
    exact wL_X9_lay_150 C hD RET FU h
def F_X9_lay_109 (a1 : Int32) (a2 : Int32) (a3 : Int32) (a5 : Int32) (t0 : Int32) (t1 : Int32) (K : Mem) : Option (Int32 × Mem) :=
  gd (inb t1 5) <|
  nm (up K 8 (Int32.toNatClampNeg t1) t0) fun K26 =>
  if a2 = 1 then (
    bd (C_X9_worth K26 a3) fun r29 =>
    F_X9_lay_129 a1 a2 a3 a5 r29 a1 K26
  ) else (
    F_X9_lay_129 a1 a2 a3 a5 0 a1 K26
  )
set_option maxRecDepth 100000 in
set_option maxHeartbeats 4000000 in
theorem wF_X9_lay_109 {G : Ctx} {ad : Nat → Nat} (C : Cx G RX9 cX9_lay 7 2 46) (hD : ∀ K, va_D (gA G) (wd (gC G) ad K 0 shsR)) {res : (Int32 × Mem)} (RET : RI G cX9_lay 7 (wd (gC G) ad res.2 0 shsR) res.1) {a1 : Int32} {a2 : Int32} {a3 : Int32} {a5 : Int32} {t0 : Int32} {t1 : Int32} {K : Mem} (h : F_X9_lay_109 a1 a2 a3 a5 t0 t1 K = some res) : V G 7 (wd (gC G) ad K 0 shsR) 109 [(0, .ref (ad 0)), (1, .int a1), (2, .int a2), (3, .int a3), (5, .int a5)] [.int t0, .int t1, .ref (ad 8)] := by
  unfold F_X9_lay_109 at h
  obtain ⟨b25, h⟩ := gdS h
  obtain ⟨K26, eK26, h⟩ := nmS h
  refine v_iast C hD dX9_lay_109 rfl sr_8 b25 eK26 ?_
  refine v_aload_n C dX9_lay_110 rfl rfl 0 rfl ?_
  refine v_getr C dX9_lay_111 rfl ff_X9_34 sr_0 rfl ?_
  refine v_iload_n C dX9_lay_114 rfl rfl 1 rfl ?_
  refine v_iload_n C dX9_lay_115 rfl rfl 2 rfl ?_
  refine v_iconst C dX9_lay_116 rfl ic_1 ?_
  refine v_icmp_ne C dX9_lay_117 (tgt := 128) (by decide) rfl (fun c27 => ?_) (fun c27 => ?_)
  · have h := ifn c27 h
    refine v_iconst C dX9_lay_128 rfl ic_0 ?_
    exact wF_X9_lay_129 C hD RET h
  · have h := ifp c27 h
    refine v_aload_n C dX9_lay_120 rfl rfl 0 rfl ?_
    refine v_iload_n C dX9_lay_121 rfl rfl 3 rfl ?_
    obtain ⟨r29, e28, h⟩ := bdS h
    refine v_callVi C yv_X9_worth m_1021 (c_X9_worth e28) (Sub.whole hD _ _) ⟨_, _, _, _, _, wd_at sr_0, rfl⟩ (As := [.int a3]) rfl rfl (Nat.le_of_ble_eq_true rfl) ⟨Nat.le_of_ble_eq_true rfl, Nat.le_of_ble_eq_true rfl⟩ dX9_lay_122 rfl ?_
    refine v_goto C dX9_lay_125 (tgt := 129) (by decide) ?_
    exact wF_X9_lay_129 C hD RET h
def F_X9_lay_74 (a1 : Int32) (a2 : Int32) (a3 : Int32) (K : Mem) : Option (Int32 × Mem) :=
  gd (inb a1 5) <|
  nm (K 7 (Int32.toNatClampNeg a1)) fun v19 =>
  gd (inb a1 5) <|
  nm (up K 7 (Int32.toNatClampNeg a1) a2) fun K21 =>
  if a2 = 1 then (
    bd (C_X9_of K21 a3 0) fun r24 =>
    F_X9_lay_109 a1 a2 a3 v19 r24 a1 K21
  ) else (
    F_X9_lay_109 a1 a2 a3 v19 a3 a1 K21
  )
set_option maxRecDepth 100000 in
set_option maxHeartbeats 4000000 in
theorem wF_X9_lay_74 {G : Ctx} {ad : Nat → Nat} (C : Cx G RX9 cX9_lay 7 2 46) (hD : ∀ K, va_D (gA G) (wd (gC G) ad K 0 shsR)) {res : (Int32 × Mem)} (RET : RI G cX9_lay 7 (wd (gC G) ad res.2 0 shsR) res.1) {a1 : Int32} {a2 : Int32} {a3 : Int32} {K : Mem} (h : F_X9_lay_74 a1 a2 a3 K = some res) : V G 7 (wd (gC G) ad K 0 shsR) 74 [(0, .ref (ad 0)), (1, .int a1), (2, .int a2), (3, .int a3)] [] := by
  unfold F_X9_lay_74 at h
  refine v_aload_n C dX9_lay_74 rfl rfl 0 rfl ?_
  refine v_getr C dX9_lay_75 rfl ff_X9_28 sr_0 rfl ?_
  refine v_iload_n C dX9_lay_78 rfl rfl 1 rfl ?_
  obtain ⟨b18, h⟩ := gdS h
  refine v_iald C dX9_lay_79 rfl sr_7 b18 ?_
  obtain ⟨v19, ev19, h⟩ := nmS h
  refine v_nmi ev19 ?_
  refine v_istore C dX9_lay_80 rfl (by decide) (L' := [(5, .int v19), (0, .ref (ad 0)), (1, .int a1), (2, .int a2), (3, .int a3)]) rfl ?_
  refine v_aload_n C dX9_lay_82 rfl rfl 1 rfl ?_
  refine v_getr C dX9_lay_83 rfl ff_X9_28 sr_0 rfl ?_
  refine v_iload_n C dX9_lay_86 rfl rfl 2 rfl ?_
  refine v_iload_n C dX9_lay_87 rfl rfl 3 rfl ?_
  obtain ⟨b20, h⟩ := gdS h
  obtain ⟨K21, eK21, h⟩ := nmS h
  refine v_iast C hD dX9_lay_88 rfl sr_7 b20 eK21 ?_
  refine v_aload_n C dX9_lay_89 rfl rfl 1 rfl ?_
  refine v_getr C dX9_lay_90 rfl ff_X9_31 sr_0 rfl ?_
  refine v_iload_n C dX9_lay_93 rfl rfl 2 rfl ?_
  refine v_iload_n C dX9_lay_94 rfl rfl 3 rfl ?_
  refine v_iconst C dX9_lay_95 rfl ic_1 ?_
  refine v_icmp_ne C dX9_lay_96 (tgt := 108) (by decide) rfl (fun c22 => ?_) (fun c22 => ?_)
  · have h := ifn c22 h
    refine v_iload_n C dX9_lay_108 rfl rfl 4 rfl ?_
    refine v_sub [1, 2, 3, 4, 0] rfl ?_
    exact wF_X9_lay_109 C hD RET h
  · have h := ifp c22 h
    refine v_aload_n C dX9_lay_99 rfl rfl 1 rfl ?_
    refine v_iload_n C dX9_lay_100 rfl rfl 4 rfl ?_
    refine v_iconst C dX9_lay_101 rfl ic_0 ?_
    obtain ⟨r24, e23, h⟩ := bdS h
    refine v_callVi C yv_X9_of m_980 (c_X9_of e23) (Sub.whole hD _ _) ⟨_, _, _, _, _, wd_at sr_0, rfl⟩ (As := [.int a3, .int 0]) rfl rfl (Nat.le_of_ble_eq_true rfl) ⟨Nat.le_of_ble_eq_true rfl, Nat.le_of_ble_eq_true rfl⟩ dX9_lay_102 rfl ?_
    refine v_goto C dX9_lay_105 (tgt := 109) (by decide) ?_
    refine v_sub [1, 2, 3, 4, 0] rfl ?_
    exact wF_X9_lay_109 C hD RET h
def F_X9_lay_39 (a1 : Int32) (a2 : Int32) (a3 : Int32) (t0 : Int32) (K : Mem) : Option (Int32 × Mem) :=
  bd (C_X9_isSlot a1) fun r8 =>
  if r8 = 0 then (
    some ((-1000000001), K)
  ) else (
    if t0 = 0 then (
      some ((-1000000001), K)
    ) else (
      if a2 = 2 then (
        gd (inb a3 4) <|
        if 0 ≤ (K 4 (Int32.toNatClampNeg a3)) then (
          F_X9_lay_74 a1 a2 a3 K
        ) else (
          some ((-1000000011), K)
        )
      ) else (
        F_X9_lay_74 a1 a2 a3 K
      )
    )
  )
set_option maxRecDepth 100000 in
set_option maxHeartbeats 4000000 in
theorem wF_X9_lay_39 {G : Ctx} {ad : Nat → Nat} (C : Cx G RX9 cX9_lay 7 2 46) (hD : ∀ K, va_D (gA G) (wd (gC G) ad K 0 shsR)) {res : (Int32 × Mem)} (RET : RI G cX9_lay 7 (wd (gC G) ad res.2 0 shsR) res.1) {a1 : Int32} {a2 : Int32} {a3 : Int32} {t0 : Int32} {K : Mem} (h : F_X9_lay_39 a1 a2 a3 t0 K = some res) : V G 7 (wd (gC G) ad K 0 shsR) 39 [(0, .ref (ad 0)), (1, .int a1), (2, .int a2), (3, .int a3)] [.int t0] := by
  unfold F_X9_lay_39 at h
  refine v_istore C dX9_lay_39 rfl (by decide) (L' := [(4, .int t0), (0, .ref (ad 0)), (1, .int a1), (2, .int a2), (3, .int a3)]) rfl ?_
  refine v_iload_n C dX9_lay_41 rfl rfl 2 rfl ?_
  obtain ⟨r8, e7, h⟩ := bdS h
  refine v_callSi C ys_X9_isSlot m_1341 (c_X9_isSlot e7) (Sub.whole hD _ _) (As := [.int a1]) rfl rfl (Nat.le_of_ble_eq_true rfl) ⟨Nat.le_of_ble_eq_true rfl, Nat.le_of_ble_eq_true rfl⟩ dX9_lay_42 rfl ?_
  refine v_if_eq C dX9_lay_45 (tgt := 53) (by decide) rfl (fun c9 => ?_) (fun c9 => ?_)
  · have h := ifp c9 h
    refine v_ldc C dX9_lay_53 rfl m_953 ?_
    obtain rfl := Option.some.inj h
    exact RET _ _ dX9_lay_55
  · have h := ifn c9 h
    refine v_iload C dX9_lay_48 rfl 0 rfl ?_
    refine v_if_ne C dX9_lay_50 (tgt := 56) (by decide) rfl (fun c10 => ?_) (fun c10 => ?_)
    · have h := ifn c10 h
      refine v_iload_n C dX9_lay_56 rfl rfl 3 rfl ?_
      refine v_iconst C dX9_lay_57 rfl ic_2 ?_
      refine v_icmp_ne C dX9_lay_58 (tgt := 74) (by decide) rfl (fun c11 => ?_) (fun c11 => ?_)
      · have h := ifn c11 h
        refine v_sub [1, 2, 3, 4] rfl ?_
        exact wF_X9_lay_74 C hD RET h
      · have h := ifp c11 h
        refine v_aload_n C dX9_lay_61 rfl rfl 1 rfl ?_
        refine v_getr C dX9_lay_62 rfl ff_X9_19 sr_0 rfl ?_
        refine v_iload_n C dX9_lay_65 rfl rfl 4 rfl ?_
        obtain ⟨b12, h⟩ := gdS h
        refine v_iald C dX9_lay_66 rfl sr_4 b12 ?_
        refine v_if_ge C dX9_lay_67 (tgt := 74) (by decide) rfl (fun c13 => ?_) (fun c13 => ?_)
        · have h := ifp c13 h
          refine v_sub [1, 2, 3, 4] rfl ?_
          exact wF_X9_lay_74 C hD RET h
        · have h := ifn c13 h
          refine v_ldcw C dX9_lay_70 rfl m_1310 ?_
          obtain rfl := Option.some.inj h
          exact RET _ _ dX9_lay_73
    · have h := ifp c10 h
      refine v_ldc C dX9_lay_53 rfl m_953 ?_
      obtain rfl := Option.some.inj h
      exact RET _ _ dX9_lay_55
def F_X9_lay_22 (a1 : Int32) (a2 : Int32) (a3 : Int32) (K : Mem) : Option (Int32 × Mem) :=
  if a2 = 2 then (
    bd (C_X9_isSheet a3) fun r16 =>
    if r16 = 0 then (
      F_X9_lay_39 a1 a2 a3 0 K
    ) else (
      F_X9_lay_39 a1 a2 a3 1 K
    )
  ) else (
    F_X9_lay_39 a1 a2 a3 0 K
  )
set_option maxRecDepth 100000 in
set_option maxHeartbeats 4000000 in
theorem wF_X9_lay_22 {G : Ctx} {ad : Nat → Nat} (C : Cx G RX9 cX9_lay 7 2 46) (hD : ∀ K, va_D (gA G) (wd (gC G) ad K 0 shsR)) {res : (Int32 × Mem)} (RET : RI G cX9_lay 7 (wd (gC G) ad res.2 0 shsR) res.1) {a1 : Int32} {a2 : Int32} {a3 : Int32} {K : Mem} (h : F_X9_lay_22 a1 a2 a3 K = some res) : V G 7 (wd (gC G) ad K 0 shsR) 22 [(0, .ref (ad 0)), (1, .int a1), (2, .int a2), (3, .int a3)] [] := by
  unfold F_X9_lay_22 at h
  refine v_iload_n C dX9_lay_22 rfl rfl 2 rfl ?_
  refine v_iconst C dX9_lay_23 rfl ic_2 ?_
  refine v_icmp_ne C dX9_lay_24 (tgt := 38) (by decide) rfl (fun c14 => ?_) (fun c14 => ?_)
  · have h := ifn c14 h
    refine v_iconst C dX9_lay_38 rfl ic_0 ?_
    exact wF_X9_lay_39 C hD RET h
  · have h := ifp c14 h
    refine v_iload_n C dX9_lay_27 rfl rfl 3 rfl ?_
    obtain ⟨r16, e15, h⟩ := bdS h
    refine v_callSi C ys_X9_isSheet m_1300 (c_X9_isSheet e15) (Sub.whole hD _ _) (As := [.int a3]) rfl rfl (Nat.le_of_ble_eq_true rfl) ⟨Nat.le_of_ble_eq_true rfl, Nat.le_of_ble_eq_true rfl⟩ dX9_lay_28 rfl ?_
    refine v_if_eq C dX9_lay_31 (tgt := 38) (by decide) rfl (fun c17 => ?_) (fun c17 => ?_)
    · have h := ifp c17 h
      refine v_iconst C dX9_lay_38 rfl ic_0 ?_
      exact wF_X9_lay_39 C hD RET h
    · have h := ifn c17 h
      refine v_iconst C dX9_lay_34 rfl ic_1 ?_
      refine v_goto C dX9_lay_35 (tgt := 39) (by decide) ?_
      exact wF_X9_lay_39 C hD RET h
def F_X9_lay_0 (a1 : Int32) (a2 : Int32) (a3 : Int32) (K : Mem) : Option (Int32 × Mem) :=
  if a2 = 0 then (
    F_X9_lay_39 a1 a2 a3 1 K
  ) else (
    if a2 = 3 then (
      F_X9_lay_39 a1 a2 a3 1 K
    ) else (
      if a2 = 1 then (
        bd (C_X9_isCourse K a3) fun r5 =>
        if r5 = 0 then (
          F_X9_lay_22 a1 a2 a3 K
        ) else (
          F_X9_lay_39 a1 a2 a3 1 K
        )
      ) else (
        F_X9_lay_22 a1 a2 a3 K
      )
    )
  )
set_option maxRecDepth 100000 in
set_option maxHeartbeats 4000000 in
theorem wF_X9_lay_0 {G : Ctx} {ad : Nat → Nat} (C : Cx G RX9 cX9_lay 7 2 46) (hD : ∀ K, va_D (gA G) (wd (gC G) ad K 0 shsR)) {res : (Int32 × Mem)} (RET : RI G cX9_lay 7 (wd (gC G) ad res.2 0 shsR) res.1) {a1 : Int32} {a2 : Int32} {a3 : Int32} {K : Mem} (h : F_X9_lay_0 a1 a2 a3 K = some res) : V G 7 (wd (gC G) ad K 0 shsR) 0 [(0, .ref (ad 0)), (1, .int a1), (2, .int a2), (3, .int a3)] [] := by
  unfold F_X9_lay_0 at h
  refine v_iload_n C dX9_lay_0 rfl rfl 2 rfl ?_
  refine v_if_eq C dX9_lay_1 (tgt := 34) (by decide) rfl (fun c1 => ?_) (fun c1 => ?_)
  · have h := ifp c1 h
    refine v_iconst C dX9_lay_34 rfl ic_1 ?_
    refine v_goto C dX9_lay_35 (tgt := 39) (by decide) ?_
    exact wF_X9_lay_39 C hD RET h
  · have h := ifn c1 h
    refine v_iload_n C dX9_lay_4 rfl rfl 2 rfl ?_
    refine v_iconst C dX9_lay_5 rfl ic_3 ?_
    refine v_icmp_eq C dX9_lay_6 (tgt := 34) (by decide) rfl (fun c2 => ?_) (fun c2 => ?_)
    · have h := ifp c2 h
      refine v_iconst C dX9_lay_34 rfl ic_1 ?_
      refine v_goto C dX9_lay_35 (tgt := 39) (by decide) ?_
      exact wF_X9_lay_39 C hD RET h
    · have h := ifn c2 h
      refine v_iload_n C dX9_lay_9 rfl rfl 2 rfl ?_
      refine v_iconst C dX9_lay_10 rfl ic_1 ?_
      refine v_icmp_ne C dX9_lay_11 (tgt := 22) (by decide) rfl (fun c3 => ?_) (fun c3 => ?_)
      · have h := ifn c3 h
        exact wF_X9_lay_22 C hD RET h
      · have h := ifp c3 h
        refine v_aload_n C dX9_lay_14 rfl rfl 0 rfl ?_
        refine v_iload_n C dX9_lay_15 rfl rfl 3 rfl ?_
        obtain ⟨r5, e4, h⟩ := bdS h
        refine v_callVi C yv_X9_isCourse m_967 (c_X9_isCourse e4) (Sub.whole hD _ _) ⟨_, _, _, _, _, wd_at sr_0, rfl⟩ (As := [.int a3]) rfl rfl (Nat.le_of_ble_eq_true rfl) ⟨Nat.le_of_ble_eq_true rfl, Nat.le_of_ble_eq_true rfl⟩ dX9_lay_16 rfl ?_
        refine v_if_ne C dX9_lay_19 (tgt := 34) (by decide) rfl (fun c6 => ?_) (fun c6 => ?_)
        · have h := ifn c6 h
          refine v_iconst C dX9_lay_34 rfl ic_1 ?_
          refine v_goto C dX9_lay_35 (tgt := 39) (by decide) ?_
          exact wF_X9_lay_39 C hD RET h
        · have h := ifp c6 h
          exact wF_X9_lay_22 C hD RET h
def C_X9_lay (a1 : Int32) (a2 : Int32) (a3 : Int32) (K : Mem) : Option (Int32 × Mem) := F_X9_lay_0 a1 a2 a3 K
set_option maxRecDepth 100000 in
theorem c_X9_lay {l : Launch} {D : va_G} {cA : FieldType → ClassId} {X : Ex} {ad : Nat → Nat} {a1 : Int32} {a2 : Int32} {a3 : Int32} {K : Mem} {r : Int32} {K' : Mem} (h : C_X9_lay a1 a2 a3 K = some (r, K')) : MI l D cA X yX9_lay cX9_lay 7 (some .int) 2 46 [.ref (ad 0), .int a1, .int a2, .int a3] (wd cA ad K 0 shsR) (wd cA ad K' 0 shsR) r :=
  mI_of (by decide +kernel) (Nat.le_of_ble_eq_true rfl) (fun G h1 h2 h3 h4 C hD RET => by subst h1 h2 h3 h4; exact wF_X9_lay_0 C (fun K' => wd_D K' hD) RET  h)
def F_X9_ask_0 (K : Mem) (a1 : Int32) (a2 : Int32) : Option Int32 :=
  bd (C_X9_isSlot a1) fun r2 =>
  if r2 = 0 then (
    some (-1000000001)
  ) else (
    bd (C_X9_isIn (Int32.toInt64 a2) 0 5) fun r5 =>
    if r5 = 0 then (
      some (-1000000001)
    ) else (
      gd (inb a1 5) <|
      if (K 7 (Int32.toNatClampNeg a1)) = 0 then (
        some (-1000000011)
      ) else (
        gd (inb a1 5) <|
        if (K 7 (Int32.toNatClampNeg a1)) = 1 then (
          gd (inb a1 5) <|
          bd (C_X9_isOf (K 8 (Int32.toNatClampNeg a1)) a2) fun r13 =>
          if r13 = 0 then (
            some (-1000000012)
          ) else (
            gd (inb a1 5) <|
            some (K 9 (Int32.toNatClampNeg a1))
          )
        ) else (
          some (-1000000012)
        )
      )
    )
  )
set_option maxRecDepth 100000 in
set_option maxHeartbeats 4000000 in
theorem wF_X9_ask_0 {G : Ctx} {ad : Nat → Nat} {K : Mem} (C : Cx G RX9 cX9_ask 3 2 45) (hD : ∀ K, va_D (gA G) (wd (gC G) ad K 0 shsR)) {res : Int32} (RET : RI G cX9_ask 3 (wd (gC G) ad K 0 shsR) res) {a1 : Int32} {a2 : Int32} (h : F_X9_ask_0 K a1 a2 = some res) : V G 3 (wd (gC G) ad K 0 shsR) 0 [(0, .ref (ad 0)), (1, .int a1), (2, .int a2)] [] := by
  unfold F_X9_ask_0 at h
  refine v_iload_n C dX9_ask_0 rfl rfl 1 rfl ?_
  obtain ⟨r2, e1, h⟩ := bdS h
  refine v_callSi C ys_X9_isSlot m_1341 (c_X9_isSlot e1) (Sub.whole hD _ _) (As := [.int a1]) rfl rfl (Nat.le_of_ble_eq_true rfl) ⟨Nat.le_of_ble_eq_true rfl, Nat.le_of_ble_eq_true rfl⟩ dX9_ask_1 rfl ?_
  refine v_if_eq C dX9_ask_4 (tgt := 19) (by decide) rfl (fun c3 => ?_) (fun c3 => ?_)
  · have h := ifp c3 h
    refine v_ldc C dX9_ask_19 rfl m_953 ?_
    obtain rfl := Option.some.inj h
    exact RET _ _ dX9_ask_21
  · have h := ifn c3 h
    refine v_iload_n C dX9_ask_7 rfl rfl 2 rfl ?_
    refine v_i2l C dX9_ask_8 rfl ?_
    refine v_lconst C dX9_ask_9 rfl (v := 0) (by decide) ?_
    refine v_ldc2 C dX9_ask_10 rfl m_948 ?_
    obtain ⟨r5, e4, h⟩ := bdS h
    refine v_callSi C ys_X9_isIn m_949 (c_X9_isIn e4) (Sub.whole hD _ _) (As := [.long (Int32.toInt64 a2), .long 0, .long 5]) rfl rfl (Nat.le_of_ble_eq_true rfl) ⟨Nat.le_of_ble_eq_true rfl, Nat.le_of_ble_eq_true rfl⟩ dX9_ask_13 rfl ?_
    refine v_if_ne C dX9_ask_16 (tgt := 22) (by decide) rfl (fun c6 => ?_) (fun c6 => ?_)
    · have h := ifn c6 h
      refine v_aload_n C dX9_ask_22 rfl rfl 0 rfl ?_
      refine v_getr C dX9_ask_23 rfl ff_X9_28 sr_0 rfl ?_
      refine v_iload_n C dX9_ask_26 rfl rfl 1 rfl ?_
      obtain ⟨b7, h⟩ := gdS h
      refine v_iald C dX9_ask_27 rfl sr_7 b7 ?_
      refine v_if_ne C dX9_ask_28 (tgt := 35) (by decide) rfl (fun c8 => ?_) (fun c8 => ?_)
      · have h := ifn c8 h
        refine v_aload_n C dX9_ask_35 rfl rfl 0 rfl ?_
        refine v_getr C dX9_ask_36 rfl ff_X9_28 sr_0 rfl ?_
        refine v_iload_n C dX9_ask_39 rfl rfl 1 rfl ?_
        obtain ⟨b9, h⟩ := gdS h
        refine v_iald C dX9_ask_40 rfl sr_7 b9 ?_
        refine v_iconst C dX9_ask_41 rfl ic_1 ?_
        refine v_icmp_ne C dX9_ask_42 (tgt := 67) (by decide) rfl (fun c10 => ?_) (fun c10 => ?_)
        · have h := ifn c10 h
          refine v_ldc C dX9_ask_67 rfl m_1032 ?_
          obtain rfl := Option.some.inj h
          exact RET _ _ dX9_ask_69
        · have h := ifp c10 h
          refine v_aload_n C dX9_ask_45 rfl rfl 0 rfl ?_
          refine v_getr C dX9_ask_46 rfl ff_X9_31 sr_0 rfl ?_
          refine v_iload_n C dX9_ask_49 rfl rfl 1 rfl ?_
          obtain ⟨b11, h⟩ := gdS h
          refine v_iald C dX9_ask_50 rfl sr_8 b11 ?_
          refine v_iload_n C dX9_ask_51 rfl rfl 2 rfl ?_
          obtain ⟨r13, e12, h⟩ := bdS h
          refine v_callSi C ys_X9_isOf m_1029 (c_X9_isOf e12) (Sub.whole hD _ _) (As := [.int (K 8 (Int32.toNatClampNeg a1)), .int a2]) rfl rfl (Nat.le_of_ble_eq_true rfl) ⟨Nat.le_of_ble_eq_true rfl, Nat.le_of_ble_eq_true rfl⟩ dX9_ask_52 rfl ?_
          refine v_if_eq C dX9_ask_55 (tgt := 67) (by decide) rfl (fun c14 => ?_) (fun c14 => ?_)
          · have h := ifp c14 h
            refine v_ldc C dX9_ask_67 rfl m_1032 ?_
            obtain rfl := Option.some.inj h
            exact RET _ _ dX9_ask_69
          · have h := ifn c14 h
            refine v_aload_n C dX9_ask_58 rfl rfl 0 rfl ?_
            refine v_getr C dX9_ask_59 rfl ff_X9_34 sr_0 rfl ?_
            refine v_iload_n C dX9_ask_62 rfl rfl 1 rfl ?_
            obtain ⟨b15, h⟩ := gdS h
            refine v_iald C dX9_ask_63 rfl sr_9 b15 ?_
            refine v_goto C dX9_ask_64 (tgt := 69) (by decide) ?_
            obtain rfl := Option.some.inj h
            exact RET _ _ dX9_ask_69
      · have h := ifp c8 h
        refine v_ldcw C dX9_ask_31 rfl m_1310 ?_
        obtain rfl := Option.some.inj h
        exact RET _ _ dX9_ask_34
    · have h := ifp c6 h
      refine v_ldc C dX9_ask_19 rfl m_953 ?_
      obtain rfl := Option.some.inj h
      exact RET _ _ dX9_ask_21
def C_X9_ask (K : Mem) (a1 : Int32) (a2 : Int32) : Option Int32 := F_X9_ask_0 K a1 a2
set_option maxRecDepth 100000 in
theorem c_X9_ask {l : Launch} {D : va_G} {cA : FieldType → ClassId} {X : Ex} {ad : Nat → Nat} {a1 : Int32} {a2 : Int32} {K : Mem} {r : Int32} (h : C_X9_ask K a1 a2 = some r) : MI l D cA X yX9_ask cX9_ask 3 (some .int) 2 45 [.ref (ad 0), .int a1, .int a2] (wd cA ad K 0 shsR) (wd cA ad K 0 shsR) r :=
  mI_of (by decide +kernel) (Nat.le_of_ble_eq_true rfl) (fun G h1 h2 h3 h4 C hD RET => by subst h1 h2 h3 h4; exact wF_X9_ask_0 C (fun K' => wd_D K' hD) RET  h)
def F_X9_item_0 (K : Mem) (a1 : Int32) (a2 : Int32) : Option Int32 :=
  bd (C_X9_isSlot a1) fun r2 =>
  if r2 = 0 then (
    some (-1000000001)
  ) else (
    gd (inb a1 5) <|
    if (K 7 (Int32.toNatClampNeg a1)) = 2 then (
      gd (inb a1 5) <|
      bd (C_X9_isIn (Int32.toInt64 a2) 0 (Int32.toInt64 ((K 10 (Int32.toNatClampNeg a1)) - 1))) fun r8 =>
      if r8 = 0 then (
        some (-1000000013)
      ) else (
        gd (inb ((24 * a1) + a2) 120) <|
        nm (K 11 (Int32.toNatClampNeg ((24 * a1) + a2))) fun v11 =>
        if v11 = (-1000000005) then (
          some (-1000000012)
        ) else (
          some v11
        )
      )
    ) else (
      gd (inb a1 5) <|
      if (K 7 (Int32.toNatClampNeg a1)) = 0 then (
        some (-1000000011)
      ) else (
        some (-1000000012)
      )
    )
  )
set_option maxRecDepth 100000 in
set_option maxHeartbeats 4000000 in
theorem wF_X9_item_0 {G : Ctx} {ad : Nat → Nat} {K : Mem} (C : Cx G RX9 cX9_item 4 2 45) (hD : ∀ K, va_D (gA G) (wd (gC G) ad K 0 shsR)) {res : Int32} (RET : RI G cX9_item 4 (wd (gC G) ad K 0 shsR) res) {a1 : Int32} {a2 : Int32} (h : F_X9_item_0 K a1 a2 = some res) : V G 4 (wd (gC G) ad K 0 shsR) 0 [(0, .ref (ad 0)), (1, .int a1), (2, .int a2)] [] := by
  unfold F_X9_item_0 at h
  refine v_iload_n C dX9_item_0 rfl rfl 1 rfl ?_
  obtain ⟨r2, e1, h⟩ := bdS h
  refine v_callSi C ys_X9_isSlot m_1341 (c_X9_isSlot e1) (Sub.whole hD _ _) (As := [.int a1]) rfl rfl (Nat.le_of_ble_eq_true rfl) ⟨Nat.le_of_ble_eq_true rfl, Nat.le_of_ble_eq_true rfl⟩ dX9_item_1 rfl ?_
  refine v_if_ne C dX9_item_4 (tgt := 10) (by decide) rfl (fun c3 => ?_) (fun c3 => ?_)
  · have h := ifn c3 h
    refine v_aload_n C dX9_item_10 rfl rfl 0 rfl ?_
    refine v_getr C dX9_item_11 rfl ff_X9_28 sr_0 rfl ?_
    refine v_iload_n C dX9_item_14 rfl rfl 1 rfl ?_
    obtain ⟨b4, h⟩ := gdS h
    refine v_iald C dX9_item_15 rfl sr_7 b4 ?_
    refine v_iconst C dX9_item_16 rfl ic_2 ?_
    refine v_icmp_eq C dX9_item_17 (tgt := 38) (by decide) rfl (fun c5 => ?_) (fun c5 => ?_)
    · have h := ifp c5 h
      refine v_iload_n C dX9_item_38 rfl rfl 2 rfl ?_
      refine v_i2l C dX9_item_39 rfl ?_
      refine v_lconst C dX9_item_40 rfl (v := 0) (by decide) ?_
      refine v_aload_n C dX9_item_41 rfl rfl 0 rfl ?_
      refine v_getr C dX9_item_42 rfl ff_X9_37 sr_0 rfl ?_
      refine v_iload_n C dX9_item_45 rfl rfl 1 rfl ?_
      obtain ⟨b6, h⟩ := gdS h
      refine v_iald C dX9_item_46 rfl sr_10 b6 ?_
      refine v_iconst C dX9_item_47 rfl ic_1 ?_
      refine v_isub C dX9_item_48 rfl ?_
      refine v_i2l C dX9_item_49 rfl ?_
      obtain ⟨r8, e7, h⟩ := bdS h
      refine v_callSi C ys_X9_isIn m_949 (c_X9_isIn e7) (Sub.whole hD _ _) (As := [.long (Int32.toInt64 a2), .long 0, .long (Int32.toInt64 ((K 10 (Int32.toNatClampNeg a1)) - 1))]) rfl rfl (Nat.le_of_ble_eq_true rfl) ⟨Nat.le_of_ble_eq_true rfl, Nat.le_of_ble_eq_true rfl⟩ dX9_item_50 rfl ?_
      refine v_if_ne C dX9_item_53 (tgt := 60) (by decide) rfl (fun c9 => ?_) (fun c9 => ?_)
      · have h := ifn c9 h
        refine v_aload_n C dX9_item_60 rfl rfl 0 rfl ?_
        refine v_getr C dX9_item_61 rfl ff_X9_40 sr_0 rfl ?_
        refine v_bipush C dX9_item_64 rfl bi_24 ?_
        refine v_iload_n C dX9_item_66 rfl rfl 1 rfl ?_
        refine v_imul C dX9_item_67 rfl ?_
        refine v_iload_n C dX9_item_68 rfl rfl 2 rfl ?_
        refine v_iadd C dX9_item_69 rfl ?_
        obtain ⟨b10, h⟩ := gdS h
        refine v_iald C dX9_item_70 rfl sr_11 b10 ?_
        obtain ⟨v11, ev11, h⟩ := nmS h
        refine v_nmi ev11 ?_
        refine v_istore_n C dX9_item_71 rfl rfl (by decide) (L' := [(3, .int v11), (0, .ref (ad 0)), (1, .int a1), (2, .int a2)]) rfl ?_
        refine v_iload_n C dX9_item_72 rfl rfl 0 rfl ?_
        refine v_ldc C dX9_item_73 rfl m_1145 ?_
        refine v_icmp_ne C dX9_item_75 (tgt := 83) (by decide) rfl (fun c12 => ?_) (fun c12 => ?_)
        · have h := ifn c12 h
          refine v_iload_n C dX9_item_83 rfl rfl 0 rfl ?_
          obtain rfl := Option.some.inj h
          exact RET _ _ dX9_item_84
        · have h := ifp c12 h
          refine v_ldc C dX9_item_78 rfl m_1032 ?_
          refine v_goto C dX9_item_80 (tgt := 84) (by decide) ?_
          obtain rfl := Option.some.inj h
          exact RET _ _ dX9_item_84
      · have h := ifp c9 h
        refine v_ldcw C dX9_item_56 rfl m_1311 ?_
        obtain rfl := Option.some.inj h
        exact RET _ _ dX9_item_59
    · have h := ifn c5 h
      refine v_aload_n C dX9_item_20 rfl rfl 0 rfl ?_
      refine v_getr C dX9_item_21 rfl ff_X9_28 sr_0 rfl ?_
      refine v_iload_n C dX9_item_24 rfl rfl 1 rfl ?_
      obtain ⟨b13, h⟩ := gdS h
      refine v_iald C dX9_item_25 rfl sr_7 b13 ?_
      refine v_if_ne C dX9_item_26 (tgt := 35) (by decide) rfl (fun c14 => ?_) (fun c14 => ?_)
      · have h := ifn c14 h
        refine v_ldc C dX9_item_35 rfl m_1032 ?_
        obtain rfl := Option.some.inj h
        exact RET _ _ dX9_item_37
      · have h := ifp c14 h
        refine v_ldcw C dX9_item_29 rfl m_1310 ?_
        refine v_goto C dX9_item_32 (tgt := 37) (by decide) ?_
        obtain rfl := Option.some.inj h
        exact RET _ _ dX9_item_37
  · have h := ifp c3 h
    refine v_ldc C dX9_item_7 rfl m_953 ?_
    obtain rfl := Option.some.inj h
    exact RET _ _ dX9_item_9
def C_X9_item (K : Mem) (a1 : Int32) (a2 : Int32) : Option Int32 := F_X9_item_0 K a1 a2
set_option maxRecDepth 100000 in
theorem c_X9_item {l : Launch} {D : va_G} {cA : FieldType → ClassId} {X : Ex} {ad : Nat → Nat} {a1 : Int32} {a2 : Int32} {K : Mem} {r : Int32} (h : C_X9_item K a1 a2 = some r) : MI l D cA X yX9_item cX9_item 4 (some .int) 2 45 [.ref (ad 0), .int a1, .int a2] (wd cA ad K 0 shsR) (wd cA ad K 0 shsR) r :=
  mI_of (by decide +kernel) (Nat.le_of_ble_eq_true rfl) (fun G h1 h2 h3 h4 C hD RET => by subst h1 h2 h3 h4; exact wF_X9_item_0 C (fun K' => wd_D K' hD) RET  h)
def F_X9_rest_0 (K : Mem) (a1 : Int32) (a2 : Int32) : Option Int32 :=
  bd (C_X9_isSlot a1) fun r2 =>
  if r2 = 0 then (
    some (-1000000001)
  ) else (
    gd (inb a1 5) <|
    if (K 7 (Int32.toNatClampNeg a1)) = 3 then (
      if a2 = 0 then (
        some (-1000000002)
      ) else (
        gd (inb a1 5) <|
        gd (nz a2) <|
        some (jrem (K 8 (Int32.toNatClampNeg a1)) a2)
      )
    ) else (
      gd (inb a1 5) <|
      if (K 7 (Int32.toNatClampNeg a1)) = 0 then (
        some (-1000000011)
      ) else (
        some (-1000000012)
      )
    )
  )
set_option maxRecDepth 100000 in
set_option maxHeartbeats 4000000 in
theorem wF_X9_rest_0 {G : Ctx} {ad : Nat → Nat} {K : Mem} (C : Cx G RX9 cX9_rest 3 2 45) (hD : ∀ K, va_D (gA G) (wd (gC G) ad K 0 shsR)) {res : Int32} (RET : RI G cX9_rest 3 (wd (gC G) ad K 0 shsR) res) {a1 : Int32} {a2 : Int32} (h : F_X9_rest_0 K a1 a2 = some res) : V G 3 (wd (gC G) ad K 0 shsR) 0 [(0, .ref (ad 0)), (1, .int a1), (2, .int a2)] [] := by
  unfold F_X9_rest_0 at h
  refine v_iload_n C dX9_rest_0 rfl rfl 1 rfl ?_
  obtain ⟨r2, e1, h⟩ := bdS h
  refine v_callSi C ys_X9_isSlot m_1341 (c_X9_isSlot e1) (Sub.whole hD _ _) (As := [.int a1]) rfl rfl (Nat.le_of_ble_eq_true rfl) ⟨Nat.le_of_ble_eq_true rfl, Nat.le_of_ble_eq_true rfl⟩ dX9_rest_1 rfl ?_
  refine v_if_ne C dX9_rest_4 (tgt := 10) (by decide) rfl (fun c3 => ?_) (fun c3 => ?_)
  · have h := ifn c3 h
    refine v_aload_n C dX9_rest_10 rfl rfl 0 rfl ?_
    refine v_getr C dX9_rest_11 rfl ff_X9_28 sr_0 rfl ?_
    refine v_iload_n C dX9_rest_14 rfl rfl 1 rfl ?_
    obtain ⟨b4, h⟩ := gdS h
    refine v_iald C dX9_rest_15 rfl sr_7 b4 ?_
    refine v_iconst C dX9_rest_16 rfl ic_3 ?_
    refine v_icmp_eq C dX9_rest_17 (tgt := 38) (by decide) rfl (fun c5 => ?_) (fun c5 => ?_)
    · have h := ifp c5 h
      refine v_iload_n C dX9_rest_38 rfl rfl 2 rfl ?_
      refine v_if_ne C dX9_rest_39 (tgt := 47) (by decide) rfl (fun c6 => ?_) (fun c6 => ?_)
      · have h := ifn c6 h
        refine v_aload_n C dX9_rest_47 rfl rfl 0 rfl ?_
        refine v_getr C dX9_rest_48 rfl ff_X9_31 sr_0 rfl ?_
        refine v_iload_n C dX9_rest_51 rfl rfl 1 rfl ?_
        obtain ⟨b7, h⟩ := gdS h
        refine v_iald C dX9_rest_52 rfl sr_8 b7 ?_
        refine v_iload_n C dX9_rest_53 rfl rfl 2 rfl ?_
        obtain ⟨b8, h⟩ := gdS h
        refine v_irem C dX9_rest_54 rfl (nzS b8) ?_
        obtain rfl := Option.some.inj h
        exact RET _ _ dX9_rest_55
      · have h := ifp c6 h
        refine v_ldc C dX9_rest_42 rfl m_1061 ?_
        refine v_goto C dX9_rest_44 (tgt := 55) (by decide) ?_
        obtain rfl := Option.some.inj h
        exact RET _ _ dX9_rest_55
    · have h := ifn c5 h
      refine v_aload_n C dX9_rest_20 rfl rfl 0 rfl ?_
      refine v_getr C dX9_rest_21 rfl ff_X9_28 sr_0 rfl ?_
      refine v_iload_n C dX9_rest_24 rfl rfl 1 rfl ?_
      obtain ⟨b9, h⟩ := gdS h
      refine v_iald C dX9_rest_25 rfl sr_7 b9 ?_
      refine v_if_ne C dX9_rest_26 (tgt := 35) (by decide) rfl (fun c10 => ?_) (fun c10 => ?_)
      · have h := ifn c10 h
        refine v_ldc C dX9_rest_35 rfl m_1032 ?_
        obtain rfl := Option.some.inj h
        exact RET _ _ dX9_rest_37
      · have h := ifp c10 h
        refine v_ldcw C dX9_rest_29 rfl m_1310 ?_
        refine v_goto C dX9_rest_32 (tgt := 37) (by decide) ?_
        obtain rfl := Option.some.inj h
        exact RET _ _ dX9_rest_37
  · have h := ifp c3 h
    refine v_ldc C dX9_rest_7 rfl m_953 ?_
    obtain rfl := Option.some.inj h
    exact RET _ _ dX9_rest_9
def C_X9_rest (K : Mem) (a1 : Int32) (a2 : Int32) : Option Int32 := F_X9_rest_0 K a1 a2
set_option maxRecDepth 100000 in
theorem c_X9_rest {l : Launch} {D : va_G} {cA : FieldType → ClassId} {X : Ex} {ad : Nat → Nat} {a1 : Int32} {a2 : Int32} {K : Mem} {r : Int32} (h : C_X9_rest K a1 a2 = some r) : MI l D cA X yX9_rest cX9_rest 3 (some .int) 2 45 [.ref (ad 0), .int a1, .int a2] (wd cA ad K 0 shsR) (wd cA ad K 0 shsR) r :=
  mI_of (by decide +kernel) (Nat.le_of_ble_eq_true rfl) (fun G h1 h2 h3 h4 C hD RET => by subst h1 h2 h3 h4; exact wF_X9_rest_0 C (fun K' => wd_D K' hD) RET  h)
def F_X9_tell_0 (a1 : Int32) (K : Mem) : Option (Int32 × Mem) :=
  if (K 0 31) = 60 then (
    some ((-1000000003), K)
  ) else (
    gd (inb (K 0 31) 60) <|
    nm (up K 19 (Int32.toNatClampNeg (K 0 31)) a1) fun K3 =>
    nm (up K3 0 31 ((K3 0 31) + 1)) fun K4 =>
    some (K4 0 31, K4)
  )
set_option maxRecDepth 100000 in
set_option maxHeartbeats 4000000 in
theorem wF_X9_tell_0 {G : Ctx} {ad : Nat → Nat} (C : Cx G RX9 cX9_tell 2 0 0) (hD : ∀ K, va_D (gA G) (wd (gC G) ad K 0 shsR)) {res : (Int32 × Mem)} (RET : RI G cX9_tell 2 (wd (gC G) ad res.2 0 shsR) res.1) {a1 : Int32} {K : Mem} (h : F_X9_tell_0 a1 K = some res) : V G 2 (wd (gC G) ad K 0 shsR) 0 [(0, .ref (ad 0)), (1, .int a1)] [] := by
  unfold F_X9_tell_0 at h
  refine v_aload_n C dX9_tell_0 rfl rfl 0 rfl ?_
  refine v_getf C dX9_tell_1 rfl ff_X9_347 sr_0 rfl ?_
  refine v_bipush C dX9_tell_4 rfl bi_60 ?_
  refine v_icmp_ne C dX9_tell_6 (tgt := 12) (by decide) rfl (fun c1 => ?_) (fun c1 => ?_)
  · have h := ifn c1 h
    refine v_aload_n C dX9_tell_12 rfl rfl 0 rfl ?_
    refine v_getr C dX9_tell_13 rfl ff_X9_64 sr_0 rfl ?_
    refine v_aload_n C dX9_tell_16 rfl rfl 0 rfl ?_
    refine v_getf C dX9_tell_17 rfl ff_X9_347 sr_0 rfl ?_
    refine v_iload_n C dX9_tell_20 rfl rfl 1 rfl ?_
    obtain ⟨b2, h⟩ := gdS h
    obtain ⟨K3, eK3, h⟩ := nmS h
    refine v_iast C hD dX9_tell_21 rfl sr_19 b2 eK3 ?_
    refine v_aload_n C dX9_tell_22 rfl rfl 0 rfl ?_
    refine v_dup C dX9_tell_23 rfl rfl ?_
    refine v_getf C dX9_tell_24 rfl ff_X9_347 sr_0 rfl ?_
    refine v_iconst C dX9_tell_27 rfl ic_1 ?_
    refine v_iadd C dX9_tell_28 rfl ?_
    obtain ⟨K4, eK4, h⟩ := nmS h
    refine v_putf C hD dX9_tell_29 rfl fp_X9_347 sr_0 rfl eK4 ?_
    refine v_aload_n C dX9_tell_32 rfl rfl 0 rfl ?_
    refine v_getf C dX9_tell_33 rfl ff_X9_347 sr_0 rfl ?_
    obtain rfl := Option.some.inj h
    exact RET _ _ dX9_tell_36
  · have h := ifp c1 h
    refine v_ldc C dX9_tell_9 rfl m_954 ?_
    obtain rfl := Option.some.inj h
    exact RET _ _ dX9_tell_11
def C_X9_tell (a1 : Int32) (K : Mem) : Option (Int32 × Mem) := F_X9_tell_0 a1 K
set_option maxRecDepth 100000 in
theorem c_X9_tell {l : Launch} {D : va_G} {cA : FieldType → ClassId} {X : Ex} {ad : Nat → Nat} {a1 : Int32} {K : Mem} {r : Int32} {K' : Mem} (h : C_X9_tell a1 K = some (r, K')) : MI l D cA X yX9_tell cX9_tell 2 (some .int) 0 0 [.ref (ad 0), .int a1] (wd cA ad K 0 shsR) (wd cA ad K' 0 shsR) r :=
  mI_of (by decide +kernel) (Nat.le_of_ble_eq_true rfl) (fun G h1 h2 h3 h4 C hD RET => by subst h1 h2 h3 h4; exact wF_X9_tell_0 C (fun K' => wd_D K' hD) RET  h)
def F_X9_setAside_2 (k2 : Int32 → Mem → Option Mem) (q1 : Nat) (q2 : Nat) (a3 : Int32) (K : Mem) : Option Mem :=
  if 2858 ≤ a3 then (
    some K
  ) else (
    gd (inb a3 3058) <|
    gd (inb a3 3058) <|
    nm (up K q2 (Int32.toNatClampNeg a3) (K q1 (Int32.toNatClampNeg a3))) fun K4 =>
    nm (a3 + 1) fun v5 =>
    k2 v5 K4
  )
def L_X9_setAside_2 (q1 : Nat) (q2 : Nat) : Nat → Int32 → Mem → Option Mem
  | 0, _, _ => none
  | n + 1, a3, K => F_X9_setAside_2 (fun a3 K => L_X9_setAside_2 q1 q2 n a3 K) q1 q2 a3 K
set_option maxRecDepth 100000 in
set_option maxHeartbeats 4000000 in
theorem wF_X9_setAside_2 {G : Ctx} {ad : Nat → Nat} {q1 : Nat} {q2 : Nat} {k2 : Int32 → Mem → Option Mem} (C : Cx G RX9 cX9_setAside 4 0 0) (hD : ∀ K, va_D (gA G) (wd (gC G) ad K 0 shsR)) {res : Mem} (RET : RV G cX9_setAside 4 (wd (gC G) ad res 0 shsR)) (hk2 : ∀ {a3 : Int32} {K : Mem} , k2 a3 K = some res → V G 4 (wd (gC G) ad K 0 shsR) 2 [(1, .ref (ad q1)), (2, .ref (ad q2)), (3, .int a3)] []) (hq1 : isBig q1) (hq2 : isBig q2) {a3 : Int32} {K : Mem} (h : F_X9_setAside_2 k2 q1 q2 a3 K = some res) : V G 4 (wd (gC G) ad K 0 shsR) 2 [(1, .ref (ad q1)), (2, .ref (ad q2)), (3, .int a3)] [] := by
  unfold F_X9_setAside_2 at h
  refine v_iload_n C dX9_setAside_2 rfl rfl 2 rfl ?_
  refine v_sipush C dX9_setAside_3 rfl si_2858 ?_
  refine v_icmp_ge C dX9_setAside_6 (tgt := 21) (by decide) rfl (fun c1 => ?_) (fun c1 => ?_)
  · have h := ifp c1 h
    obtain rfl := Option.some.inj h
    exact RET _ _ dX9_setAside_21
  · have h := ifn c1 h
    refine v_aload_n C dX9_setAside_9 rfl rfl 1 rfl ?_
    refine v_iload_n C dX9_setAside_10 rfl rfl 2 rfl ?_
    refine v_aload_n C dX9_setAside_11 rfl rfl 0 rfl ?_
    refine v_iload_n C dX9_setAside_12 rfl rfl 2 rfl ?_
    obtain ⟨b2, h⟩ := gdS h
    refine v_iald C dX9_setAside_13 rfl (big_0 hq1) b2 ?_
    obtain ⟨b3, h⟩ := gdS h
    obtain ⟨K4, eK4, h⟩ := nmS h
    refine v_iast C hD dX9_setAside_14 rfl (big_0 hq2) b3 eK4 ?_
    obtain ⟨v5, ev5, h⟩ := nmS h
    refine v_iinc C dX9_setAside_15 rfl 2 rfl (v := v5) (by rw [ev5]; rfl) (by decide) (L' := [(3, .int v5), (1, .ref (ad q1)), (2, .ref (ad q2))]) rfl ?_
    refine v_goto C dX9_setAside_18 (tgt := 2) (by decide) ?_
    refine v_sub [1, 2, 0] rfl ?_
    exact hk2 h
theorem wL_X9_setAside_2 {G : Ctx} {ad : Nat → Nat} {q1 : Nat} {q2 : Nat} (C : Cx G RX9 cX9_setAside 4 0 0) (hD : ∀ K, va_D (gA G) (wd (gC G) ad K 0 shsR)) {res : Mem} (RET : RV G cX9_setAside 4 (wd (gC G) ad res 0 shsR)) (hq1 : isBig q1) (hq2 : isBig q2) : ∀ (n : Nat) {a3 : Int32} {K : Mem} (h : L_X9_setAside_2 q1 q2 n a3 K = some res), V G 4 (wd (gC G) ad K 0 shsR) 2 [(1, .ref (ad q1)), (2, .ref (ad q2)), (3, .int a3)] [] := by
  intro n
  induction n with
  | zero =>
    intro a3 K h
    cases (show (none : Option Mem) = some res from h)
  | succ n ih =>
    intro a3 K h
    exact wF_X9_setAside_2 (k2 := fun a3 K => L_X9_setAside_2 q1 q2 n a3 K) C hD RET (fun h => ih h) hq1 hq2 h
def F_X9_setAside_0 (q1 : Nat) (q2 : Nat) (K : Mem) : Option Mem :=
  L_X9_setAside_2 q1 q2 FU 0 K
set_option maxRecDepth 100000 in
set_option maxHeartbeats 4000000 in
theorem wF_X9_setAside_0 {G : Ctx} {ad : Nat → Nat} {q1 : Nat} {q2 : Nat} (C : Cx G RX9 cX9_setAside 4 0 0) (hD : ∀ K, va_D (gA G) (wd (gC G) ad K 0 shsR)) {res : Mem} (RET : RV G cX9_setAside 4 (wd (gC G) ad res 0 shsR)) (hq1 : isBig q1) (hq2 : isBig q2) {K : Mem} (h : F_X9_setAside_0 q1 q2 K = some res) : V G 4 (wd (gC G) ad K 0 shsR) 0 [(0, .ref (ad 0)), (1, .ref (ad q1)), (2, .ref (ad q2))] [] := by
  unfold F_X9_setAside_0 at h
  refine v_iconst C dX9_setAside_0 rfl ic_0 ?_
  refine v_istore_n C dX9_setAside_1 rfl rfl (by decide) (L' := [(3, .int 0), (0, .ref (ad 0)), (1, .ref (ad q1)), (2, .ref (ad q2))]) rfl ?_
  refine v_sub [2, 3, 0] rfl ?_
  exact wL_X9_setAside_2 C hD RET hq1 hq2 FU h
def C_X9_setAside (q1 : Nat) (q2 : Nat) (K : Mem) : Option Mem := F_X9_setAside_0 q1 q2 K
set_option maxRecDepth 100000 in
theorem c_X9_setAside {l : Launch} {D : va_G} {cA : FieldType → ClassId} {X : Ex} {ad : Nat → Nat} {q1 : Nat} {q2 : Nat} (hq1 : isBig q1) (hq2 : isBig q2) {K : Mem} {K' : Mem} (h : C_X9_setAside q1 q2 K = some K') : MV l D cA X yX9_setAside cX9_setAside 4 0 0 [.ref (ad 0), .ref (ad q1), .ref (ad q2)] (wd cA ad K 0 shsR) (wd cA ad K' 0 shsR) :=
  mV_of (by decide +kernel) (Nat.le_of_ble_eq_true rfl) (fun G h1 h2 h3 h4 C hD RET => by subst h1 h2 h3 h4; exact wF_X9_setAside_0 C (fun K' => wd_D K' hD) RET hq1 hq2 h)
def F_X9_check_170 (a2 : Int32) (a3 : Int32) (a4 : Int32) (K : Mem) : Option (Int32 × Mem) :=
  if a4 = a2 then (
    if a4 = a3 then (
      some (0, K)
    ) else (
      some (1 + a4, K)
    )
  ) else (
    some (1 + a4, K)
  )
set_option maxRecDepth 100000 in
set_option maxHeartbeats 4000000 in
theorem wF_X9_check_170 {G : Ctx} {ad : Nat → Nat} (C : Cx G RX9 cX9_check 5 6 135) (hD : ∀ K, va_D (gA G) (wd (gC G) ad K 0 shsR)) {res : (Int32 × Mem)} (RET : RI G cX9_check 5 (wd (gC G) ad res.2 0 shsR) res.1) {a2 : Int32} {a3 : Int32} {a4 : Int32} {K : Mem} (h : F_X9_check_170 a2 a3 a4 K = some res) : V G 5 (wd (gC G) ad K 0 shsR) 170 [(2, .int a2), (3, .int a3), (4, .int a4)] [] := by
  unfold F_X9_check_170 at h
  refine v_iload C dX9_check_170 rfl 2 rfl ?_
  refine v_iload_n C dX9_check_172 rfl rfl 0 rfl ?_
  refine v_icmp_ne C dX9_check_173 (tgt := 186) (by decide) rfl (fun c35 => ?_) (fun c35 => ?_)
  · have h := ifn c35 h
    refine v_iconst C dX9_check_186 rfl ic_1 ?_
    refine v_iload C dX9_check_187 rfl 2 rfl ?_
    refine v_iadd C dX9_check_189 rfl ?_
    obtain rfl := Option.some.inj h
    exact RET _ _ dX9_check_190
  · have h := ifp c35 h
    refine v_iload C dX9_check_176 rfl 2 rfl ?_
    refine v_iload_n C dX9_check_178 rfl rfl 1 rfl ?_
    refine v_icmp_ne C dX9_check_179 (tgt := 186) (by decide) rfl (fun c36 => ?_) (fun c36 => ?_)
    · have h := ifn c36 h
      refine v_iconst C dX9_check_186 rfl ic_1 ?_
      refine v_iload C dX9_check_187 rfl 2 rfl ?_
      refine v_iadd C dX9_check_189 rfl ?_
      obtain rfl := Option.some.inj h
      exact RET _ _ dX9_check_190
    · have h := ifp c36 h
      refine v_iconst C dX9_check_182 rfl ic_0 ?_
      refine v_goto C dX9_check_183 (tgt := 190) (by decide) ?_
      obtain rfl := Option.some.inj h
      exact RET _ _ dX9_check_190
def F_X9_check_135 (k135 : Int32 → Int32 → Int32 → Mem → Option (Int32 × Mem)) (a2 : Int32) (a3 : Int32) (a4 : Int32) (K : Mem) : Option (Int32 × Mem) :=
  if a2 ≤ a4 then (
    F_X9_check_170 a2 a3 a4 K
  ) else (
    if a3 ≤ a4 then (
      F_X9_check_170 a2 a3 a4 K
    ) else (
      gd (inb a4 60) <|
      gd (inb a4 60) <|
      if (K 19 (Int32.toNatClampNeg a4)) = (K 20 (Int32.toNatClampNeg a4)) then (
        nm (a4 + 1) fun v34 =>
        k135 a2 a3 v34 K
      ) else (
        F_X9_check_170 a2 a3 a4 K
      )
    )
  )
def L_X9_check_135 : Nat → Int32 → Int32 → Int32 → Mem → Option (Int32 × Mem)
  | 0, _, _, _, _ => none
  | n + 1, a2, a3, a4, K => F_X9_check_135 (fun a2 a3 a4 K => L_X9_check_135 n a2 a3 a4 K) a2 a3 a4 K
set_option maxRecDepth 100000 in
set_option maxHeartbeats 4000000 in
theorem wF_X9_check_135 {G : Ctx} {ad : Nat → Nat} {k135 : Int32 → Int32 → Int32 → Mem → Option (Int32 × Mem)} (C : Cx G RX9 cX9_check 5 6 135) (hD : ∀ K, va_D (gA G) (wd (gC G) ad K 0 shsR)) {res : (Int32 × Mem)} (RET : RI G cX9_check 5 (wd (gC G) ad res.2 0 shsR) res.1) (hk135 : ∀ {a2 : Int32} {a3 : Int32} {a4 : Int32} {K : Mem} , k135 a2 a3 a4 K = some res → V G 5 (wd (gC G) ad K 0 shsR) 135 [(0, .ref (ad 0)), (2, .int a2), (3, .int a3), (4, .int a4)] []) {a2 : Int32} {a3 : Int32} {a4 : Int32} {K : Mem} (h : F_X9_check_135 k135 a2 a3 a4 K = some res) : V G 5 (wd (gC G) ad K 0 shsR) 135 [(0, .ref (ad 0)), (2, .int a2), (3, .int a3), (4, .int a4)] [] := by
  unfold F_X9_check_135 at h
  refine v_iload C dX9_check_135 rfl 3 rfl ?_
  refine v_iload_n C dX9_check_137 rfl rfl 1 rfl ?_
  refine v_icmp_ge C dX9_check_138 (tgt := 170) (by decide) rfl (fun c29 => ?_) (fun c29 => ?_)
  · have h := ifp c29 h
    refine v_sub [1, 2, 3] rfl ?_
    exact wF_X9_check_170 C hD RET h
  · have h := ifn c29 h
    refine v_iload C dX9_check_141 rfl 3 rfl ?_
    refine v_iload_n C dX9_check_143 rfl rfl 2 rfl ?_
    refine v_icmp_ge C dX9_check_144 (tgt := 170) (by decide) rfl (fun c30 => ?_) (fun c30 => ?_)
    · have h := ifp c30 h
      refine v_sub [1, 2, 3] rfl ?_
      exact wF_X9_check_170 C hD RET h
    · have h := ifn c30 h
      refine v_aload_n C dX9_check_147 rfl rfl 0 rfl ?_
      refine v_getr C dX9_check_148 rfl ff_X9_64 sr_0 rfl ?_
      refine v_iload C dX9_check_151 rfl 3 rfl ?_
      obtain ⟨b31, h⟩ := gdS h
      refine v_iald C dX9_check_153 rfl sr_19 b31 ?_
      refine v_aload_n C dX9_check_154 rfl rfl 0 rfl ?_
      refine v_getr C dX9_check_155 rfl ff_X9_67 sr_0 rfl ?_
      refine v_iload C dX9_check_158 rfl 3 rfl ?_
      obtain ⟨b32, h⟩ := gdS h
      refine v_iald C dX9_check_160 rfl sr_20 b32 ?_
      refine v_icmp_ne C dX9_check_161 (tgt := 170) (by decide) rfl (fun c33 => ?_) (fun c33 => ?_)
      · have h := ifn c33 h
        refine v_sub [1, 2, 3] rfl ?_
        exact wF_X9_check_170 C hD RET h
      · have h := ifp c33 h
        obtain ⟨v34, ev34, h⟩ := nmS h
        refine v_iinc C dX9_check_164 rfl 3 rfl (v := v34) (by rw [ev34]; rfl) (by decide) (L' := [(4, .int v34), (0, .ref (ad 0)), (2, .int a2), (3, .int a3)]) rfl ?_
        refine v_goto C dX9_check_167 (tgt := 135) (by decide) ?_
        refine v_sub [1, 2, 3, 0] rfl ?_
        exact hk135 h
theorem wL_X9_check_135 {G : Ctx} {ad : Nat → Nat} (C : Cx G RX9 cX9_check 5 6 135) (hD : ∀ K, va_D (gA G) (wd (gC G) ad K 0 shsR)) {res : (Int32 × Mem)} (RET : RI G cX9_check 5 (wd (gC G) ad res.2 0 shsR) res.1) : ∀ (n : Nat) {a2 : Int32} {a3 : Int32} {a4 : Int32} {K : Mem} (h : L_X9_check_135 n a2 a3 a4 K = some res), V G 5 (wd (gC G) ad K 0 shsR) 135 [(0, .ref (ad 0)), (2, .int a2), (3, .int a3), (4, .int a4)] [] := by
  intro n
  induction n with
  | zero =>
    intro a2 a3 a4 K h
    cases (show (none : Option (Int32 × Mem)) = some res from h)
  | succ n ih =>
    intro a2 a3 a4 K h
    exact wF_X9_check_135 (k135 := fun a2 a3 a4 K => L_X9_check_135  n a2 a3 a4 K) C hD RET (fun h => ih h) h
def F_X9_check_64 (k64 : Int32 → Int32 → Int32 → Int32 → Mem → Option (Int32 × Mem)) (a1 : Int32) (a2 : Int32) (a3 : Int32) (a4 : Int32) (K : Mem) : Option (Int32 × Mem) :=
  if a1 ≤ a4 then (
    bd (C_X9_setAside 3 1 K) fun K13 =>
    L_X9_check_135 FU a2 a3 0 K13
  ) else (
    gd (inb 2 3058) <|
    if 9999 ≤ (K 1 (Int32.toNatClampNeg 2)) then (
      bd (C_X9_setAside 3 1 K) fun K17 =>
      L_X9_check_135 FU a2 a3 0 K17
    ) else (
      bd (C_X9_goesOn K) fun K19 =>
      gd (inb 7 3058) <|
      gd (inb a3 60) <|
      nm (up K19 20 (Int32.toNatClampNeg a3) (K19 1 (Int32.toNatClampNeg 7))) fun K22 =>
      bd (C_X9_lostOfAll K22) fun r24 =>
      gd (inb (a3 + 1) 60) <|
      nm (up K22 20 (Int32.toNatClampNeg (a3 + 1)) r24) fun K26 =>
      nm (a3 + 2) fun v27 =>
      nm (a4 + 1) fun v28 =>
      k64 a1 a2 v27 v28 K26
    )
  )
def L_X9_check_64 : Nat → Int32 → Int32 → Int32 → Int32 → Mem → Option (Int32 × Mem)
  | 0, _, _, _, _, _ => none
  | n + 1, a1, a2, a3, a4, K => F_X9_check_64 (fun a1 a2 a3 a4 K => L_X9_check_64 n a1 a2 a3 a4 K) a1 a2 a3 a4 K
set_option maxRecDepth 100000 in
set_option maxHeartbeats 4000000 in
theorem wF_X9_check_64 {G : Ctx} {ad : Nat → Nat} {k64 : Int32 → Int32 → Int32 → Int32 → Mem → Option (Int32 × Mem)} (C : Cx G RX9 cX9_check 5 6 135) (hD : ∀ K, va_D (gA G) (wd (gC G) ad K 0 shsR)) {res : (Int32 × Mem)} (RET : RI G cX9_check 5 (wd (gC G) ad res.2 0 shsR) res.1) (hk64 : ∀ {a1 : Int32} {a2 : Int32} {a3 : Int32} {a4 : Int32} {K : Mem} , k64 a1 a2 a3 a4 K = some res → V G 5 (wd (gC G) ad K 0 shsR) 64 [(0, .ref (ad 0)), (1, .int a1), (2, .int a2), (3, .int a3), (4, .int a4)] []) {a1 : Int32} {a2 : Int32} {a3 : Int32} {a4 : Int32} {K : Mem} (h : F_X9_check_64 k64 a1 a2 a3 a4 K = some res) : V G 5 (wd (gC G) ad K 0 shsR) 64 [(0, .ref (ad 0)), (1, .int a1), (2, .int a2), (3, .int a3), (4, .int a4)] [] := by
  unfold F_X9_check_64 at h
  refine v_iload C dX9_check_64 rfl 4 rfl ?_
  refine v_iload_n C dX9_check_66 rfl rfl 1 rfl ?_
  refine v_icmp_ge C dX9_check_67 (tgt := 120) (by decide) rfl (fun c11 => ?_) (fun c11 => ?_)
  · have h := ifp c11 h
    refine v_aload_n C dX9_check_120 rfl rfl 0 rfl ?_
    refine v_aload_n C dX9_check_121 rfl rfl 0 rfl ?_
    refine v_getr C dX9_check_122 rfl ff_X9_16 sr_0 rfl ?_
    refine v_aload_n C dX9_check_125 rfl rfl 0 rfl ?_
    refine v_getr C dX9_check_126 rfl ff_X9_7 sr_0 rfl ?_
    obtain ⟨K13, e12, h⟩ := bdS h
    refine v_callVv C yv_X9_setAside m_1365 (c_X9_setAside isBig_3 isBig_1 e12) (Sub.whole hD _ _) ⟨_, _, _, _, _, wd_at sr_0, rfl⟩ (As := [.ref (ad 3), .ref (ad 1)]) rfl rfl (Nat.le_of_ble_eq_true rfl) ⟨Nat.le_of_ble_eq_true rfl, Nat.le_of_ble_eq_true rfl⟩ dX9_check_129 rfl ?_
    refine v_iconst C dX9_check_132 rfl ic_0 ?_
    refine v_istore C dX9_check_133 rfl (by decide) (L' := [(4, .int 0), (0, .ref (ad 0)), (1, .int a1), (2, .int a2), (3, .int a3)]) rfl ?_
    refine v_sub [1, 3, 4, 0] rfl ?_
    exact wL_X9_check_135 C hD RET FU h
  · have h := ifn c11 h
    refine v_aload_n C dX9_check_70 rfl rfl 0 rfl ?_
    refine v_getr C dX9_check_71 rfl ff_X9_7 sr_0 rfl ?_
    refine v_iconst C dX9_check_74 rfl ic_2 ?_
    obtain ⟨b14, h⟩ := gdS h
    refine v_iald C dX9_check_75 rfl sr_1 b14 ?_
    refine v_sipush C dX9_check_76 rfl si_9999 ?_
    refine v_icmp_ge C dX9_check_79 (tgt := 120) (by decide) rfl (fun c15 => ?_) (fun c15 => ?_)
    · have h := ifp c15 h
      refine v_aload_n C dX9_check_120 rfl rfl 0 rfl ?_
      refine v_aload_n C dX9_check_121 rfl rfl 0 rfl ?_
      refine v_getr C dX9_check_122 rfl ff_X9_16 sr_0 rfl ?_
      refine v_aload_n C dX9_check_125 rfl rfl 0 rfl ?_
      refine v_getr C dX9_check_126 rfl ff_X9_7 sr_0 rfl ?_
      obtain ⟨K17, e16, h⟩ := bdS h
      refine v_callVv C yv_X9_setAside m_1365 (c_X9_setAside isBig_3 isBig_1 e16) (Sub.whole hD _ _) ⟨_, _, _, _, _, wd_at sr_0, rfl⟩ (As := [.ref (ad 3), .ref (ad 1)]) rfl rfl (Nat.le_of_ble_eq_true rfl) ⟨Nat.le_of_ble_eq_true rfl, Nat.le_of_ble_eq_true rfl⟩ dX9_check_129 rfl ?_
      refine v_iconst C dX9_check_132 rfl ic_0 ?_
      refine v_istore C dX9_check_133 rfl (by decide) (L' := [(4, .int 0), (0, .ref (ad 0)), (1, .int a1), (2, .int a2), (3, .int a3)]) rfl ?_
      refine v_sub [1, 3, 4, 0] rfl ?_
      exact wL_X9_check_135 C hD RET FU h
    · have h := ifn c15 h
      refine v_aload_n C dX9_check_82 rfl rfl 0 rfl ?_
      obtain ⟨K19, e18, h⟩ := bdS h
      refine v_callVv C yv_X9_goesOn m_1097 (c_X9_goesOn e18) (Sub.whole hD _ _) ⟨_, _, _, _, _, wd_at sr_0, rfl⟩ (As := []) rfl rfl (Nat.le_of_ble_eq_true rfl) ⟨Nat.le_of_ble_eq_true rfl, Nat.le_of_ble_eq_true rfl⟩ dX9_check_83 rfl ?_
      refine v_aload_n C dX9_check_86 rfl rfl 0 rfl ?_
      refine v_getr C dX9_check_87 rfl ff_X9_67 sr_0 rfl ?_
      refine v_iload_n C dX9_check_90 rfl rfl 3 rfl ?_
      refine v_aload_n C dX9_check_91 rfl rfl 0 rfl ?_
      refine v_getr C dX9_check_92 rfl ff_X9_7 sr_0 rfl ?_
      refine v_bipush C dX9_check_95 rfl bi_7 ?_
      obtain ⟨b20, h⟩ := gdS h
      refine v_iald C dX9_check_97 rfl sr_1 b20 ?_
      obtain ⟨b21, h⟩ := gdS h
      obtain ⟨K22, eK22, h⟩ := nmS h
      refine v_iast C hD dX9_check_98 rfl sr_20 b21 eK22 ?_
      refine v_aload_n C dX9_check_99 rfl rfl 0 rfl ?_
      refine v_getr C dX9_check_100 rfl ff_X9_67 sr_0 rfl ?_
      refine v_iload_n C dX9_check_103 rfl rfl 3 rfl ?_
      refine v_iconst C dX9_check_104 rfl ic_1 ?_
      refine v_iadd C dX9_check_105 rfl ?_
      refine v_aload_n C dX9_check_106 rfl rfl 0 rfl ?_
      obtain ⟨r24, e23, h⟩ := bdS h
      refine v_callVi C yv_X9_lostOfAll m_1118 (c_X9_lostOfAll e23) (Sub.whole hD _ _) ⟨_, _, _, _, _, wd_at sr_0, rfl⟩ (As := []) rfl rfl (Nat.le_of_ble_eq_true rfl) ⟨Nat.le_of_ble_eq_true rfl, Nat.le_of_ble_eq_true rfl⟩ dX9_check_107 rfl ?_
      obtain ⟨b25, h⟩ := gdS h
      obtain ⟨K26, eK26, h⟩ := nmS h
      refine v_iast C hD dX9_check_110 rfl sr_20 b25 eK26 ?_
      obtain ⟨v27, ev27, h⟩ := nmS h
      refine v_iinc C dX9_check_111 rfl 3 rfl (v := v27) (by rw [ev27]; rfl) (by decide) (L' := [(3, .int v27), (0, .ref (ad 0)), (1, .int a1), (2, .int a2), (4, .int a4)]) rfl ?_
      obtain ⟨v28, ev28, h⟩ := nmS h
      refine v_iinc C dX9_check_114 rfl 4 rfl (v := v28) (by rw [ev28]; rfl) (by decide) (L' := [(4, .int v28), (3, .int v27), (0, .ref (ad 0)), (1, .int a1), (2, .int a2)]) rfl ?_
      refine v_goto C dX9_check_117 (tgt := 64) (by decide) ?_
      refine v_sub [2, 3, 4, 1, 0] rfl ?_
      exact hk64 h
theorem wL_X9_check_64 {G : Ctx} {ad : Nat → Nat} (C : Cx G RX9 cX9_check 5 6 135) (hD : ∀ K, va_D (gA G) (wd (gC G) ad K 0 shsR)) {res : (Int32 × Mem)} (RET : RI G cX9_check 5 (wd (gC G) ad res.2 0 shsR) res.1) : ∀ (n : Nat) {a1 : Int32} {a2 : Int32} {a3 : Int32} {a4 : Int32} {K : Mem} (h : L_X9_check_64 n a1 a2 a3 a4 K = some res), V G 5 (wd (gC G) ad K 0 shsR) 64 [(0, .ref (ad 0)), (1, .int a1), (2, .int a2), (3, .int a3), (4, .int a4)] [] := by
  intro n
  induction n with
  | zero =>
    intro a1 a2 a3 a4 K h
    cases (show (none : Option (Int32 × Mem)) = some res from h)
  | succ n ih =>
    intro a1 a2 a3 a4 K h
    exact wF_X9_check_64 (k64 := fun a1 a2 a3 a4 K => L_X9_check_64  n a1 a2 a3 a4 K) C hD RET (fun h => ih h) h
def F_X9_check_0 (a1 : Int32) (K : Mem) : Option (Int32 × Mem) :=
  nm (K 0 31) fun v1 =>
  nm (up K 0 31 0) fun K2 =>
  bd (C_X9_isIn (Int32.toInt64 a1) 1 30) fun r4 =>
  if r4 = 0 then (
    some ((-1000000001), K2)
  ) else (
    if (K2 0 3) = 0 then (
      some ((-1000000002), K2)
    ) else (
      bd (C_X9_setAside 1 3 K2) fun K8 =>
      bd (C_X9_setAside 2 1 K8) fun K10 =>
      L_X9_check_64 FU a1 v1 0 0 K10
    )
  )
set_option maxRecDepth 100000 in
set_option maxHeartbeats 4000000 in
theorem wF_X9_check_0 {G : Ctx} {ad : Nat → Nat} (C : Cx G RX9 cX9_check 5 6 135) (hD : ∀ K, va_D (gA G) (wd (gC G) ad K 0 shsR)) {res : (Int32 × Mem)} (RET : RI G cX9_check 5 (wd (gC G) ad res.2 0 shsR) res.1) {a1 : Int32} {K : Mem} (h : F_X9_check_0 a1 K = some res) : V G 5 (wd (gC G) ad K 0 shsR) 0 [(0, .ref (ad 0)), (1, .int a1)] [] := by
  unfold F_X9_check_0 at h
  refine v_aload_n C dX9_check_0 rfl rfl 0 rfl ?_
  refine v_getf C dX9_check_1 rfl ff_X9_347 sr_0 rfl ?_
  obtain ⟨v1, ev1, h⟩ := nmS h
  refine v_nmi ev1 ?_
  refine v_istore_n C dX9_check_4 rfl rfl (by decide) (L' := [(2, .int v1), (0, .ref (ad 0)), (1, .int a1)]) rfl ?_
  refine v_aload_n C dX9_check_5 rfl rfl 1 rfl ?_
  refine v_iconst C dX9_check_6 rfl ic_0 ?_
  obtain ⟨K2, eK2, h⟩ := nmS h
  refine v_putf C hD dX9_check_7 rfl fp_X9_347 sr_0 rfl eK2 ?_
  refine v_iload_n C dX9_check_10 rfl rfl 2 rfl ?_
  refine v_i2l C dX9_check_11 rfl ?_
  refine v_lconst C dX9_check_12 rfl (v := 1) (by decide) ?_
  refine v_ldc2 C dX9_check_13 rfl m_1364 ?_
  obtain ⟨r4, e3, h⟩ := bdS h
  refine v_callSi C ys_X9_isIn m_949 (c_X9_isIn e3) (Sub.whole hD _ _) (As := [.long (Int32.toInt64 a1), .long 1, .long 30]) rfl rfl (Nat.le_of_ble_eq_true rfl) ⟨Nat.le_of_ble_eq_true rfl, Nat.le_of_ble_eq_true rfl⟩ dX9_check_16 rfl ?_
  refine v_if_ne C dX9_check_19 (tgt := 25) (by decide) rfl (fun c5 => ?_) (fun c5 => ?_)
  · have h := ifn c5 h
    refine v_aload_n C dX9_check_25 rfl rfl 1 rfl ?_
    refine v_getf C dX9_check_26 rfl ff_X9_352 sr_0 rfl ?_
    refine v_if_ne C dX9_check_29 (tgt := 35) (by decide) rfl (fun c6 => ?_) (fun c6 => ?_)
    · have h := ifn c6 h
      refine v_aload_n C dX9_check_35 rfl rfl 1 rfl ?_
      refine v_aload_n C dX9_check_36 rfl rfl 1 rfl ?_
      refine v_getr C dX9_check_37 rfl ff_X9_7 sr_0 rfl ?_
      refine v_aload_n C dX9_check_40 rfl rfl 1 rfl ?_
      refine v_getr C dX9_check_41 rfl ff_X9_16 sr_0 rfl ?_
      obtain ⟨K8, e7, h⟩ := bdS h
      refine v_callVv C yv_X9_setAside m_1365 (c_X9_setAside isBig_1 isBig_3 e7) (Sub.whole hD _ _) ⟨_, _, _, _, _, wd_at sr_0, rfl⟩ (As := [.ref (ad 1), .ref (ad 3)]) rfl rfl (Nat.le_of_ble_eq_true rfl) ⟨Nat.le_of_ble_eq_true rfl, Nat.le_of_ble_eq_true rfl⟩ dX9_check_44 rfl ?_
      refine v_aload_n C dX9_check_47 rfl rfl 1 rfl ?_
      refine v_aload_n C dX9_check_48 rfl rfl 1 rfl ?_
      refine v_getr C dX9_check_49 rfl ff_X9_13 sr_0 rfl ?_
      refine v_aload_n C dX9_check_52 rfl rfl 1 rfl ?_
      refine v_getr C dX9_check_53 rfl ff_X9_7 sr_0 rfl ?_
      obtain ⟨K10, e9, h⟩ := bdS h
      refine v_callVv C yv_X9_setAside m_1365 (c_X9_setAside isBig_2 isBig_1 e9) (Sub.whole hD _ _) ⟨_, _, _, _, _, wd_at sr_0, rfl⟩ (As := [.ref (ad 2), .ref (ad 1)]) rfl rfl (Nat.le_of_ble_eq_true rfl) ⟨Nat.le_of_ble_eq_true rfl, Nat.le_of_ble_eq_true rfl⟩ dX9_check_56 rfl ?_
      refine v_iconst C dX9_check_59 rfl ic_0 ?_
      refine v_istore_n C dX9_check_60 rfl rfl (by decide) (L' := [(3, .int 0), (2, .int v1), (0, .ref (ad 0)), (1, .int a1)]) rfl ?_
      refine v_iconst C dX9_check_61 rfl ic_0 ?_
      refine v_istore C dX9_check_62 rfl (by decide) (L' := [(4, .int 0), (3, .int 0), (2, .int v1), (0, .ref (ad 0)), (1, .int a1)]) rfl ?_
      refine v_sub [3, 4, 2, 1, 0] rfl ?_
      exact wL_X9_check_64 C hD RET FU h
    · have h := ifp c6 h
      refine v_ldc C dX9_check_32 rfl m_1061 ?_
      obtain rfl := Option.some.inj h
      exact RET _ _ dX9_check_34
  · have h := ifp c5 h
    refine v_ldc C dX9_check_22 rfl m_953 ?_
    obtain rfl := Option.some.inj h
    exact RET _ _ dX9_check_24
def C_X9_check (a1 : Int32) (K : Mem) : Option (Int32 × Mem) := F_X9_check_0 a1 K
set_option maxRecDepth 100000 in
theorem c_X9_check {l : Launch} {D : va_G} {cA : FieldType → ClassId} {X : Ex} {ad : Nat → Nat} {a1 : Int32} {K : Mem} {r : Int32} {K' : Mem} (h : C_X9_check a1 K = some (r, K')) : MI l D cA X yX9_check cX9_check 5 (some .int) 6 135 [.ref (ad 0), .int a1] (wd cA ad K 0 shsR) (wd cA ad K' 0 shsR) r :=
  mI_of (by decide +kernel) (Nat.le_of_ble_eq_true rfl) (fun G h1 h2 h3 h4 C hD RET => by subst h1 h2 h3 h4; exact wF_X9_check_0 C (fun K' => wd_D K' hD) RET  h)
def F_X9_keep_0 (K : Mem) : Option (Int32 × Mem) :=
  nm (up K 0 3 1) fun K1 =>
  bd (C_X9_setAside 1 2 K1) fun K3 =>
  gd (inb 0 3058) <|
  some (K3 1 (Int32.toNatClampNeg 0), K3)
set_option maxRecDepth 100000 in
set_option maxHeartbeats 4000000 in
theorem wF_X9_keep_0 {G : Ctx} {ad : Nat → Nat} (C : Cx G RX9 cX9_keep 1 1 23) (hD : ∀ K, va_D (gA G) (wd (gC G) ad K 0 shsR)) {res : (Int32 × Mem)} (RET : RI G cX9_keep 1 (wd (gC G) ad res.2 0 shsR) res.1) {K : Mem} (h : F_X9_keep_0 K = some res) : V G 1 (wd (gC G) ad K 0 shsR) 0 [(0, .ref (ad 0))] [] := by
  unfold F_X9_keep_0 at h
  refine v_aload_n C dX9_keep_0 rfl rfl 0 rfl ?_
  refine v_iconst C dX9_keep_1 rfl ic_1 ?_
  obtain ⟨K1, eK1, h⟩ := nmS h
  refine v_putz C hD dX9_keep_2 rfl fp_X9_352 sr_0 rfl eK1 ?_
  refine v_aload_n C dX9_keep_5 rfl rfl 0 rfl ?_
  refine v_aload_n C dX9_keep_6 rfl rfl 0 rfl ?_
  refine v_getr C dX9_keep_7 rfl ff_X9_7 sr_0 rfl ?_
  refine v_aload_n C dX9_keep_10 rfl rfl 0 rfl ?_
  refine v_getr C dX9_keep_11 rfl ff_X9_13 sr_0 rfl ?_
  obtain ⟨K3, e2, h⟩ := bdS h
  refine v_callVv C yv_X9_setAside m_1365 (c_X9_setAside isBig_1 isBig_2 e2) (Sub.whole hD _ _) ⟨_, _, _, _, _, wd_at sr_0, rfl⟩ (As := [.ref (ad 1), .ref (ad 2)]) rfl rfl (Nat.le_of_ble_eq_true rfl) ⟨Nat.le_of_ble_eq_true rfl, Nat.le_of_ble_eq_true rfl⟩ dX9_keep_14 rfl ?_
  refine v_aload_n C dX9_keep_17 rfl rfl 0 rfl ?_
  refine v_getr C dX9_keep_18 rfl ff_X9_7 sr_0 rfl ?_
  refine v_iconst C dX9_keep_21 rfl ic_0 ?_
  obtain ⟨b4, h⟩ := gdS h
  refine v_iald C dX9_keep_22 rfl sr_1 b4 ?_
  obtain rfl := Option.some.inj h
  exact RET _ _ dX9_keep_23
def C_X9_keep (K : Mem) : Option (Int32 × Mem) := F_X9_keep_0 K
set_option maxRecDepth 100000 in
theorem c_X9_keep {l : Launch} {D : va_G} {cA : FieldType → ClassId} {X : Ex} {ad : Nat → Nat} {K : Mem} {r : Int32} {K' : Mem} (h : C_X9_keep K = some (r, K')) : MI l D cA X yX9_keep cX9_keep 1 (some .int) 1 23 [.ref (ad 0)] (wd cA ad K 0 shsR) (wd cA ad K' 0 shsR) r :=
  mI_of (by decide +kernel) (Nat.le_of_ble_eq_true rfl) (fun G h1 h2 h3 h4 C hD RET => by subst h1 h2 h3 h4; exact wF_X9_keep_0 C (fun K' => wd_D K' hD) RET  h)
def F_X9_back_0 (K : Mem) : Option (Int32 × Mem) :=
  if (K 0 3) = 0 then (
    some ((-1000000002), K)
  ) else (
    bd (C_X9_setAside 2 1 K) fun K3 =>
    gd (inb 0 3058) <|
    some (K3 1 (Int32.toNatClampNeg 0), K3)
  )
set_option maxRecDepth 100000 in
set_option maxHeartbeats 4000000 in
theorem wF_X9_back_0 {G : Ctx} {ad : Nat → Nat} (C : Cx G RX9 cX9_back 1 1 23) (hD : ∀ K, va_D (gA G) (wd (gC G) ad K 0 shsR)) {res : (Int32 × Mem)} (RET : RI G cX9_back 1 (wd (gC G) ad res.2 0 shsR) res.1) {K : Mem} (h : F_X9_back_0 K = some res) : V G 1 (wd (gC G) ad K 0 shsR) 0 [(0, .ref (ad 0))] [] := by
  unfold F_X9_back_0 at h
  refine v_aload_n C dX9_back_0 rfl rfl 0 rfl ?_
  refine v_getf C dX9_back_1 rfl ff_X9_352 sr_0 rfl ?_
  refine v_if_ne C dX9_back_4 (tgt := 10) (by decide) rfl (fun c1 => ?_) (fun c1 => ?_)
  · have h := ifn c1 h
    refine v_aload_n C dX9_back_10 rfl rfl 0 rfl ?_
    refine v_aload_n C dX9_back_11 rfl rfl 0 rfl ?_
    refine v_getr C dX9_back_12 rfl ff_X9_13 sr_0 rfl ?_
    refine v_aload_n C dX9_back_15 rfl rfl 0 rfl ?_
    refine v_getr C dX9_back_16 rfl ff_X9_7 sr_0 rfl ?_
    obtain ⟨K3, e2, h⟩ := bdS h
    refine v_callVv C yv_X9_setAside m_1365 (c_X9_setAside isBig_2 isBig_1 e2) (Sub.whole hD _ _) ⟨_, _, _, _, _, wd_at sr_0, rfl⟩ (As := [.ref (ad 2), .ref (ad 1)]) rfl rfl (Nat.le_of_ble_eq_true rfl) ⟨Nat.le_of_ble_eq_true rfl, Nat.le_of_ble_eq_true rfl⟩ dX9_back_19 rfl ?_
    refine v_aload_n C dX9_back_22 rfl rfl 0 rfl ?_
    refine v_getr C dX9_back_23 rfl ff_X9_7 sr_0 rfl ?_
    refine v_iconst C dX9_back_26 rfl ic_0 ?_
    obtain ⟨b4, h⟩ := gdS h
    refine v_iald C dX9_back_27 rfl sr_1 b4 ?_
    obtain rfl := Option.some.inj h
    exact RET _ _ dX9_back_28
  · have h := ifp c1 h
    refine v_ldc C dX9_back_7 rfl m_1061 ?_
    obtain rfl := Option.some.inj h
    exact RET _ _ dX9_back_9
def C_X9_back (K : Mem) : Option (Int32 × Mem) := F_X9_back_0 K
set_option maxRecDepth 100000 in
theorem c_X9_back {l : Launch} {D : va_G} {cA : FieldType → ClassId} {X : Ex} {ad : Nat → Nat} {K : Mem} {r : Int32} {K' : Mem} (h : C_X9_back K = some (r, K')) : MI l D cA X yX9_back cX9_back 1 (some .int) 1 23 [.ref (ad 0)] (wd cA ad K 0 shsR) (wd cA ad K' 0 shsR) r :=
  mI_of (by decide +kernel) (Nat.le_of_ble_eq_true rfl) (fun G h1 h2 h3 h4 C hD RET => by subst h1 h2 h3 h4; exact wF_X9_back_0 C (fun K' => wd_D K' hD) RET  h)
def F_X9_count_0 (K : Mem) (a1 : Int32) : Option Int32 :=
  if a1 = 0 then (
    gd (inb 0 3058) <|
    some (K 1 (Int32.toNatClampNeg 0))
  ) else (
    if a1 = 1 then (
      gd (inb 2 3058) <|
      some (K 1 (Int32.toNatClampNeg 2))
    ) else (
      if a1 = 2 then (
        gd (inb 3 3058) <|
        some (K 1 (Int32.toNatClampNeg 3))
      ) else (
        if a1 = 3 then (
          gd (inb 4 3058) <|
          some (K 1 (Int32.toNatClampNeg 4))
        ) else (
          if a1 = 4 then (
            gd (inb 5 3058) <|
            some (K 1 (Int32.toNatClampNeg 5))
          ) else (
            if a1 = 5 then (
              gd (inb 1 3058) <|
              some (K 1 (Int32.toNatClampNeg 1))
            ) else (
              if a1 = 6 then (
                some (K 0 31)
              ) else (
                if a1 = 7 then (
                  some (K 0 16)
                ) else (
                  if a1 = 8 then (
                    gd (inb 9 3058) <|
                    some (K 1 (Int32.toNatClampNeg 9))
                  ) else (
                    some (-1000000001)
                  )
                )
              )
            )
          )
        )
      )
    )
  )
set_option maxRecDepth 100000 in
set_option maxHeartbeats 4000000 in
theorem wF_X9_count_0 {G : Ctx} {ad : Nat → Nat} {K : Mem} (C : Cx G RX9 cX9_count 2 0 0) (hD : ∀ K, va_D (gA G) (wd (gC G) ad K 0 shsR)) {res : Int32} (RET : RI G cX9_count 2 (wd (gC G) ad K 0 shsR) res) {a1 : Int32} (h : F_X9_count_0 K a1 = some res) : V G 2 (wd (gC G) ad K 0 shsR) 0 [(0, .ref (ad 0)), (1, .int a1)] [] := by
  unfold F_X9_count_0 at h
  refine v_iload_n C dX9_count_0 rfl rfl 1 rfl ?_
  by_cases c1 : a1 = 0
  · have h := ifp c1 h
    refine v_tsIn C dX9_count_1 c1 (by decide) (by decide) (off := 51) (by decide) (tgt := 52) (by decide) ?_
    refine v_aload_n C dX9_count_52 rfl rfl 0 rfl ?_
    refine v_getr C dX9_count_53 rfl ff_X9_7 sr_0 rfl ?_
    refine v_iconst C dX9_count_56 rfl ic_0 ?_
    obtain ⟨b2, h⟩ := gdS h
    refine v_iald C dX9_count_57 rfl sr_1 b2 ?_
    obtain rfl := Option.some.inj h
    exact RET _ _ dX9_count_58
  · have h := ifn c1 h
    by_cases c3 : a1 = 1
    · have h := ifp c3 h
      refine v_tsIn C dX9_count_1 c3 (by decide) (by decide) (off := 58) (by decide) (tgt := 59) (by decide) ?_
      refine v_aload_n C dX9_count_59 rfl rfl 0 rfl ?_
      refine v_getr C dX9_count_60 rfl ff_X9_7 sr_0 rfl ?_
      refine v_iconst C dX9_count_63 rfl ic_2 ?_
      obtain ⟨b4, h⟩ := gdS h
      refine v_iald C dX9_count_64 rfl sr_1 b4 ?_
      obtain rfl := Option.some.inj h
      exact RET _ _ dX9_count_65
    · have h := ifn c3 h
      by_cases c5 : a1 = 2
      · have h := ifp c5 h
        refine v_tsIn C dX9_count_1 c5 (by decide) (by decide) (off := 65) (by decide) (tgt := 66) (by decide) ?_
        refine v_aload_n C dX9_count_66 rfl rfl 0 rfl ?_
        refine v_getr C dX9_count_67 rfl ff_X9_7 sr_0 rfl ?_
        refine v_iconst C dX9_count_70 rfl ic_3 ?_
        obtain ⟨b6, h⟩ := gdS h
        refine v_iald C dX9_count_71 rfl sr_1 b6 ?_
        obtain rfl := Option.some.inj h
        exact RET _ _ dX9_count_72
      · have h := ifn c5 h
        by_cases c7 : a1 = 3
        · have h := ifp c7 h
          refine v_tsIn C dX9_count_1 c7 (by decide) (by decide) (off := 72) (by decide) (tgt := 73) (by decide) ?_
          refine v_aload_n C dX9_count_73 rfl rfl 0 rfl ?_
          refine v_getr C dX9_count_74 rfl ff_X9_7 sr_0 rfl ?_
          refine v_iconst C dX9_count_77 rfl ic_4 ?_
          obtain ⟨b8, h⟩ := gdS h
          refine v_iald C dX9_count_78 rfl sr_1 b8 ?_
          obtain rfl := Option.some.inj h
          exact RET _ _ dX9_count_79
        · have h := ifn c7 h
          by_cases c9 : a1 = 4
          · have h := ifp c9 h
            refine v_tsIn C dX9_count_1 c9 (by decide) (by decide) (off := 79) (by decide) (tgt := 80) (by decide) ?_
            refine v_aload_n C dX9_count_80 rfl rfl 0 rfl ?_
            refine v_getr C dX9_count_81 rfl ff_X9_7 sr_0 rfl ?_
            refine v_iconst C dX9_count_84 rfl ic_5 ?_
            obtain ⟨b10, h⟩ := gdS h
            refine v_iald C dX9_count_85 rfl sr_1 b10 ?_
            obtain rfl := Option.some.inj h
            exact RET _ _ dX9_count_86
          · have h := ifn c9 h
            by_cases c11 : a1 = 5
            · have h := ifp c11 h
              refine v_tsIn C dX9_count_1 c11 (by decide) (by decide) (off := 86) (by decide) (tgt := 87) (by decide) ?_
              refine v_aload_n C dX9_count_87 rfl rfl 0 rfl ?_
              refine v_getr C dX9_count_88 rfl ff_X9_7 sr_0 rfl ?_
              refine v_iconst C dX9_count_91 rfl ic_1 ?_
              obtain ⟨b12, h⟩ := gdS h
              refine v_iald C dX9_count_92 rfl sr_1 b12 ?_
              obtain rfl := Option.some.inj h
              exact RET _ _ dX9_count_93
            · have h := ifn c11 h
              by_cases c13 : a1 = 6
              · have h := ifp c13 h
                refine v_tsIn C dX9_count_1 c13 (by decide) (by decide) (off := 93) (by decide) (tgt := 94) (by decide) ?_
                refine v_aload_n C dX9_count_94 rfl rfl 0 rfl ?_
                refine v_getf C dX9_count_95 rfl ff_X9_347 sr_0 rfl ?_
                obtain rfl := Option.some.inj h
                exact RET _ _ dX9_count_98
              · have h := ifn c13 h
                by_cases c14 : a1 = 7
                · have h := ifp c14 h
                  refine v_tsIn C dX9_count_1 c14 (by decide) (by decide) (off := 98) (by decide) (tgt := 99) (by decide) ?_
                  refine v_aload_n C dX9_count_99 rfl rfl 0 rfl ?_
                  refine v_getf C dX9_count_100 rfl ff_X9_226 sr_0 rfl ?_
                  obtain rfl := Option.some.inj h
                  exact RET _ _ dX9_count_103
                · have h := ifn c14 h
                  by_cases c15 : a1 = 8
                  · have h := ifp c15 h
                    refine v_tsIn C dX9_count_1 c15 (by decide) (by decide) (off := 103) (by decide) (tgt := 104) (by decide) ?_
                    refine v_aload_n C dX9_count_104 rfl rfl 0 rfl ?_
                    refine v_getr C dX9_count_105 rfl ff_X9_7 sr_0 rfl ?_
                    refine v_bipush C dX9_count_108 rfl bi_9 ?_
                    obtain ⟨b16, h⟩ := gdS h
                    refine v_iald C dX9_count_110 rfl sr_1 b16 ?_
                    obtain rfl := Option.some.inj h
                    exact RET _ _ dX9_count_111
                  · have h := ifn c15 h
                    refine v_tsOut C dX9_count_1 (by have ec1 := lv_neT c1 (k := 0) (a := 0) (by decide); have ec3 := lv_neT c3 (k := 1) (a := 1) (by decide); have ec5 := lv_neT c5 (k := 2) (a := 2) (by decide); have ec7 := lv_neT c7 (k := 3) (a := 3) (by decide); have ec9 := lv_neT c9 (k := 4) (a := 4) (by decide); have ec11 := lv_neT c11 (k := 5) (a := 5) (by decide); have ec13 := lv_neT c13 (k := 6) (a := 6) (by decide); have ec14 := lv_neT c14 (k := 7) (a := 7) (by decide); have ec15 := lv_neT c15 (k := 8) (a := 8) (by decide); omega) (tgt := 112) (by decide) ?_
                    refine v_ldc C dX9_count_112 rfl m_953 ?_
                    obtain rfl := Option.some.inj h
                    exact RET _ _ dX9_count_114
def C_X9_count (K : Mem) (a1 : Int32) : Option Int32 := F_X9_count_0 K a1
set_option maxRecDepth 100000 in
theorem c_X9_count {l : Launch} {D : va_G} {cA : FieldType → ClassId} {X : Ex} {ad : Nat → Nat} {a1 : Int32} {K : Mem} {r : Int32} (h : C_X9_count K a1 = some r) : MI l D cA X yX9_count cX9_count 2 (some .int) 0 0 [.ref (ad 0), .int a1] (wd cA ad K 0 shsR) (wd cA ad K 0 shsR) r :=
  mI_of (by decide +kernel) (Nat.le_of_ble_eq_true rfl) (fun G h1 h2 h3 h4 C hD RET => by subst h1 h2 h3 h4; exact wF_X9_count_0 C (fun K' => wd_D K' hD) RET  h)
