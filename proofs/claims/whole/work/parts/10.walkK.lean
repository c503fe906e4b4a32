def F_X0_isKind_0 (a0 : Int32) : Option Int32 :=
  if a0 < 0 then (
    some 0
  ) else (
    if 6 ≤ a0 then (
      some 0
    ) else (
      some 1
    )
  )
set_option maxRecDepth 100000 in
set_option maxHeartbeats 4000000 in
theorem wF_X0_isKind_0 {G : Ctx} {w : va_W} (C : Cx G RX0 cX0_isKind 1 0 0) (hD : va_D (gA G) w) {res : Int32} (RET : RZ G cX0_isKind 1 w res) {a0 : Int32} (h : F_X0_isKind_0 a0 = some res) : V G 1 w 0 [(0, .int a0)] [] := by
  unfold F_X0_isKind_0 at h
  refine v_iload_n C dX0_isKind_0 rfl rfl 0 rfl ?_
  refine v_if_lt C dX0_isKind_1 (tgt := 14) (by decide) rfl (fun c1 => ?_) (fun c1 => ?_)
  · have h := ifp c1 h
    refine v_iconst C dX0_isKind_14 rfl ic_0 ?_
    obtain rfl := Option.some.inj h
    exact RET _ _ dX0_isKind_15 (Or.inl rfl)
  · have h := ifn c1 h
    refine v_iload_n C dX0_isKind_4 rfl rfl 0 rfl ?_
    refine v_bipush C dX0_isKind_5 rfl bi_6 ?_
    refine v_icmp_ge C dX0_isKind_7 (tgt := 14) (by decide) rfl (fun c2 => ?_) (fun c2 => ?_)
    · have h := ifp c2 h
      refine v_iconst C dX0_isKind_14 rfl ic_0 ?_
      obtain rfl := Option.some.inj h
      exact RET _ _ dX0_isKind_15 (Or.inl rfl)
    · have h := ifn c2 h
      refine v_iconst C dX0_isKind_10 rfl ic_1 ?_
      refine v_goto C dX0_isKind_11 (tgt := 15) (by decide) ?_
      obtain rfl := Option.some.inj h
      exact RET _ _ dX0_isKind_15 (Or.inr rfl)
def C_X0_isKind (a0 : Int32) : Option Int32 := F_X0_isKind_0 a0
set_option maxRecDepth 100000 in
theorem c_X0_isKind {l : Launch} {D : va_G} {cA : FieldType → ClassId} {X : Ex} {w : va_W} {a0 : Int32} {r : Int32} (h : C_X0_isKind a0 = some r) : MI l D cA X yX0_isKind cX0_isKind 1 (some .boolean) 0 0 [.int a0] w w r :=
  mZ_of (by decide +kernel) (Nat.le_of_ble_eq_true rfl) (fun G h1 h2 h3 h4 C hD RET => by subst h1 h2 h3 h4; exact wF_X0_isKind_0 C hD RET  h)
def F_X0_isUnder_4 (k4 : Int32 → Int32 → Int32 → Option Int32) (a1 : Int32) (a2 : Int32) (a3 : Int32) : Option Int32 :=
  if 6 ≤ a3 then (
    some 0
  ) else (
    bd (C_X0_isKind a2) fun r3 =>
    if r3 = 0 then (
      some 0
    ) else (
      if a2 = a1 then (
        some 1
      ) else (
        gd (inb a2 6) <|
        nm (abv (Int32.toNatClampNeg a2)) fun v7 =>
        nm (a3 + 1) fun v8 =>
        k4 a1 v7 v8
      )
    )
  )
def L_X0_isUnder_4 : Nat → Int32 → Int32 → Int32 → Option Int32
  | 0, _, _, _ => none
  | n + 1, a1, a2, a3 => F_X0_isUnder_4 (fun a1 a2 a3 => L_X0_isUnder_4 n a1 a2 a3) a1 a2 a3
set_option maxRecDepth 100000 in
set_option maxHeartbeats 4000000 in
theorem wF_X0_isUnder_4 {G : Ctx} {w : va_W} {k4 : Int32 → Int32 → Int32 → Option Int32} (C : Cx G RX0 cX0_isUnder 4 1 20) (hD : va_D (gA G) w) {res : Int32} (RET : RZ G cX0_isUnder 4 w res) (hk4 : ∀ {a1 : Int32} {a2 : Int32} {a3 : Int32} , k4 a1 a2 a3 = some res → V G 4 w 4 [(1, .int a1), (2, .int a2), (3, .int a3)] []) {a1 : Int32} {a2 : Int32} {a3 : Int32} (h : F_X0_isUnder_4 k4 a1 a2 a3 = some res) : V G 4 w 4 [(1, .int a1), (2, .int a2), (3, .int a3)] [] := by
  unfold F_X0_isUnder_4 at h
  refine v_iload_n C dX0_isUnder_4 rfl rfl 2 rfl ?_
  refine v_bipush C dX0_isUnder_5 rfl bi_6 ?_
  refine v_icmp_ge C dX0_isUnder_7 (tgt := 36) (by decide) rfl (fun c1 => ?_) (fun c1 => ?_)
  · have h := ifp c1 h
    refine v_iconst C dX0_isUnder_36 rfl ic_0 ?_
    obtain rfl := Option.some.inj h
    exact RET _ _ dX0_isUnder_37 (Or.inl rfl)
  · have h := ifn c1 h
    refine v_iload_n C dX0_isUnder_10 rfl rfl 1 rfl ?_
    obtain ⟨r3, e2, h⟩ := bdS h
    refine v_callSi C ys_X0_isKind m_380 (c_X0_isKind e2) (Sub.same hD) (As := [.int a2]) rfl rfl (Nat.le_of_ble_eq_true rfl) ⟨Nat.le_of_ble_eq_true rfl, Nat.le_of_ble_eq_true rfl⟩ dX0_isUnder_11 rfl ?_
    refine v_if_eq C dX0_isUnder_14 (tgt := 36) (by decide) rfl (fun c4 => ?_) (fun c4 => ?_)
    · have h := ifp c4 h
      refine v_iconst C dX0_isUnder_36 rfl ic_0 ?_
      obtain rfl := Option.some.inj h
      exact RET _ _ dX0_isUnder_37 (Or.inl rfl)
    · have h := ifn c4 h
      refine v_iload_n C dX0_isUnder_17 rfl rfl 1 rfl ?_
      refine v_iload_n C dX0_isUnder_18 rfl rfl 0 rfl ?_
      refine v_icmp_ne C dX0_isUnder_19 (tgt := 24) (by decide) rfl (fun c5 => ?_) (fun c5 => ?_)
      · have h := ifn c5 h
        refine v_getsA C m_381 dX0_isUnder_24 rfl ?_
        refine v_iload_n C dX0_isUnder_27 rfl rfl 1 rfl ?_
        obtain ⟨b6, h⟩ := gdS h
        refine v_ialdA C dX0_isUnder_28 rfl b6 ?_
        obtain ⟨v7, ev7, h⟩ := nmS h
        refine v_nmi ev7 ?_
        refine v_istore_n C dX0_isUnder_29 rfl rfl (by decide) (L' := [(2, .int v7), (1, .int a1), (3, .int a3)]) rfl ?_
        obtain ⟨v8, ev8, h⟩ := nmS h
        refine v_iinc C dX0_isUnder_30 rfl 2 rfl (v := v8) (by rw [ev8]; rfl) (by decide) (L' := [(3, .int v8), (2, .int v7), (1, .int a1)]) rfl ?_
        refine v_goto C dX0_isUnder_33 (tgt := 4) (by decide) ?_
        refine v_sub [2, 1, 0] rfl ?_
        exact hk4 h
      · have h := ifp c5 h
        refine v_iconst C dX0_isUnder_22 rfl ic_1 ?_
        obtain rfl := Option.some.inj h
        exact RET _ _ dX0_isUnder_23 (Or.inr rfl)
theorem wL_X0_isUnder_4 {G : Ctx} {w : va_W} (C : Cx G RX0 cX0_isUnder 4 1 20) (hD : va_D (gA G) w) {res : Int32} (RET : RZ G cX0_isUnder 4 w res) : ∀ (n : Nat) {a1 : Int32} {a2 : Int32} {a3 : Int32} (h : L_X0_isUnder_4 n a1 a2 a3 = some res), V G 4 w 4 [(1, .int a1), (2, .int a2), (3, .int a3)] [] := by
  intro n
  induction n with
  | zero =>
    intro a1 a2 a3 h
    cases (show (none : Option Int32) = some res from h)
  | succ n ih =>
    intro a1 a2 a3 h
    exact wF_X0_isUnder_4 (k4 := fun a1 a2 a3 => L_X0_isUnder_4  n a1 a2 a3) C hD RET (fun h => ih h) h
def F_X0_isUnder_0 (a0 : Int32) (a1 : Int32) : Option Int32 :=
  L_X0_isUnder_4 FU a1 a0 0
set_option maxRecDepth 100000 in
set_option maxHeartbeats 4000000 in
theorem wF_X0_isUnder_0 {G : Ctx} {w : va_W} (C : Cx G RX0 cX0_isUnder 4 1 20) (hD : va_D (gA G) w) {res : Int32} (RET : RZ G cX0_isUnder 4 w res) {a0 : Int32} {a1 : Int32} (h : F_X0_isUnder_0 a0 a1 = some res) : V G 4 w 0 [(0, .int a0), (1, .int a1)] [] := by
  unfold F_X0_isUnder_0 at h
  refine v_iload_n C dX0_isUnder_0 rfl rfl 0 rfl ?_
  refine v_istore_n C dX0_isUnder_1 rfl rfl (by decide) (L' := [(2, .int a0), (0, .int a0), (1, .int a1)]) rfl ?_
  refine v_iconst C dX0_isUnder_2 rfl ic_0 ?_
  refine v_istore_n C dX0_isUnder_3 rfl rfl (by decide) (L' := [(3, .int 0), (2, .int a0), (0, .int a0), (1, .int a1)]) rfl ?_
  refine v_sub [3, 1, 0] rfl ?_
  exact wL_X0_isUnder_4 C hD RET FU h
def C_X0_isUnder (a0 : Int32) (a1 : Int32) : Option Int32 := F_X0_isUnder_0 a0 a1
set_option maxRecDepth 100000 in
theorem c_X0_isUnder {l : Launch} {D : va_G} {cA : FieldType → ClassId} {X : Ex} {w : va_W} {a0 : Int32} {a1 : Int32} {r : Int32} (h : C_X0_isUnder a0 a1 = some r) : MI l D cA X yX0_isUnder cX0_isUnder 4 (some .boolean) 1 20 [.int a0, .int a1] w w r :=
  mZ_of (by decide +kernel) (Nat.le_of_ble_eq_true rfl) (fun G h1 h2 h3 h4 C hD RET => by subst h1 h2 h3 h4; exact wF_X0_isUnder_0 C hD RET  h)
def F_X0_crossed_0 (a0 : Int32) : Option Int32 :=
  some ((jshl (a0 &&& 85) 1) ||| (jshr (a0 &&& 170) 1))
set_option maxRecDepth 100000 in
set_option maxHeartbeats 4000000 in
theorem wF_X0_crossed_0 {G : Ctx} {w : va_W} (C : Cx G RX0 cX0_crossed 1 0 0) (hD : va_D (gA G) w) {res : Int32} (RET : RI G cX0_crossed 1 w res) {a0 : Int32} (h : F_X0_crossed_0 a0 = some res) : V G 1 w 0 [(0, .int a0)] [] := by
  unfold F_X0_crossed_0 at h
  refine v_iload_n C dX0_crossed_0 rfl rfl 0 rfl ?_
  refine v_bipush C dX0_crossed_1 rfl bi_85 ?_
  refine v_iand C dX0_crossed_3 rfl ?_
  refine v_iconst C dX0_crossed_4 rfl ic_1 ?_
  refine v_ishl C dX0_crossed_5 rfl ?_
  refine v_iload_n C dX0_crossed_6 rfl rfl 0 rfl ?_
  refine v_sipush C dX0_crossed_7 rfl si_170 ?_
  refine v_iand C dX0_crossed_10 rfl ?_
  refine v_iconst C dX0_crossed_11 rfl ic_1 ?_
  refine v_ishr C dX0_crossed_12 rfl ?_
  refine v_ior C dX0_crossed_13 rfl ?_
  obtain rfl := Option.some.inj h
  exact RET _ _ dX0_crossed_14
def C_X0_crossed (a0 : Int32) : Option Int32 := F_X0_crossed_0 a0
set_option maxRecDepth 100000 in
theorem c_X0_crossed {l : Launch} {D : va_G} {cA : FieldType → ClassId} {X : Ex} {w : va_W} {a0 : Int32} {r : Int32} (h : C_X0_crossed a0 = some r) : MI l D cA X yX0_crossed cX0_crossed 1 (some .int) 0 0 [.int a0] w w r :=
  mI_of (by decide +kernel) (Nat.le_of_ble_eq_true rfl) (fun G h1 h2 h3 h4 C hD RET => by subst h1 h2 h3 h4; exact wF_X0_crossed_0 C hD RET  h)
def F_X0_oneBack_0 (a0 : Int32) : Option Int32 :=
  some ((jshr a0 1) ||| (jshl (a0 &&& 1) 7))
set_option maxRecDepth 100000 in
set_option maxHeartbeats 4000000 in
theorem wF_X0_oneBack_0 {G : Ctx} {w : va_W} (C : Cx G RX0 cX0_oneBack 1 0 0) (hD : va_D (gA G) w) {res : Int32} (RET : RI G cX0_oneBack 1 w res) {a0 : Int32} (h : F_X0_oneBack_0 a0 = some res) : V G 1 w 0 [(0, .int a0)] [] := by
  unfold F_X0_oneBack_0 at h
  refine v_iload_n C dX0_oneBack_0 rfl rfl 0 rfl ?_
  refine v_iconst C dX0_oneBack_1 rfl ic_1 ?_
  refine v_ishr C dX0_oneBack_2 rfl ?_
  refine v_iload_n C dX0_oneBack_3 rfl rfl 0 rfl ?_
  refine v_iconst C dX0_oneBack_4 rfl ic_1 ?_
  refine v_iand C dX0_oneBack_5 rfl ?_
  refine v_bipush C dX0_oneBack_6 rfl bi_7 ?_
  refine v_ishl C dX0_oneBack_8 rfl ?_
  refine v_ior C dX0_oneBack_9 rfl ?_
  obtain rfl := Option.some.inj h
  exact RET _ _ dX0_oneBack_10
def C_X0_oneBack (a0 : Int32) : Option Int32 := F_X0_oneBack_0 a0
set_option maxRecDepth 100000 in
theorem c_X0_oneBack {l : Launch} {D : va_G} {cA : FieldType → ClassId} {X : Ex} {w : va_W} {a0 : Int32} {r : Int32} (h : C_X0_oneBack a0 = some r) : MI l D cA X yX0_oneBack cX0_oneBack 1 (some .int) 0 0 [.int a0] w w r :=
  mI_of (by decide +kernel) (Nat.le_of_ble_eq_true rfl) (fun G h1 h2 h3 h4 C hD RET => by subst h1 h2 h3 h4; exact wF_X0_oneBack_0 C hD RET  h)
def F_X0_borne_0 (a0 : Int32) (a1 : Int32) : Option Int32 :=
  if a0 = 2 then (
    bd (C_X0_oneBack a1) fun r3 =>
    some (a1 &&& r3)
  ) else (
    if a0 = 3 then (
      bd (C_X0_crossed a1) fun r6 =>
      some r6
    ) else (
      if a0 = 4 then (
        bd (C_X0_oneBack a1) fun r9 =>
        some (a1 &&& r9)
      ) else (
        if a0 = 5 then (
          some 255
        ) else (
          some a1
        )
      )
    )
  )
set_option maxRecDepth 100000 in
set_option maxHeartbeats 4000000 in
theorem wF_X0_borne_0 {G : Ctx} {w : va_W} (C : Cx G RX0 cX0_borne 2 1 20) (hD : va_D (gA G) w) {res : Int32} (RET : RI G cX0_borne 2 w res) {a0 : Int32} {a1 : Int32} (h : F_X0_borne_0 a0 a1 = some res) : V G 2 w 0 [(0, .int a0), (1, .int a1)] [] := by
  unfold F_X0_borne_0 at h
  refine v_iload_n C dX0_borne_0 rfl rfl 0 rfl ?_
  by_cases c1 : a0 = 2
  · have h := ifp c1 h
    refine v_tsIn C dX0_borne_1 c1 (by decide) (by decide) (off := 36) (by decide) (tgt := 37) (by decide) ?_
    refine v_iload_n C dX0_borne_37 rfl rfl 1 rfl ?_
    refine v_iload_n C dX0_borne_38 rfl rfl 1 rfl ?_
    obtain ⟨r3, e2, h⟩ := bdS h
    refine v_callSi C ys_X0_oneBack m_323 (c_X0_oneBack e2) (Sub.same hD) (As := [.int a1]) rfl rfl (Nat.le_of_ble_eq_true rfl) ⟨Nat.le_of_ble_eq_true rfl, Nat.le_of_ble_eq_true rfl⟩ dX0_borne_39 rfl ?_
    refine v_iand C dX0_borne_42 rfl ?_
    obtain rfl := Option.some.inj h
    exact RET _ _ dX0_borne_43
  · have h := ifn c1 h
    by_cases c4 : a0 = 3
    · have h := ifp c4 h
      refine v_tsIn C dX0_borne_1 c4 (by decide) (by decide) (off := 31) (by decide) (tgt := 32) (by decide) ?_
      refine v_iload_n C dX0_borne_32 rfl rfl 1 rfl ?_
      obtain ⟨r6, e5, h⟩ := bdS h
      refine v_callSi C ys_X0_crossed m_320 (c_X0_crossed e5) (Sub.same hD) (As := [.int a1]) rfl rfl (Nat.le_of_ble_eq_true rfl) ⟨Nat.le_of_ble_eq_true rfl, Nat.le_of_ble_eq_true rfl⟩ dX0_borne_33 rfl ?_
      obtain rfl := Option.some.inj h
      exact RET _ _ dX0_borne_36
    · have h := ifn c4 h
      by_cases c7 : a0 = 4
      · have h := ifp c7 h
        refine v_tsIn C dX0_borne_1 c7 (by decide) (by decide) (off := 36) (by decide) (tgt := 37) (by decide) ?_
        refine v_iload_n C dX0_borne_37 rfl rfl 1 rfl ?_
        refine v_iload_n C dX0_borne_38 rfl rfl 1 rfl ?_
        obtain ⟨r9, e8, h⟩ := bdS h
        refine v_callSi C ys_X0_oneBack m_323 (c_X0_oneBack e8) (Sub.same hD) (As := [.int a1]) rfl rfl (Nat.le_of_ble_eq_true rfl) ⟨Nat.le_of_ble_eq_true rfl, Nat.le_of_ble_eq_true rfl⟩ dX0_borne_39 rfl ?_
        refine v_iand C dX0_borne_42 rfl ?_
        obtain rfl := Option.some.inj h
        exact RET _ _ dX0_borne_43
      · have h := ifn c7 h
        by_cases c10 : a0 = 5
        · have h := ifp c10 h
          refine v_tsIn C dX0_borne_1 c10 (by decide) (by decide) (off := 43) (by decide) (tgt := 44) (by decide) ?_
          refine v_sipush C dX0_borne_44 rfl si_255 ?_
          obtain rfl := Option.some.inj h
          exact RET _ _ dX0_borne_47
        · have h := ifn c10 h
          refine v_tsOut C dX0_borne_1 (by have ec1 := lv_neT c1 (k := 2) (a := 2) (by decide); have ec4 := lv_neT c4 (k := 3) (a := 3) (by decide); have ec7 := lv_neT c7 (k := 4) (a := 4) (by decide); have ec10 := lv_neT c10 (k := 5) (a := 5) (by decide); omega) (tgt := 48) (by decide) ?_
          refine v_iload_n C dX0_borne_48 rfl rfl 1 rfl ?_
          obtain rfl := Option.some.inj h
          exact RET _ _ dX0_borne_49
def C_X0_borne (a0 : Int32) (a1 : Int32) : Option Int32 := F_X0_borne_0 a0 a1
set_option maxRecDepth 100000 in
theorem c_X0_borne {l : Launch} {D : va_G} {cA : FieldType → ClassId} {X : Ex} {w : va_W} {a0 : Int32} {a1 : Int32} {r : Int32} (h : C_X0_borne a0 a1 = some r) : MI l D cA X yX0_borne cX0_borne 2 (some .int) 1 20 [.int a0, .int a1] w w r :=
  mI_of (by decide +kernel) (Nat.le_of_ble_eq_true rfl) (fun G h1 h2 h3 h4 C hD RET => by subst h1 h2 h3 h4; exact wF_X0_borne_0 C hD RET  h)
def F_X0_over_0 (a0 : Int32) (a1 : Int32) : Option Int32 :=
  if a0 = 2 then (
    bd (C_X0_oneBack a1) fun r3 =>
    some (a1 ||| r3)
  ) else (
    if a0 = 3 then (
      bd (C_X0_crossed a1) fun r6 =>
      some r6
    ) else (
      if a0 = 4 then (
        bd (C_X0_oneBack a1) fun r9 =>
        some (a1 ||| r9)
      ) else (
        if a0 = 5 then (
          some 0
        ) else (
          some a1
        )
      )
    )
  )
set_option maxRecDepth 100000 in
set_option maxHeartbeats 4000000 in
theorem wF_X0_over_0 {G : Ctx} {w : va_W} (C : Cx G RX0 cX0_over 2 1 20) (hD : va_D (gA G) w) {res : Int32} (RET : RI G cX0_over 2 w res) {a0 : Int32} {a1 : Int32} (h : F_X0_over_0 a0 a1 = some res) : V G 2 w 0 [(0, .int a0), (1, .int a1)] [] := by
  unfold F_X0_over_0 at h
  refine v_iload_n C dX0_over_0 rfl rfl 0 rfl ?_
  by_cases c1 : a0 = 2
  · have h := ifp c1 h
    refine v_tsIn C dX0_over_1 c1 (by decide) (by decide) (off := 36) (by decide) (tgt := 37) (by decide) ?_
    refine v_iload_n C dX0_over_37 rfl rfl 1 rfl ?_
    refine v_iload_n C dX0_over_38 rfl rfl 1 rfl ?_
    obtain ⟨r3, e2, h⟩ := bdS h
    refine v_callSi C ys_X0_oneBack m_323 (c_X0_oneBack e2) (Sub.same hD) (As := [.int a1]) rfl rfl (Nat.le_of_ble_eq_true rfl) ⟨Nat.le_of_ble_eq_true rfl, Nat.le_of_ble_eq_true rfl⟩ dX0_over_39 rfl ?_
    refine v_ior C dX0_over_42 rfl ?_
    obtain rfl := Option.some.inj h
    exact RET _ _ dX0_over_43
  · have h := ifn c1 h
    by_cases c4 : a0 = 3
    · have h := ifp c4 h
      refine v_tsIn C dX0_over_1 c4 (by decide) (by decide) (off := 31) (by decide) (tgt := 32) (by decide) ?_
      refine v_iload_n C dX0_over_32 rfl rfl 1 rfl ?_
      obtain ⟨r6, e5, h⟩ := bdS h
      refine v_callSi C ys_X0_crossed m_320 (c_X0_crossed e5) (Sub.same hD) (As := [.int a1]) rfl rfl (Nat.le_of_ble_eq_true rfl) ⟨Nat.le_of_ble_eq_true rfl, Nat.le_of_ble_eq_true rfl⟩ dX0_over_33 rfl ?_
      obtain rfl := Option.some.inj h
      exact RET _ _ dX0_over_36
    · have h := ifn c4 h
      by_cases c7 : a0 = 4
      · have h := ifp c7 h
        refine v_tsIn C dX0_over_1 c7 (by decide) (by decide) (off := 36) (by decide) (tgt := 37) (by decide) ?_
        refine v_iload_n C dX0_over_37 rfl rfl 1 rfl ?_
        refine v_iload_n C dX0_over_38 rfl rfl 1 rfl ?_
        obtain ⟨r9, e8, h⟩ := bdS h
        refine v_callSi C ys_X0_oneBack m_323 (c_X0_oneBack e8) (Sub.same hD) (As := [.int a1]) rfl rfl (Nat.le_of_ble_eq_true rfl) ⟨Nat.le_of_ble_eq_true rfl, Nat.le_of_ble_eq_true rfl⟩ dX0_over_39 rfl ?_
        refine v_ior C dX0_over_42 rfl ?_
        obtain rfl := Option.some.inj h
        exact RET _ _ dX0_over_43
      · have h := ifn c7 h
        by_cases c10 : a0 = 5
        · have h := ifp c10 h
          refine v_tsIn C dX0_over_1 c10 (by decide) (by decide) (off := 43) (by decide) (tgt := 44) (by decide) ?_
          refine v_iconst C dX0_over_44 rfl ic_0 ?_
          obtain rfl := Option.some.inj h
          exact RET _ _ dX0_over_45
        · have h := ifn c10 h
          refine v_tsOut C dX0_over_1 (by have ec1 := lv_neT c1 (k := 2) (a := 2) (by decide); have ec4 := lv_neT c4 (k := 3) (a := 3) (by decide); have ec7 := lv_neT c7 (k := 4) (a := 4) (by decide); have ec10 := lv_neT c10 (k := 5) (a := 5) (by decide); omega) (tgt := 46) (by decide) ?_
          refine v_iload_n C dX0_over_46 rfl rfl 1 rfl ?_
          obtain rfl := Option.some.inj h
          exact RET _ _ dX0_over_47
def C_X0_over (a0 : Int32) (a1 : Int32) : Option Int32 := F_X0_over_0 a0 a1
set_option maxRecDepth 100000 in
theorem c_X0_over {l : Launch} {D : va_G} {cA : FieldType → ClassId} {X : Ex} {w : va_W} {a0 : Int32} {a1 : Int32} {r : Int32} (h : C_X0_over a0 a1 = some r) : MI l D cA X yX0_over cX0_over 2 (some .int) 1 20 [.int a0, .int a1] w w r :=
  mI_of (by decide +kernel) (Nat.le_of_ble_eq_true rfl) (fun G h1 h2 h3 h4 C hD RET => by subst h1 h2 h3 h4; exact wF_X0_over_0 C hD RET  h)
def F_X0_oneOn_0 (a0 : Int32) : Option Int32 :=
  some (((jshl a0 1) ||| (jshr a0 7)) &&& 255)
set_option maxRecDepth 100000 in
set_option maxHeartbeats 4000000 in
theorem wF_X0_oneOn_0 {G : Ctx} {w : va_W} (C : Cx G RX0 cX0_oneOn 1 0 0) (hD : va_D (gA G) w) {res : Int32} (RET : RI G cX0_oneOn 1 w res) {a0 : Int32} (h : F_X0_oneOn_0 a0 = some res) : V G 1 w 0 [(0, .int a0)] [] := by
  unfold F_X0_oneOn_0 at h
  refine v_iload_n C dX0_oneOn_0 rfl rfl 0 rfl ?_
  refine v_iconst C dX0_oneOn_1 rfl ic_1 ?_
  refine v_ishl C dX0_oneOn_2 rfl ?_
  refine v_iload_n C dX0_oneOn_3 rfl rfl 0 rfl ?_
  refine v_bipush C dX0_oneOn_4 rfl bi_7 ?_
  refine v_ishr C dX0_oneOn_6 rfl ?_
  refine v_ior C dX0_oneOn_7 rfl ?_
  refine v_sipush C dX0_oneOn_8 rfl si_255 ?_
  refine v_iand C dX0_oneOn_11 rfl ?_
  obtain rfl := Option.some.inj h
  exact RET _ _ dX0_oneOn_12
def C_X0_oneOn (a0 : Int32) : Option Int32 := F_X0_oneOn_0 a0
set_option maxRecDepth 100000 in
theorem c_X0_oneOn {l : Launch} {D : va_G} {cA : FieldType → ClassId} {X : Ex} {w : va_W} {a0 : Int32} {r : Int32} (h : C_X0_oneOn a0 = some r) : MI l D cA X yX0_oneOn cX0_oneOn 1 (some .int) 0 0 [.int a0] w w r :=
  mI_of (by decide +kernel) (Nat.le_of_ble_eq_true rfl) (fun G h1 h2 h3 h4 C hD RET => by subst h1 h2 h3 h4; exact wF_X0_oneOn_0 C hD RET  h)
def F_X0_under_0 (a0 : Int32) (a1 : Int32) : Option Int32 :=
  if a0 = 2 then (
    bd (C_X0_oneOn a1) fun r3 =>
    some (a1 ||| r3)
  ) else (
    if a0 = 3 then (
      bd (C_X0_crossed a1) fun r6 =>
      some r6
    ) else (
      if a0 = 4 then (
        bd (C_X0_oneOn a1) fun r9 =>
        some (a1 ||| r9)
      ) else (
        if a0 = 5 then (
          some 0
        ) else (
          some a1
        )
      )
    )
  )
set_option maxRecDepth 100000 in
set_option maxHeartbeats 4000000 in
theorem wF_X0_under_0 {G : Ctx} {w : va_W} (C : Cx G RX0 cX0_under 2 1 20) (hD : va_D (gA G) w) {res : Int32} (RET : RI G cX0_under 2 w res) {a0 : Int32} {a1 : Int32} (h : F_X0_under_0 a0 a1 = some res) : V G 2 w 0 [(0, .int a0), (1, .int a1)] [] := by
  unfold F_X0_under_0 at h
  refine v_iload_n C dX0_under_0 rfl rfl 0 rfl ?_
  by_cases c1 : a0 = 2
  · have h := ifp c1 h
    refine v_tsIn C dX0_under_1 c1 (by decide) (by decide) (off := 36) (by decide) (tgt := 37) (by decide) ?_
    refine v_iload_n C dX0_under_37 rfl rfl 1 rfl ?_
    refine v_iload_n C dX0_under_38 rfl rfl 1 rfl ?_
    obtain ⟨r3, e2, h⟩ := bdS h
    refine v_callSi C ys_X0_oneOn m_500 (c_X0_oneOn e2) (Sub.same hD) (As := [.int a1]) rfl rfl (Nat.le_of_ble_eq_true rfl) ⟨Nat.le_of_ble_eq_true rfl, Nat.le_of_ble_eq_true rfl⟩ dX0_under_39 rfl ?_
    refine v_ior C dX0_under_42 rfl ?_
    obtain rfl := Option.some.inj h
    exact RET _ _ dX0_under_43
  · have h := ifn c1 h
    by_cases c4 : a0 = 3
    · have h := ifp c4 h
      refine v_tsIn C dX0_under_1 c4 (by decide) (by decide) (off := 31) (by decide) (tgt := 32) (by decide) ?_
      refine v_iload_n C dX0_under_32 rfl rfl 1 rfl ?_
      obtain ⟨r6, e5, h⟩ := bdS h
      refine v_callSi C ys_X0_crossed m_320 (c_X0_crossed e5) (Sub.same hD) (As := [.int a1]) rfl rfl (Nat.le_of_ble_eq_true rfl) ⟨Nat.le_of_ble_eq_true rfl, Nat.le_of_ble_eq_true rfl⟩ dX0_under_33 rfl ?_
      obtain rfl := Option.some.inj h
      exact RET _ _ dX0_under_36
    · have h := ifn c4 h
      by_cases c7 : a0 = 4
      · have h := ifp c7 h
        refine v_tsIn C dX0_under_1 c7 (by decide) (by decide) (off := 36) (by decide) (tgt := 37) (by decide) ?_
        refine v_iload_n C dX0_under_37 rfl rfl 1 rfl ?_
        refine v_iload_n C dX0_under_38 rfl rfl 1 rfl ?_
        obtain ⟨r9, e8, h⟩ := bdS h
        refine v_callSi C ys_X0_oneOn m_500 (c_X0_oneOn e8) (Sub.same hD) (As := [.int a1]) rfl rfl (Nat.le_of_ble_eq_true rfl) ⟨Nat.le_of_ble_eq_true rfl, Nat.le_of_ble_eq_true rfl⟩ dX0_under_39 rfl ?_
        refine v_ior C dX0_under_42 rfl ?_
        obtain rfl := Option.some.inj h
        exact RET _ _ dX0_under_43
      · have h := ifn c7 h
        by_cases c10 : a0 = 5
        · have h := ifp c10 h
          refine v_tsIn C dX0_under_1 c10 (by decide) (by decide) (off := 43) (by decide) (tgt := 44) (by decide) ?_
          refine v_iconst C dX0_under_44 rfl ic_0 ?_
          obtain rfl := Option.some.inj h
          exact RET _ _ dX0_under_45
        · have h := ifn c10 h
          refine v_tsOut C dX0_under_1 (by have ec1 := lv_neT c1 (k := 2) (a := 2) (by decide); have ec4 := lv_neT c4 (k := 3) (a := 3) (by decide); have ec7 := lv_neT c7 (k := 4) (a := 4) (by decide); have ec10 := lv_neT c10 (k := 5) (a := 5) (by decide); omega) (tgt := 46) (by decide) ?_
          refine v_iload_n C dX0_under_46 rfl rfl 1 rfl ?_
          obtain rfl := Option.some.inj h
          exact RET _ _ dX0_under_47
def C_X0_under (a0 : Int32) (a1 : Int32) : Option Int32 := F_X0_under_0 a0 a1
set_option maxRecDepth 100000 in
theorem c_X0_under {l : Launch} {D : va_G} {cA : FieldType → ClassId} {X : Ex} {w : va_W} {a0 : Int32} {a1 : Int32} {r : Int32} (h : C_X0_under a0 a1 = some r) : MI l D cA X yX0_under cX0_under 2 (some .int) 1 20 [.int a0, .int a1] w w r :=
  mI_of (by decide +kernel) (Nat.le_of_ble_eq_true rfl) (fun G h1 h2 h3 h4 C hD RET => by subst h1 h2 h3 h4; exact wF_X0_under_0 C hD RET  h)
def F_X0_wears_0 (a0 : Int32) (a1 : Int32) : Option Int32 :=
  if a0 = 1 then (
    some (jmax 0 (a1 - 2))
  ) else (
    if a0 = 2 then (
      some (2 * a1)
    ) else (
      if a0 = 3 then (
        some (jmax 0 (a1 - 2))
      ) else (
        if a0 = 4 then (
          some (jmax 0 ((2 * a1) - 3))
        ) else (
          if a0 = 5 then (
            some 1
          ) else (
            some a1
          )
        )
      )
    )
  )
set_option maxRecDepth 100000 in
set_option maxHeartbeats 4000000 in
theorem wF_X0_wears_0 {G : Ctx} {w : va_W} (C : Cx G RX0 cX0_wears 2 1 30) (hD : va_D (gA G) w) {res : Int32} (RET : RI G cX0_wears 2 w res) {a0 : Int32} {a1 : Int32} (h : F_X0_wears_0 a0 a1 = some res) : V G 2 w 0 [(0, .int a0), (1, .int a1)] [] := by
  unfold F_X0_wears_0 at h
  refine v_iload_n C dX0_wears_0 rfl rfl 0 rfl ?_
  by_cases c1 : a0 = 1
  · have h := ifp c1 h
    refine v_tsIn C dX0_wears_1 c1 (by decide) (by decide) (off := 35) (by decide) (tgt := 36) (by decide) ?_
    refine v_iconst C dX0_wears_36 rfl ic_0 ?_
    refine v_iload_n C dX0_wears_37 rfl rfl 1 rfl ?_
    refine v_iconst C dX0_wears_38 rfl ic_2 ?_
    refine v_isub C dX0_wears_39 rfl ?_
    refine v_max C dX0_wears_40 rfl m_366 m_361 m_11 m_362 (Nat.le_of_ble_eq_true rfl) (Nat.le_of_ble_eq_true rfl) ?_
    obtain rfl := Option.some.inj h
    exact RET _ _ dX0_wears_43
  · have h := ifn c1 h
    by_cases c2 : a0 = 2
    · have h := ifp c2 h
      refine v_tsIn C dX0_wears_1 c2 (by decide) (by decide) (off := 43) (by decide) (tgt := 44) (by decide) ?_
      refine v_iconst C dX0_wears_44 rfl ic_2 ?_
      refine v_iload_n C dX0_wears_45 rfl rfl 1 rfl ?_
      refine v_imul C dX0_wears_46 rfl ?_
      obtain rfl := Option.some.inj h
      exact RET _ _ dX0_wears_47
    · have h := ifn c2 h
      by_cases c3 : a0 = 3
      · have h := ifp c3 h
        refine v_tsIn C dX0_wears_1 c3 (by decide) (by decide) (off := 35) (by decide) (tgt := 36) (by decide) ?_
        refine v_iconst C dX0_wears_36 rfl ic_0 ?_
        refine v_iload_n C dX0_wears_37 rfl rfl 1 rfl ?_
        refine v_iconst C dX0_wears_38 rfl ic_2 ?_
        refine v_isub C dX0_wears_39 rfl ?_
        refine v_max C dX0_wears_40 rfl m_366 m_361 m_11 m_362 (Nat.le_of_ble_eq_true rfl) (Nat.le_of_ble_eq_true rfl) ?_
        obtain rfl := Option.some.inj h
        exact RET _ _ dX0_wears_43
      · have h := ifn c3 h
        by_cases c4 : a0 = 4
        · have h := ifp c4 h
          refine v_tsIn C dX0_wears_1 c4 (by decide) (by decide) (off := 47) (by decide) (tgt := 48) (by decide) ?_
          refine v_iconst C dX0_wears_48 rfl ic_0 ?_
          refine v_iconst C dX0_wears_49 rfl ic_2 ?_
          refine v_iload_n C dX0_wears_50 rfl rfl 1 rfl ?_
          refine v_imul C dX0_wears_51 rfl ?_
          refine v_iconst C dX0_wears_52 rfl ic_3 ?_
          refine v_isub C dX0_wears_53 rfl ?_
          refine v_max C dX0_wears_54 rfl m_366 m_361 m_11 m_362 (Nat.le_of_ble_eq_true rfl) (Nat.le_of_ble_eq_true rfl) ?_
          obtain rfl := Option.some.inj h
          exact RET _ _ dX0_wears_57
        · have h := ifn c4 h
          by_cases c5 : a0 = 5
          · have h := ifp c5 h
            refine v_tsIn C dX0_wears_1 c5 (by decide) (by decide) (off := 57) (by decide) (tgt := 58) (by decide) ?_
            refine v_iconst C dX0_wears_58 rfl ic_1 ?_
            obtain rfl := Option.some.inj h
            exact RET _ _ dX0_wears_59
          · have h := ifn c5 h
            refine v_tsOut C dX0_wears_1 (by have ec1 := lv_neT c1 (k := 1) (a := 1) (by decide); have ec2 := lv_neT c2 (k := 2) (a := 2) (by decide); have ec3 := lv_neT c3 (k := 3) (a := 3) (by decide); have ec4 := lv_neT c4 (k := 4) (a := 4) (by decide); have ec5 := lv_neT c5 (k := 5) (a := 5) (by decide); omega) (tgt := 60) (by decide) ?_
            refine v_iload_n C dX0_wears_60 rfl rfl 1 rfl ?_
            obtain rfl := Option.some.inj h
            exact RET _ _ dX0_wears_61
def C_X0_wears (a0 : Int32) (a1 : Int32) : Option Int32 := F_X0_wears_0 a0 a1
set_option maxRecDepth 100000 in
theorem c_X0_wears {l : Launch} {D : va_G} {cA : FieldType → ClassId} {X : Ex} {w : va_W} {a0 : Int32} {a1 : Int32} {r : Int32} (h : C_X0_wears a0 a1 = some r) : MI l D cA X yX0_wears cX0_wears 2 (some .int) 1 30 [.int a0, .int a1] w w r :=
  mI_of (by decide +kernel) (Nat.le_of_ble_eq_true rfl) (fun G h1 h2 h3 h4 C hD RET => by subst h1 h2 h3 h4; exact wF_X0_wears_0 C hD RET  h)
def F_X0_bears_0 (a0 : Int32) (a1 : Int32) : Option Int32 :=
  nm (10 * a1) fun v1 =>
  if a0 = 3 then (
    some (v1 + 5)
  ) else (
    if a0 = 4 then (
      some (2 * v1)
    ) else (
      some v1
    )
  )
set_option maxRecDepth 100000 in
set_option maxHeartbeats 4000000 in
theorem wF_X0_bears_0 {G : Ctx} {w : va_W} (C : Cx G RX0 cX0_bears 3 0 0) (hD : va_D (gA G) w) {res : Int32} (RET : RI G cX0_bears 3 w res) {a0 : Int32} {a1 : Int32} (h : F_X0_bears_0 a0 a1 = some res) : V G 3 w 0 [(0, .int a0), (1, .int a1)] [] := by
  unfold F_X0_bears_0 at h
  refine v_bipush C dX0_bears_0 rfl bi_10 ?_
  refine v_iload_n C dX0_bears_2 rfl rfl 1 rfl ?_
  refine v_imul C dX0_bears_3 rfl ?_
  obtain ⟨v1, ev1, h⟩ := nmS h
  refine v_nmi ev1 ?_
  refine v_istore_n C dX0_bears_4 rfl rfl (by decide) (L' := [(2, .int v1), (0, .int a0), (1, .int a1)]) rfl ?_
  refine v_iload_n C dX0_bears_5 rfl rfl 1 rfl ?_
  by_cases c2 : a0 = 3
  · have h := ifp c2 h
    refine v_lsw C dX0_bears_6 (by decide) (off := 26) (by rw [c2]; decide) (tgt := 32) (by decide) ?_
    refine v_iload_n C dX0_bears_32 rfl rfl 0 rfl ?_
    refine v_iconst C dX0_bears_33 rfl ic_5 ?_
    refine v_iadd C dX0_bears_34 rfl ?_
    obtain rfl := Option.some.inj h
    exact RET _ _ dX0_bears_35
  · have h := ifn c2 h
    by_cases c3 : a0 = 4
    · have h := ifp c3 h
      refine v_lsw C dX0_bears_6 (by decide) (off := 30) (by rw [c3]; decide) (tgt := 36) (by decide) ?_
      refine v_iconst C dX0_bears_36 rfl ic_2 ?_
      refine v_iload_n C dX0_bears_37 rfl rfl 0 rfl ?_
      refine v_imul C dX0_bears_38 rfl ?_
      obtain rfl := Option.some.inj h
      exact RET _ _ dX0_bears_39
    · have h := ifn c3 h
      refine v_lsw C dX0_bears_6 (by decide) (off := 34) ((lv_osw c2 (by decide)).trans ((lv_osw c3 (by decide)).trans rfl)) (tgt := 40) (by decide) ?_
      refine v_iload_n C dX0_bears_40 rfl rfl 0 rfl ?_
      obtain rfl := Option.some.inj h
      exact RET _ _ dX0_bears_41
def C_X0_bears (a0 : Int32) (a1 : Int32) : Option Int32 := F_X0_bears_0 a0 a1
set_option maxRecDepth 100000 in
theorem c_X0_bears {l : Launch} {D : va_G} {cA : FieldType → ClassId} {X : Ex} {w : va_W} {a0 : Int32} {a1 : Int32} {r : Int32} (h : C_X0_bears a0 a1 = some r) : MI l D cA X yX0_bears cX0_bears 3 (some .int) 0 0 [.int a0, .int a1] w w r :=
  mI_of (by decide +kernel) (Nat.le_of_ble_eq_true rfl) (fun G h1 h2 h3 h4 C hD RET => by subst h1 h2 h3 h4; exact wF_X0_bears_0 C hD RET  h)
def F_X0_worth_0 (a0 : Int32) (a1 : Int32) : Option Int32 :=
  nm (a1 + 4) fun v1 =>
  nm (50 - a1) fun v2 =>
  if a0 = 1 then (
    some v1
  ) else (
    if a0 = 2 then (
      some v2
    ) else (
      if a0 = 3 then (
        some (2 * v1)
      ) else (
        if a0 = 4 then (
          some (v2 - 6)
        ) else (
          if a0 = 5 then (
            some 7
          ) else (
            some a1
          )
        )
      )
    )
  )
set_option maxRecDepth 100000 in
set_option maxHeartbeats 4000000 in
theorem wF_X0_worth_0 {G : Ctx} {w : va_W} (C : Cx G RX0 cX0_worth 4 0 0) (hD : va_D (gA G) w) {res : Int32} (RET : RI G cX0_worth 4 w res) {a0 : Int32} {a1 : Int32} (h : F_X0_worth_0 a0 a1 = some res) : V G 4 w 0 [(0, .int a0), (1, .int a1)] [] := by
  unfold F_X0_worth_0 at h
  refine v_iload_n C dX0_worth_0 rfl rfl 1 rfl ?_
  refine v_iconst C dX0_worth_1 rfl ic_4 ?_
  refine v_iadd C dX0_worth_2 rfl ?_
  obtain ⟨v1, ev1, h⟩ := nmS h
  refine v_nmi ev1 ?_
  refine v_istore_n C dX0_worth_3 rfl rfl (by decide) (L' := [(2, .int v1), (0, .int a0), (1, .int a1)]) rfl ?_
  refine v_bipush C dX0_worth_4 rfl bi_50 ?_
  refine v_iload_n C dX0_worth_6 rfl rfl 2 rfl ?_
  refine v_isub C dX0_worth_7 rfl ?_
  obtain ⟨v2, ev2, h⟩ := nmS h
  refine v_nmi ev2 ?_
  refine v_istore_n C dX0_worth_8 rfl rfl (by decide) (L' := [(3, .int v2), (2, .int v1), (0, .int a0), (1, .int a1)]) rfl ?_
  refine v_iload_n C dX0_worth_9 rfl rfl 2 rfl ?_
  by_cases c3 : a0 = 1
  · have h := ifp c3 h
    refine v_tsIn C dX0_worth_10 c3 (by decide) (by decide) (off := 34) (by decide) (tgt := 44) (by decide) ?_
    refine v_iload_n C dX0_worth_44 rfl rfl 1 rfl ?_
    obtain rfl := Option.some.inj h
    exact RET _ _ dX0_worth_45
  · have h := ifn c3 h
    by_cases c4 : a0 = 2
    · have h := ifp c4 h
      refine v_tsIn C dX0_worth_10 c4 (by decide) (by decide) (off := 40) (by decide) (tgt := 50) (by decide) ?_
      refine v_iload_n C dX0_worth_50 rfl rfl 0 rfl ?_
      obtain rfl := Option.some.inj h
      exact RET _ _ dX0_worth_51
    · have h := ifn c4 h
      by_cases c5 : a0 = 3
      · have h := ifp c5 h
        refine v_tsIn C dX0_worth_10 c5 (by decide) (by decide) (off := 36) (by decide) (tgt := 46) (by decide) ?_
        refine v_iconst C dX0_worth_46 rfl ic_2 ?_
        refine v_iload_n C dX0_worth_47 rfl rfl 1 rfl ?_
        refine v_imul C dX0_worth_48 rfl ?_
        obtain rfl := Option.some.inj h
        exact RET _ _ dX0_worth_49
      · have h := ifn c5 h
        by_cases c6 : a0 = 4
        · have h := ifp c6 h
          refine v_tsIn C dX0_worth_10 c6 (by decide) (by decide) (off := 42) (by decide) (tgt := 52) (by decide) ?_
          refine v_iload_n C dX0_worth_52 rfl rfl 0 rfl ?_
          refine v_bipush C dX0_worth_53 rfl bi_6 ?_
          refine v_isub C dX0_worth_55 rfl ?_
          obtain rfl := Option.some.inj h
          exact RET _ _ dX0_worth_56
        · have h := ifn c6 h
          by_cases c7 : a0 = 5
          · have h := ifp c7 h
            refine v_tsIn C dX0_worth_10 c7 (by decide) (by decide) (off := 47) (by decide) (tgt := 57) (by decide) ?_
            refine v_bipush C dX0_worth_57 rfl bi_7 ?_
            obtain rfl := Option.some.inj h
            exact RET _ _ dX0_worth_59
          · have h := ifn c7 h
            refine v_tsOut C dX0_worth_10 (by have ec3 := lv_neT c3 (k := 1) (a := 1) (by decide); have ec4 := lv_neT c4 (k := 2) (a := 2) (by decide); have ec5 := lv_neT c5 (k := 3) (a := 3) (by decide); have ec6 := lv_neT c6 (k := 4) (a := 4) (by decide); have ec7 := lv_neT c7 (k := 5) (a := 5) (by decide); omega) (tgt := 60) (by decide) ?_
            refine v_iload_n C dX0_worth_60 rfl rfl 3 rfl ?_
            obtain rfl := Option.some.inj h
            exact RET _ _ dX0_worth_61
def C_X0_worth (a0 : Int32) (a1 : Int32) : Option Int32 := F_X0_worth_0 a0 a1
set_option maxRecDepth 100000 in
theorem c_X0_worth {l : Launch} {D : va_G} {cA : FieldType → ClassId} {X : Ex} {w : va_W} {a0 : Int32} {a1 : Int32} {r : Int32} (h : C_X0_worth a0 a1 = some r) : MI l D cA X yX0_worth cX0_worth 4 (some .int) 0 0 [.int a0, .int a1] w w r :=
  mI_of (by decide +kernel) (Nat.le_of_ble_eq_true rfl) (fun G h1 h2 h3 h4 C hD RET => by subst h1 h2 h3 h4; exact wF_X0_worth_0 C hD RET  h)
def F_X1_byteAt_0 (K : Mem) (a1 : Int32) : Option Int32 :=
  if a1 < 0 then (
    some 0
  ) else (
    if 96 ≤ a1 then (
      some 0
    ) else (
      gd (inb a1 96) <|
      some (K 47 (Int32.toNatClampNeg a1))
    )
  )
set_option maxRecDepth 100000 in
set_option maxHeartbeats 4000000 in
theorem wF_X1_byteAt_0 {G : Ctx} {ad : Nat → Nat} {K : Mem} (C : Cx G RX1 cX1_byteAt 2 0 0) (hD : ∀ K, va_D (gA G) (wd (gC G) ad K 0 shsK)) {res : Int32} (RET : RI G cX1_byteAt 2 (wd (gC G) ad K 0 shsK) res) {a1 : Int32} (h : F_X1_byteAt_0 K a1 = some res) : V G 2 (wd (gC G) ad K 0 shsK) 0 [(0, .ref (ad 48)), (1, .int a1)] [] := by
  unfold F_X1_byteAt_0 at h
  refine v_iload_n C dX1_byteAt_0 rfl rfl 1 rfl ?_
  refine v_if_lt C dX1_byteAt_1 (tgt := 28) (by decide) rfl (fun c1 => ?_) (fun c1 => ?_)
  · have h := ifp c1 h
    refine v_iconst C dX1_byteAt_28 rfl ic_0 ?_
    obtain rfl := Option.some.inj h
    exact RET _ _ dX1_byteAt_29
  · have h := ifn c1 h
    refine v_iload_n C dX1_byteAt_4 rfl rfl 1 rfl ?_
    refine v_aload_n C dX1_byteAt_5 rfl rfl 0 rfl ?_
    refine v_getr C dX1_byteAt_6 rfl ff_X1_15 sk_48 rfl ?_
    refine v_getr C dX1_byteAt_9 rfl ff_X1_61 sk_46 rfl ?_
    refine v_alen C dX1_byteAt_12 rfl sk_47 (v := 96) (by decide) ?_
    refine v_icmp_ge C dX1_byteAt_13 (tgt := 28) (by decide) rfl (fun c2 => ?_) (fun c2 => ?_)
    · have h := ifp c2 h
      refine v_iconst C dX1_byteAt_28 rfl ic_0 ?_
      obtain rfl := Option.some.inj h
      exact RET _ _ dX1_byteAt_29
    · have h := ifn c2 h
      refine v_aload_n C dX1_byteAt_16 rfl rfl 0 rfl ?_
      refine v_getr C dX1_byteAt_17 rfl ff_X1_15 sk_48 rfl ?_
      refine v_getr C dX1_byteAt_20 rfl ff_X1_61 sk_46 rfl ?_
      refine v_iload_n C dX1_byteAt_23 rfl rfl 1 rfl ?_
      obtain ⟨b3, h⟩ := gdS h
      refine v_iald C dX1_byteAt_24 rfl sk_47 b3 ?_
      refine v_goto C dX1_byteAt_25 (tgt := 29) (by decide) ?_
      obtain rfl := Option.some.inj h
      exact RET _ _ dX1_byteAt_29
def C_X1_byteAt (K : Mem) (a1 : Int32) : Option Int32 := F_X1_byteAt_0 K a1
set_option maxRecDepth 100000 in
theorem c_X1_byteAt {l : Launch} {D : va_G} {cA : FieldType → ClassId} {X : Ex} {ad : Nat → Nat} {a1 : Int32} {K : Mem} {r : Int32} (h : C_X1_byteAt K a1 = some r) : MI l D cA X yX1_byteAt cX1_byteAt 2 (some .int) 0 0 [.ref (ad 48), .int a1] (wd cA ad K 0 shsK) (wd cA ad K 0 shsK) r :=
  mI_of (by decide +kernel) (Nat.le_of_ble_eq_true rfl) (fun G h1 h2 h3 h4 C hD RET => by subst h1 h2 h3 h4; exact wF_X1_byteAt_0 C (fun K' => wd_D K' hD) RET  h)
def F_X1_sortOf_14 (a0 : Int32) : Option Int32 :=
  if a0 < 48 then (
    some 3
  ) else (
    if 57 < a0 then (
      some 3
    ) else (
      some 2
    )
  )
set_option maxRecDepth 100000 in
set_option maxHeartbeats 4000000 in
theorem wF_X1_sortOf_14 {G : Ctx} {w : va_W} (C : Cx G RX1 cX1_sortOf 1 0 0) (hD : va_D (gA G) w) {res : Int32} (RET : RI G cX1_sortOf 1 w res) {a0 : Int32} (h : F_X1_sortOf_14 a0 = some res) : V G 1 w 14 [(0, .int a0)] [] := by
  unfold F_X1_sortOf_14 at h
  refine v_iload_n C dX1_sortOf_14 rfl rfl 0 rfl ?_
  refine v_bipush C dX1_sortOf_15 rfl bi_48 ?_
  refine v_icmp_lt C dX1_sortOf_17 (tgt := 30) (by decide) rfl (fun c3 => ?_) (fun c3 => ?_)
  · have h := ifp c3 h
    refine v_iconst C dX1_sortOf_30 rfl ic_3 ?_
    obtain rfl := Option.some.inj h
    exact RET _ _ dX1_sortOf_31
  · have h := ifn c3 h
    refine v_iload_n C dX1_sortOf_20 rfl rfl 0 rfl ?_
    refine v_bipush C dX1_sortOf_21 rfl bi_57 ?_
    refine v_icmp_gt C dX1_sortOf_23 (tgt := 30) (by decide) rfl (fun c4 => ?_) (fun c4 => ?_)
    · have h := ifp c4 h
      refine v_iconst C dX1_sortOf_30 rfl ic_3 ?_
      obtain rfl := Option.some.inj h
      exact RET _ _ dX1_sortOf_31
    · have h := ifn c4 h
      refine v_iconst C dX1_sortOf_26 rfl ic_2 ?_
      refine v_goto C dX1_sortOf_27 (tgt := 31) (by decide) ?_
      obtain rfl := Option.some.inj h
      exact RET _ _ dX1_sortOf_31
def F_X1_sortOf_0 (a0 : Int32) : Option Int32 :=
  if a0 < 97 then (
    F_X1_sortOf_14 a0
  ) else (
    if 122 < a0 then (
      F_X1_sortOf_14 a0
    ) else (
      some 1
    )
  )
set_option maxRecDepth 100000 in
set_option maxHeartbeats 4000000 in
theorem wF_X1_sortOf_0 {G : Ctx} {w : va_W} (C : Cx G RX1 cX1_sortOf 1 0 0) (hD : va_D (gA G) w) {res : Int32} (RET : RI G cX1_sortOf 1 w res) {a0 : Int32} (h : F_X1_sortOf_0 a0 = some res) : V G 1 w 0 [(0, .int a0)] [] := by
  unfold F_X1_sortOf_0 at h
  refine v_iload_n C dX1_sortOf_0 rfl rfl 0 rfl ?_
  refine v_bipush C dX1_sortOf_1 rfl bi_97 ?_
  refine v_icmp_lt C dX1_sortOf_3 (tgt := 14) (by decide) rfl (fun c1 => ?_) (fun c1 => ?_)
  · have h := ifp c1 h
    exact wF_X1_sortOf_14 C hD RET h
  · have h := ifn c1 h
    refine v_iload_n C dX1_sortOf_6 rfl rfl 0 rfl ?_
    refine v_bipush C dX1_sortOf_7 rfl bi_122 ?_
    refine v_icmp_gt C dX1_sortOf_9 (tgt := 14) (by decide) rfl (fun c2 => ?_) (fun c2 => ?_)
    · have h := ifp c2 h
      exact wF_X1_sortOf_14 C hD RET h
    · have h := ifn c2 h
      refine v_iconst C dX1_sortOf_12 rfl ic_1 ?_
      obtain rfl := Option.some.inj h
      exact RET _ _ dX1_sortOf_13
def C_X1_sortOf (a0 : Int32) : Option Int32 := F_X1_sortOf_0 a0
set_option maxRecDepth 100000 in
theorem c_X1_sortOf {l : Launch} {D : va_G} {cA : FieldType → ClassId} {X : Ex} {w : va_W} {a0 : Int32} {r : Int32} (h : C_X1_sortOf a0 = some r) : MI l D cA X yX1_sortOf cX1_sortOf 1 (some .int) 0 0 [.int a0] w w r :=
  mI_of (by decide +kernel) (Nat.le_of_ble_eq_true rfl) (fun G h1 h2 h3 h4 C hD RET => by subst h1 h2 h3 h4; exact wF_X1_sortOf_0 C hD RET  h)
def F_X1_moveOn_182 (a1 : Int32) (a2 : Int32) (K : Mem) : Option Mem :=
  if a1 = 0 then (
    some K
  ) else (
    if (K 48 6) = a2 then (
      nm (up K 48 5 4) fun K31 =>
      some K31
    ) else (
      some K
    )
  )
set_option maxRecDepth 100000 in
set_option maxHeartbeats 4000000 in
theorem wF_X1_moveOn_182 {G : Ctx} {ad : Nat → Nat} (C : Cx G RX1 cX1_moveOn 3 1 21) (hD : ∀ K, va_D (gA G) (wd (gC G) ad K 0 shsK)) {res : Mem} (RET : RV G cX1_moveOn 3 (wd (gC G) ad res 0 shsK)) {a1 : Int32} {a2 : Int32} {K : Mem} (h : F_X1_moveOn_182 a1 a2 K = some res) : V G 3 (wd (gC G) ad K 0 shsK) 182 [(0, .ref (ad 48)), (1, .int a1), (2, .int a2)] [] := by
  unfold F_X1_moveOn_182 at h
  refine v_iload_n C dX1_moveOn_182 rfl rfl 1 rfl ?_
  refine v_if_eq C dX1_moveOn_183 (tgt := 199) (by decide) rfl (fun c29 => ?_) (fun c29 => ?_)
  · have h := ifp c29 h
    obtain rfl := Option.some.inj h
    exact RET _ _ dX1_moveOn_199
  · have h := ifn c29 h
    refine v_aload_n C dX1_moveOn_186 rfl rfl 0 rfl ?_
    refine v_getf C dX1_moveOn_187 rfl ff_X1_42 sk_48 rfl ?_
    refine v_iload_n C dX1_moveOn_190 rfl rfl 2 rfl ?_
    refine v_icmp_ne C dX1_moveOn_191 (tgt := 199) (by decide) rfl (fun c30 => ?_) (fun c30 => ?_)
    · have h := ifn c30 h
      obtain rfl := Option.some.inj h
      exact RET _ _ dX1_moveOn_199
    · have h := ifp c30 h
      refine v_aload_n C dX1_moveOn_194 rfl rfl 0 rfl ?_
      refine v_iconst C dX1_moveOn_195 rfl ic_4 ?_
      obtain ⟨K31, eK31, h⟩ := nmS h
      refine v_putf C hD dX1_moveOn_196 rfl fp_X1_26 sk_48 rfl eK31 ?_
      obtain rfl := Option.some.inj h
      exact RET _ _ dX1_moveOn_199
def F_X1_moveOn_137 (k137 : Int32 → Int32 → Mem → Option Mem) (a1 : Int32) (a2 : Int32) (K : Mem) : Option Mem :=
  if (K 46 1) ≤ (K 48 7) then (
    F_X1_moveOn_182 a1 a2 K
  ) else (
    bd (C_X1_byteAt K (K 48 7)) fun r24 =>
    bd (C_X1_sortOf r24) fun r26 =>
    if r26 = (K 48 5) then (
      nm (up K 48 7 ((K 48 7) + 1)) fun K28 =>
      k137 a1 a2 K28
    ) else (
      F_X1_moveOn_182 a1 a2 K
    )
  )
def L_X1_moveOn_137 : Nat → Int32 → Int32 → Mem → Option Mem
  | 0, _, _, _ => none
  | n + 1, a1, a2, K => F_X1_moveOn_137 (fun a1 a2 K => L_X1_moveOn_137 n a1 a2 K) a1 a2 K
set_option maxRecDepth 100000 in
set_option maxHeartbeats 4000000 in
theorem wF_X1_moveOn_137 {G : Ctx} {ad : Nat → Nat} {k137 : Int32 → Int32 → Mem → Option Mem} (C : Cx G RX1 cX1_moveOn 3 1 21) (hD : ∀ K, va_D (gA G) (wd (gC G) ad K 0 shsK)) {res : Mem} (RET : RV G cX1_moveOn 3 (wd (gC G) ad res 0 shsK)) (hk137 : ∀ {a1 : Int32} {a2 : Int32} {K : Mem} , k137 a1 a2 K = some res → V G 3 (wd (gC G) ad K 0 shsK) 137 [(0, .ref (ad 48)), (1, .int a1), (2, .int a2)] []) {a1 : Int32} {a2 : Int32} {K : Mem} (h : F_X1_moveOn_137 k137 a1 a2 K = some res) : V G 3 (wd (gC G) ad K 0 shsK) 137 [(0, .ref (ad 48)), (1, .int a1), (2, .int a2)] [] := by
  unfold F_X1_moveOn_137 at h
  refine v_aload_n C dX1_moveOn_137 rfl rfl 0 rfl ?_
  refine v_getf C dX1_moveOn_138 rfl ff_X1_29 sk_48 rfl ?_
  refine v_aload_n C dX1_moveOn_141 rfl rfl 0 rfl ?_
  refine v_getr C dX1_moveOn_142 rfl ff_X1_15 sk_48 rfl ?_
  refine v_getf C dX1_moveOn_145 rfl ff_X1_49 sk_46 rfl ?_
  refine v_icmp_ge C dX1_moveOn_148 (tgt := 182) (by decide) rfl (fun c22 => ?_) (fun c22 => ?_)
  · have h := ifp c22 h
    exact wF_X1_moveOn_182 C hD RET h
  · have h := ifn c22 h
    refine v_aload_n C dX1_moveOn_151 rfl rfl 0 rfl ?_
    refine v_aload_n C dX1_moveOn_152 rfl rfl 0 rfl ?_
    refine v_getf C dX1_moveOn_153 rfl ff_X1_29 sk_48 rfl ?_
    obtain ⟨r24, e23, h⟩ := bdS h
    refine v_callVi C yv_X1_byteAt m_624 (c_X1_byteAt e23) (Sub.whole hD _ _) ⟨_, _, _, _, _, wd_at sk_48, rfl⟩ (As := [.int (K 48 7)]) rfl rfl (Nat.le_of_ble_eq_true rfl) ⟨Nat.le_of_ble_eq_true rfl, Nat.le_of_ble_eq_true rfl⟩ dX1_moveOn_156 rfl ?_
    obtain ⟨r26, e25, h⟩ := bdS h
    refine v_callSi C ys_X1_sortOf m_628 (c_X1_sortOf e25) (Sub.whole hD _ _) (As := [.int r24]) rfl rfl (Nat.le_of_ble_eq_true rfl) ⟨Nat.le_of_ble_eq_true rfl, Nat.le_of_ble_eq_true rfl⟩ dX1_moveOn_159 rfl ?_
    refine v_aload_n C dX1_moveOn_162 rfl rfl 0 rfl ?_
    refine v_getf C dX1_moveOn_163 rfl ff_X1_26 sk_48 rfl ?_
    refine v_icmp_ne C dX1_moveOn_166 (tgt := 182) (by decide) rfl (fun c27 => ?_) (fun c27 => ?_)
    · have h := ifn c27 h
      exact wF_X1_moveOn_182 C hD RET h
    · have h := ifp c27 h
      refine v_aload_n C dX1_moveOn_169 rfl rfl 0 rfl ?_
      refine v_dup C dX1_moveOn_170 rfl rfl ?_
      refine v_getf C dX1_moveOn_171 rfl ff_X1_29 sk_48 rfl ?_
      refine v_iconst C dX1_moveOn_174 rfl ic_1 ?_
      refine v_iadd C dX1_moveOn_175 rfl ?_
      obtain ⟨K28, eK28, h⟩ := nmS h
      refine v_putf C hD dX1_moveOn_176 rfl fp_X1_29 sk_48 rfl eK28 ?_
      refine v_goto C dX1_moveOn_179 (tgt := 137) (by decide) ?_
      exact hk137 h
theorem wL_X1_moveOn_137 {G : Ctx} {ad : Nat → Nat} (C : Cx G RX1 cX1_moveOn 3 1 21) (hD : ∀ K, va_D (gA G) (wd (gC G) ad K 0 shsK)) {res : Mem} (RET : RV G cX1_moveOn 3 (wd (gC G) ad res 0 shsK)) : ∀ (n : Nat) {a1 : Int32} {a2 : Int32} {K : Mem} (h : L_X1_moveOn_137 n a1 a2 K = some res), V G 3 (wd (gC G) ad K 0 shsK) 137 [(0, .ref (ad 48)), (1, .int a1), (2, .int a2)] [] := by
  intro n
  induction n with
  | zero =>
    intro a1 a2 K h
    cases (show (none : Option Mem) = some res from h)
  | succ n ih =>
    intro a1 a2 K h
    exact wF_X1_moveOn_137 (k137 := fun a1 a2 K => L_X1_moveOn_137  n a1 a2 K) C hD RET (fun h => ih h) h
def F_X1_moveOn_75 (a1 : Int32) (a2 : Int32) (K : Mem) : Option Mem :=
  nm (up K 48 7 (K 48 6)) fun K12 =>
  if (K12 48 6) < (K12 46 1) then (
    bd (C_X1_byteAt K12 (K12 48 6)) fun r15 =>
    bd (C_X1_sortOf r15) fun r17 =>
    nm (up K12 48 5 r17) fun K18 =>
    nm (up K18 48 7 ((K18 48 7) + 1)) fun K19 =>
    if (K19 48 5) = 3 then (
      some K19
    ) else (
      L_X1_moveOn_137 FU a1 a2 K19
    )
  ) else (
    nm (up K12 48 5 0) fun K21 =>
    some K21
  )
set_option maxRecDepth 100000 in
set_option maxHeartbeats 4000000 in
theorem wF_X1_moveOn_75 {G : Ctx} {ad : Nat → Nat} (C : Cx G RX1 cX1_moveOn 3 1 21) (hD : ∀ K, va_D (gA G) (wd (gC G) ad K 0 shsK)) {res : Mem} (RET : RV G cX1_moveOn 3 (wd (gC G) ad res 0 shsK)) {a1 : Int32} {a2 : Int32} {K : Mem} (h : F_X1_moveOn_75 a1 a2 K = some res) : V G 3 (wd (gC G) ad K 0 shsK) 75 [(0, .ref (ad 48)), (1, .int a1), (2, .int a2)] [] := by
  unfold F_X1_moveOn_75 at h
  refine v_aload_n C dX1_moveOn_75 rfl rfl 0 rfl ?_
  refine v_aload_n C dX1_moveOn_76 rfl rfl 0 rfl ?_
  refine v_getf C dX1_moveOn_77 rfl ff_X1_42 sk_48 rfl ?_
  obtain ⟨K12, eK12, h⟩ := nmS h
  refine v_putf C hD dX1_moveOn_80 rfl fp_X1_29 sk_48 rfl eK12 ?_
  refine v_aload_n C dX1_moveOn_83 rfl rfl 0 rfl ?_
  refine v_getf C dX1_moveOn_84 rfl ff_X1_42 sk_48 rfl ?_
  refine v_aload_n C dX1_moveOn_87 rfl rfl 0 rfl ?_
  refine v_getr C dX1_moveOn_88 rfl ff_X1_15 sk_48 rfl ?_
  refine v_getf C dX1_moveOn_91 rfl ff_X1_49 sk_46 rfl ?_
  refine v_icmp_lt C dX1_moveOn_94 (tgt := 103) (by decide) rfl (fun c13 => ?_) (fun c13 => ?_)
  · have h := ifp c13 h
    refine v_aload_n C dX1_moveOn_103 rfl rfl 0 rfl ?_
    refine v_aload_n C dX1_moveOn_104 rfl rfl 0 rfl ?_
    refine v_aload_n C dX1_moveOn_105 rfl rfl 0 rfl ?_
    refine v_getf C dX1_moveOn_106 rfl ff_X1_42 sk_48 rfl ?_
    obtain ⟨r15, e14, h⟩ := bdS h
    refine v_callVi C yv_X1_byteAt m_624 (c_X1_byteAt e14) (Sub.whole hD _ _) ⟨_, _, _, _, _, wd_at sk_48, rfl⟩ (As := [.int (K12 48 6)]) rfl rfl (Nat.le_of_ble_eq_true rfl) ⟨Nat.le_of_ble_eq_true rfl, Nat.le_of_ble_eq_true rfl⟩ dX1_moveOn_109 rfl ?_
    obtain ⟨r17, e16, h⟩ := bdS h
    refine v_callSi C ys_X1_sortOf m_628 (c_X1_sortOf e16) (Sub.whole hD _ _) (As := [.int r15]) rfl rfl (Nat.le_of_ble_eq_true rfl) ⟨Nat.le_of_ble_eq_true rfl, Nat.le_of_ble_eq_true rfl⟩ dX1_moveOn_112 rfl ?_
    obtain ⟨K18, eK18, h⟩ := nmS h
    refine v_putf C hD dX1_moveOn_115 rfl fp_X1_26 sk_48 rfl eK18 ?_
    refine v_aload_n C dX1_moveOn_118 rfl rfl 0 rfl ?_
    refine v_dup C dX1_moveOn_119 rfl rfl ?_
    refine v_getf C dX1_moveOn_120 rfl ff_X1_29 sk_48 rfl ?_
    refine v_iconst C dX1_moveOn_123 rfl ic_1 ?_
    refine v_iadd C dX1_moveOn_124 rfl ?_
    obtain ⟨K19, eK19, h⟩ := nmS h
    refine v_putf C hD dX1_moveOn_125 rfl fp_X1_29 sk_48 rfl eK19 ?_
    refine v_aload_n C dX1_moveOn_128 rfl rfl 0 rfl ?_
    refine v_getf C dX1_moveOn_129 rfl ff_X1_26 sk_48 rfl ?_
    refine v_iconst C dX1_moveOn_132 rfl ic_3 ?_
    refine v_icmp_ne C dX1_moveOn_133 (tgt := 137) (by decide) rfl (fun c20 => ?_) (fun c20 => ?_)
    · have h := ifn c20 h
      exact wL_X1_moveOn_137 C hD RET FU h
    · have h := ifp c20 h
      obtain rfl := Option.some.inj h
      exact RET _ _ dX1_moveOn_136
  · have h := ifn c13 h
    refine v_aload_n C dX1_moveOn_97 rfl rfl 0 rfl ?_
    refine v_iconst C dX1_moveOn_98 rfl ic_0 ?_
    obtain ⟨K21, eK21, h⟩ := nmS h
    refine v_putf C hD dX1_moveOn_99 rfl fp_X1_26 sk_48 rfl eK21 ?_
    obtain rfl := Option.some.inj h
    exact RET _ _ dX1_moveOn_102
def F_X1_moveOn_35 (k35 : Int32 → Int32 → Mem → Option Mem) (a1 : Int32) (a2 : Int32) (K : Mem) : Option Mem :=
  if (K 46 1) ≤ (K 48 6) then (
    F_X1_moveOn_75 a1 a2 K
  ) else (
    bd (C_X1_byteAt K (K 48 6)) fun r9 =>
    if r9 = 32 then (
      nm (up K 48 6 ((K 48 6) + 1)) fun K11 =>
      k35 a1 a2 K11
    ) else (
      F_X1_moveOn_75 a1 a2 K
    )
  )
def L_X1_moveOn_35 : Nat → Int32 → Int32 → Mem → Option Mem
  | 0, _, _, _ => none
  | n + 1, a1, a2, K => F_X1_moveOn_35 (fun a1 a2 K => L_X1_moveOn_35 n a1 a2 K) a1 a2 K
set_option maxRecDepth 100000 in
set_option maxHeartbeats 4000000 in
theorem wF_X1_moveOn_35 {G : Ctx} {ad : Nat → Nat} {k35 : Int32 → Int32 → Mem → Option Mem} (C : Cx G RX1 cX1_moveOn 3 1 21) (hD : ∀ K, va_D (gA G) (wd (gC G) ad K 0 shsK)) {res : Mem} (RET : RV G cX1_moveOn 3 (wd (gC G) ad res 0 shsK)) (hk35 : ∀ {a1 : Int32} {a2 : Int32} {K : Mem} , k35 a1 a2 K = some res → V G 3 (wd (gC G) ad K 0 shsK) 35 [(0, .ref (ad 48)), (1, .int a1), (2, .int a2)] []) {a1 : Int32} {a2 : Int32} {K : Mem} (h : F_X1_moveOn_35 k35 a1 a2 K = some res) : V G 3 (wd (gC G) ad K 0 shsK) 35 [(0, .ref (ad 48)), (1, .int a1), (2, .int a2)] [] := by
  unfold F_X1_moveOn_35 at h
  refine v_aload_n C dX1_moveOn_35 rfl rfl 0 rfl ?_
  refine v_getf C dX1_moveOn_36 rfl ff_X1_42 sk_48 rfl ?_
  refine v_aload_n C dX1_moveOn_39 rfl rfl 0 rfl ?_
  refine v_getr C dX1_moveOn_40 rfl ff_X1_15 sk_48 rfl ?_
  refine v_getf C dX1_moveOn_43 rfl ff_X1_49 sk_46 rfl ?_
  refine v_icmp_ge C dX1_moveOn_46 (tgt := 75) (by decide) rfl (fun c7 => ?_) (fun c7 => ?_)
  · have h := ifp c7 h
    exact wF_X1_moveOn_75 C hD RET h
  · have h := ifn c7 h
    refine v_aload_n C dX1_moveOn_49 rfl rfl 0 rfl ?_
    refine v_aload_n C dX1_moveOn_50 rfl rfl 0 rfl ?_
    refine v_getf C dX1_moveOn_51 rfl ff_X1_42 sk_48 rfl ?_
    obtain ⟨r9, e8, h⟩ := bdS h
    refine v_callVi C yv_X1_byteAt m_624 (c_X1_byteAt e8) (Sub.whole hD _ _) ⟨_, _, _, _, _, wd_at sk_48, rfl⟩ (As := [.int (K 48 6)]) rfl rfl (Nat.le_of_ble_eq_true rfl) ⟨Nat.le_of_ble_eq_true rfl, Nat.le_of_ble_eq_true rfl⟩ dX1_moveOn_54 rfl ?_
    refine v_bipush C dX1_moveOn_57 rfl bi_32 ?_
    refine v_icmp_ne C dX1_moveOn_59 (tgt := 75) (by decide) rfl (fun c10 => ?_) (fun c10 => ?_)
    · have h := ifn c10 h
      exact wF_X1_moveOn_75 C hD RET h
    · have h := ifp c10 h
      refine v_aload_n C dX1_moveOn_62 rfl rfl 0 rfl ?_
      refine v_dup C dX1_moveOn_63 rfl rfl ?_
      refine v_getf C dX1_moveOn_64 rfl ff_X1_42 sk_48 rfl ?_
      refine v_iconst C dX1_moveOn_67 rfl ic_1 ?_
      refine v_iadd C dX1_moveOn_68 rfl ?_
      obtain ⟨K11, eK11, h⟩ := nmS h
      refine v_putf C hD dX1_moveOn_69 rfl fp_X1_42 sk_48 rfl eK11 ?_
      refine v_goto C dX1_moveOn_72 (tgt := 35) (by decide) ?_
      exact hk35 h
theorem wL_X1_moveOn_35 {G : Ctx} {ad : Nat → Nat} (C : Cx G RX1 cX1_moveOn 3 1 21) (hD : ∀ K, va_D (gA G) (wd (gC G) ad K 0 shsK)) {res : Mem} (RET : RV G cX1_moveOn 3 (wd (gC G) ad res 0 shsK)) : ∀ (n : Nat) {a1 : Int32} {a2 : Int32} {K : Mem} (h : L_X1_moveOn_35 n a1 a2 K = some res), V G 3 (wd (gC G) ad K 0 shsK) 35 [(0, .ref (ad 48)), (1, .int a1), (2, .int a2)] [] := by
  intro n
  induction n with
  | zero =>
    intro a1 a2 K h
    cases (show (none : Option Mem) = some res from h)
  | succ n ih =>
    intro a1 a2 K h
    exact wF_X1_moveOn_35 (k35 := fun a1 a2 K => L_X1_moveOn_35  n a1 a2 K) C hD RET (fun h => ih h) h
def F_X1_moveOn_16 (K : Mem) : Option Mem :=
  nm (K 48 7) fun v5 =>
  nm (up K 48 6 (K 48 7)) fun K6 =>
  L_X1_moveOn_35 FU 1 v5 K6
set_option maxRecDepth 100000 in
set_option maxHeartbeats 4000000 in
theorem wF_X1_moveOn_16 {G : Ctx} {ad : Nat → Nat} (C : Cx G RX1 cX1_moveOn 3 1 21) (hD : ∀ K, va_D (gA G) (wd (gC G) ad K 0 shsK)) {res : Mem} (RET : RV G cX1_moveOn 3 (wd (gC G) ad res 0 shsK)) {K : Mem} (h : F_X1_moveOn_16 K = some res) : V G 3 (wd (gC G) ad K 0 shsK) 16 [(0, .ref (ad 48))] [] := by
  unfold F_X1_moveOn_16 at h
  refine v_iconst C dX1_moveOn_16 rfl ic_1 ?_
  refine v_goto C dX1_moveOn_17 (tgt := 21) (by decide) ?_
  refine v_istore_n C dX1_moveOn_21 rfl rfl (by decide) (L' := [(1, .int 1), (0, .ref (ad 48))]) rfl ?_
  refine v_aload_n C dX1_moveOn_22 rfl rfl 1 rfl ?_
  refine v_getf C dX1_moveOn_23 rfl ff_X1_29 sk_48 rfl ?_
  obtain ⟨v5, ev5, h⟩ := nmS h
  refine v_nmi ev5 ?_
  refine v_istore_n C dX1_moveOn_26 rfl rfl (by decide) (L' := [(2, .int v5), (1, .int 1), (0, .ref (ad 48))]) rfl ?_
  refine v_aload_n C dX1_moveOn_27 rfl rfl 2 rfl ?_
  refine v_aload_n C dX1_moveOn_28 rfl rfl 2 rfl ?_
  refine v_getf C dX1_moveOn_29 rfl ff_X1_29 sk_48 rfl ?_
  obtain ⟨K6, eK6, h⟩ := nmS h
  refine v_putf C hD dX1_moveOn_32 rfl fp_X1_42 sk_48 rfl eK6 ?_
  refine v_sub [2, 1, 0] rfl ?_
  exact wL_X1_moveOn_35 C hD RET FU h
def F_X1_moveOn_0 (K : Mem) : Option Mem :=
  if (K 48 5) = 1 then (
    F_X1_moveOn_16 K
  ) else (
    if (K 48 5) = 2 then (
      F_X1_moveOn_16 K
    ) else (
      nm (K 48 7) fun v3 =>
      nm (up K 48 6 (K 48 7)) fun K4 =>
      L_X1_moveOn_35 FU 0 v3 K4
    )
  )
set_option maxRecDepth 100000 in
set_option maxHeartbeats 4000000 in
theorem wF_X1_moveOn_0 {G : Ctx} {ad : Nat → Nat} (C : Cx G RX1 cX1_moveOn 3 1 21) (hD : ∀ K, va_D (gA G) (wd (gC G) ad K 0 shsK)) {res : Mem} (RET : RV G cX1_moveOn 3 (wd (gC G) ad res 0 shsK)) {K : Mem} (h : F_X1_moveOn_0 K = some res) : V G 3 (wd (gC G) ad K 0 shsK) 0 [(0, .ref (ad 48))] [] := by
  unfold F_X1_moveOn_0 at h
  refine v_aload_n C dX1_moveOn_0 rfl rfl 0 rfl ?_
  refine v_getf C dX1_moveOn_1 rfl ff_X1_26 sk_48 rfl ?_
  refine v_iconst C dX1_moveOn_4 rfl ic_1 ?_
  refine v_icmp_eq C dX1_moveOn_5 (tgt := 16) (by decide) rfl (fun c1 => ?_) (fun c1 => ?_)
  · have h := ifp c1 h
    exact wF_X1_moveOn_16 C hD RET h
  · have h := ifn c1 h
    refine v_aload_n C dX1_moveOn_8 rfl rfl 0 rfl ?_
    refine v_getf C dX1_moveOn_9 rfl ff_X1_26 sk_48 rfl ?_
    refine v_iconst C dX1_moveOn_12 rfl ic_2 ?_
    refine v_icmp_ne C dX1_moveOn_13 (tgt := 20) (by decide) rfl (fun c2 => ?_) (fun c2 => ?_)
    · have h := ifn c2 h
      refine v_iconst C dX1_moveOn_20 rfl ic_0 ?_
      refine v_istore_n C dX1_moveOn_21 rfl rfl (by decide) (L' := [(1, .int 0), (0, .ref (ad 48))]) rfl ?_
      refine v_aload_n C dX1_moveOn_22 rfl rfl 1 rfl ?_
      refine v_getf C dX1_moveOn_23 rfl ff_X1_29 sk_48 rfl ?_
      obtain ⟨v3, ev3, h⟩ := nmS h
      refine v_nmi ev3 ?_
      refine v_istore_n C dX1_moveOn_26 rfl rfl (by decide) (L' := [(2, .int v3), (1, .int 0), (0, .ref (ad 48))]) rfl ?_
      refine v_aload_n C dX1_moveOn_27 rfl rfl 2 rfl ?_
      refine v_aload_n C dX1_moveOn_28 rfl rfl 2 rfl ?_
      refine v_getf C dX1_moveOn_29 rfl ff_X1_29 sk_48 rfl ?_
      obtain ⟨K4, eK4, h⟩ := nmS h
      refine v_putf C hD dX1_moveOn_32 rfl fp_X1_42 sk_48 rfl eK4 ?_
      refine v_sub [2, 1, 0] rfl ?_
      exact wL_X1_moveOn_35 C hD RET FU h
    · have h := ifp c2 h
      exact wF_X1_moveOn_16 C hD RET h
def C_X1_moveOn (K : Mem) : Option Mem := F_X1_moveOn_0 K
set_option maxRecDepth 100000 in
theorem c_X1_moveOn {l : Launch} {D : va_G} {cA : FieldType → ClassId} {X : Ex} {ad : Nat → Nat} {K : Mem} {K' : Mem} (h : C_X1_moveOn K = some K') : MV l D cA X yX1_moveOn cX1_moveOn 3 1 21 [.ref (ad 48)] (wd cA ad K 0 shsK) (wd cA ad K' 0 shsK) :=
  mV_of (by decide +kernel) (Nat.le_of_ble_eq_true rfl) (fun G h1 h2 h3 h4 C hD RET => by subst h1 h2 h3 h4; exact wF_X1_moveOn_0 C (fun K' => wd_D K' hD) RET  h)
def F_X1_levelOf_0 (a0 : Int32) : Option Int32 :=
  if a0 = 38 then (
    some 1
  ) else (
    if a0 = 42 then (
      some 4
    ) else (
      if a0 = 43 then (
        some 3
      ) else (
        if a0 = 45 then (
          some 3
        ) else (
          if a0 = 47 then (
            some 4
          ) else (
            if a0 = 60 then (
              some 2
            ) else (
              if a0 = 61 then (
                some 2
              ) else (
                if a0 = 62 then (
                  some 2
                ) else (
                  if a0 = 124 then (
                    some 0
                  ) else (
                    some (-1)
                  )
                )
              )
            )
          )
        )
      )
    )
  )
set_option maxRecDepth 100000 in
set_option maxHeartbeats 4000000 in
theorem wF_X1_levelOf_0 {G : Ctx} {w : va_W} (C : Cx G RX1 cX1_levelOf 1 0 0) (hD : va_D (gA G) w) {res : Int32} (RET : RI G cX1_levelOf 1 w res) {a0 : Int32} (h : F_X1_levelOf_0 a0 = some res) : V G 1 w 0 [(0, .int a0)] [] := by
  unfold F_X1_levelOf_0 at h
  refine v_iload_n C dX1_levelOf_0 rfl rfl 0 rfl ?_
  by_cases c1 : a0 = 38
  · have h := ifp c1 h
    refine v_lsw C dX1_levelOf_1 (by decide) (off := 85) (by rw [c1]; decide) (tgt := 86) (by decide) ?_
    refine v_iconst C dX1_levelOf_86 rfl ic_1 ?_
    obtain rfl := Option.some.inj h
    exact RET _ _ dX1_levelOf_87
  · have h := ifn c1 h
    by_cases c2 : a0 = 42
    · have h := ifp c2 h
      refine v_lsw C dX1_levelOf_1 (by decide) (off := 91) (by rw [c2]; decide) (tgt := 92) (by decide) ?_
      refine v_iconst C dX1_levelOf_92 rfl ic_4 ?_
      obtain rfl := Option.some.inj h
      exact RET _ _ dX1_levelOf_93
    · have h := ifn c2 h
      by_cases c3 : a0 = 43
      · have h := ifp c3 h
        refine v_lsw C dX1_levelOf_1 (by decide) (off := 89) (by rw [c3]; decide) (tgt := 90) (by decide) ?_
        refine v_iconst C dX1_levelOf_90 rfl ic_3 ?_
        obtain rfl := Option.some.inj h
        exact RET _ _ dX1_levelOf_91
      · have h := ifn c3 h
        by_cases c4 : a0 = 45
        · have h := ifp c4 h
          refine v_lsw C dX1_levelOf_1 (by decide) (off := 89) (by rw [c4]; decide) (tgt := 90) (by decide) ?_
          refine v_iconst C dX1_levelOf_90 rfl ic_3 ?_
          obtain rfl := Option.some.inj h
          exact RET _ _ dX1_levelOf_91
        · have h := ifn c4 h
          by_cases c5 : a0 = 47
          · have h := ifp c5 h
            refine v_lsw C dX1_levelOf_1 (by decide) (off := 91) (by rw [c5]; decide) (tgt := 92) (by decide) ?_
            refine v_iconst C dX1_levelOf_92 rfl ic_4 ?_
            obtain rfl := Option.some.inj h
            exact RET _ _ dX1_levelOf_93
          · have h := ifn c5 h
            by_cases c6 : a0 = 60
            · have h := ifp c6 h
              refine v_lsw C dX1_levelOf_1 (by decide) (off := 87) (by rw [c6]; decide) (tgt := 88) (by decide) ?_
              refine v_iconst C dX1_levelOf_88 rfl ic_2 ?_
              obtain rfl := Option.some.inj h
              exact RET _ _ dX1_levelOf_89
            · have h := ifn c6 h
              by_cases c7 : a0 = 61
              · have h := ifp c7 h
                refine v_lsw C dX1_levelOf_1 (by decide) (off := 87) (by rw [c7]; decide) (tgt := 88) (by decide) ?_
                refine v_iconst C dX1_levelOf_88 rfl ic_2 ?_
                obtain rfl := Option.some.inj h
                exact RET _ _ dX1_levelOf_89
              · have h := ifn c7 h
                by_cases c8 : a0 = 62
                · have h := ifp c8 h
                  refine v_lsw C dX1_levelOf_1 (by decide) (off := 87) (by rw [c8]; decide) (tgt := 88) (by decide) ?_
                  refine v_iconst C dX1_levelOf_88 rfl ic_2 ?_
                  obtain rfl := Option.some.inj h
                  exact RET _ _ dX1_levelOf_89
                · have h := ifn c8 h
                  by_cases c9 : a0 = 124
                  · have h := ifp c9 h
                    refine v_lsw C dX1_levelOf_1 (by decide) (off := 83) (by rw [c9]; decide) (tgt := 84) (by decide) ?_
                    refine v_iconst C dX1_levelOf_84 rfl ic_0 ?_
                    obtain rfl := Option.some.inj h
                    exact RET _ _ dX1_levelOf_85
                  · have h := ifn c9 h
                    refine v_lsw C dX1_levelOf_1 (by decide) (off := 93) ((lv_osw c1 (by decide)).trans ((lv_osw c2 (by decide)).trans ((lv_osw c3 (by decide)).trans ((lv_osw c4 (by decide)).trans ((lv_osw c5 (by decide)).trans ((lv_osw c6 (by decide)).trans ((lv_osw c7 (by decide)).trans ((lv_osw c8 (by decide)).trans ((lv_osw c9 (by decide)).trans rfl))))))))) (tgt := 94) (by decide) ?_
                    refine v_iconst C dX1_levelOf_94 rfl ic_n1 ?_
                    obtain rfl := Option.some.inj h
                    exact RET _ _ dX1_levelOf_95
def C_X1_levelOf (a0 : Int32) : Option Int32 := F_X1_levelOf_0 a0
set_option maxRecDepth 100000 in
theorem c_X1_levelOf {l : Launch} {D : va_G} {cA : FieldType → ClassId} {X : Ex} {w : va_W} {a0 : Int32} {r : Int32} (h : C_X1_levelOf a0 = some r) : MI l D cA X yX1_levelOf cX1_levelOf 1 (some .int) 0 0 [.int a0] w w r :=
  mI_of (by decide +kernel) (Nat.le_of_ble_eq_true rfl) (fun G h1 h2 h3 h4 C hD RET => by subst h1 h2 h3 h4; exact wF_X1_levelOf_0 C hD RET  h)
def F_X1_write_0 (a1 : Int32) (K : Mem) : Option Mem :=
  if 96 ≤ (K 48 2) then (
    some K
  ) else (
    gd (inb (K 48 2) 96) <|
    nm (up K 49 (Int32.toNatClampNeg (K 48 2)) a1) fun K3 =>
    nm (up K3 48 2 ((K3 48 2) + 1)) fun K4 =>
    some K4
  )
set_option maxRecDepth 100000 in
set_option maxHeartbeats 4000000 in
theorem wF_X1_write_0 {G : Ctx} {ad : Nat → Nat} (C : Cx G RX1 cX1_write 2 0 0) (hD : ∀ K, va_D (gA G) (wd (gC G) ad K 0 shsK)) {res : Mem} (RET : RV G cX1_write 2 (wd (gC G) ad res 0 shsK)) {a1 : Int32} {K : Mem} (h : F_X1_write_0 a1 K = some res) : V G 2 (wd (gC G) ad K 0 shsK) 0 [(0, .ref (ad 48)), (1, .int a1)] [] := by
  unfold F_X1_write_0 at h
  refine v_aload_n C dX1_write_0 rfl rfl 0 rfl ?_
  refine v_getf C dX1_write_1 rfl ff_X1_19 sk_48 rfl ?_
  refine v_aload_n C dX1_write_4 rfl rfl 0 rfl ?_
  refine v_getr C dX1_write_5 rfl ff_X1_9 sk_48 rfl ?_
  refine v_alen C dX1_write_8 rfl sk_49 (v := 96) (by decide) ?_
  refine v_icmp_ge C dX1_write_9 (tgt := 32) (by decide) rfl (fun c1 => ?_) (fun c1 => ?_)
  · have h := ifp c1 h
    obtain rfl := Option.some.inj h
    exact RET _ _ dX1_write_32
  · have h := ifn c1 h
    refine v_aload_n C dX1_write_12 rfl rfl 0 rfl ?_
    refine v_getr C dX1_write_13 rfl ff_X1_9 sk_48 rfl ?_
    refine v_aload_n C dX1_write_16 rfl rfl 0 rfl ?_
    refine v_getf C dX1_write_17 rfl ff_X1_19 sk_48 rfl ?_
    refine v_iload_n C dX1_write_20 rfl rfl 1 rfl ?_
    obtain ⟨b2, h⟩ := gdS h
    obtain ⟨K3, eK3, h⟩ := nmS h
    refine v_iast C hD dX1_write_21 rfl sk_49 b2 eK3 ?_
    refine v_aload_n C dX1_write_22 rfl rfl 0 rfl ?_
    refine v_dup C dX1_write_23 rfl rfl ?_
    refine v_getf C dX1_write_24 rfl ff_X1_19 sk_48 rfl ?_
    refine v_iconst C dX1_write_27 rfl ic_1 ?_
    refine v_iadd C dX1_write_28 rfl ?_
    obtain ⟨K4, eK4, h⟩ := nmS h
    refine v_putf C hD dX1_write_29 rfl fp_X1_19 sk_48 rfl eK4 ?_
    obtain rfl := Option.some.inj h
    exact RET _ _ dX1_write_32
def C_X1_write (a1 : Int32) (K : Mem) : Option Mem := F_X1_write_0 a1 K
set_option maxRecDepth 100000 in
theorem c_X1_write {l : Launch} {D : va_G} {cA : FieldType → ClassId} {X : Ex} {ad : Nat → Nat} {a1 : Int32} {K : Mem} {K' : Mem} (h : C_X1_write a1 K = some K') : MV l D cA X yX1_write cX1_write 2 0 0 [.ref (ad 48), .int a1] (wd cA ad K 0 shsK) (wd cA ad K' 0 shsK) :=
  mV_of (by decide +kernel) (Nat.le_of_ble_eq_true rfl) (fun G h1 h2 h3 h4 C hD RET => by subst h1 h2 h3 h4; exact wF_X1_write_0 C (fun K' => wd_D K' hD) RET  h)
def F_X1_leaf_0 (a1 : Int32) (K : Mem) : Option (Int32 × Mem) :=
  bd (C_X1_write a1 K) fun K2 =>
  nm (up K2 48 3 ((K2 48 3) + 1)) fun K3 =>
  bd (C_X1_moveOn K3) fun K5 =>
  some (1, K5)
set_option maxRecDepth 100000 in
set_option maxHeartbeats 4000000 in
theorem wF_X1_leaf_0 {G : Ctx} {ad : Nat → Nat} (C : Cx G RX1 cX1_leaf 2 2 43) (hD : ∀ K, va_D (gA G) (wd (gC G) ad K 0 shsK)) {res : (Int32 × Mem)} (RET : RZ G cX1_leaf 2 (wd (gC G) ad res.2 0 shsK) res.1) {a1 : Int32} {K : Mem} (h : F_X1_leaf_0 a1 K = some res) : V G 2 (wd (gC G) ad K 0 shsK) 0 [(0, .ref (ad 48)), (1, .int a1)] [] := by
  unfold F_X1_leaf_0 at h
  refine v_aload_n C dX1_leaf_0 rfl rfl 0 rfl ?_
  refine v_iload_n C dX1_leaf_1 rfl rfl 1 rfl ?_
  obtain ⟨K2, e1, h⟩ := bdS h
  refine v_callVv C yv_X1_write m_706 (c_X1_write e1) (Sub.whole hD _ _) ⟨_, _, _, _, _, wd_at sk_48, rfl⟩ (As := [.int a1]) rfl rfl (Nat.le_of_ble_eq_true rfl) ⟨Nat.le_of_ble_eq_true rfl, Nat.le_of_ble_eq_true rfl⟩ dX1_leaf_2 rfl ?_
  refine v_aload_n C dX1_leaf_5 rfl rfl 0 rfl ?_
  refine v_dup C dX1_leaf_6 rfl rfl ?_
  refine v_getf C dX1_leaf_7 rfl ff_X1_23 sk_48 rfl ?_
  refine v_iconst C dX1_leaf_10 rfl ic_1 ?_
  refine v_iadd C dX1_leaf_11 rfl ?_
  obtain ⟨K3, eK3, h⟩ := nmS h
  refine v_putf C hD dX1_leaf_12 rfl fp_X1_23 sk_48 rfl eK3 ?_
  refine v_aload_n C dX1_leaf_15 rfl rfl 0 rfl ?_
  obtain ⟨K5, e4, h⟩ := bdS h
  refine v_callVv C yv_X1_moveOn m_620 (c_X1_moveOn e4) (Sub.whole hD _ _) ⟨_, _, _, _, _, wd_at sk_48, rfl⟩ (As := []) rfl rfl (Nat.le_of_ble_eq_true rfl) ⟨Nat.le_of_ble_eq_true rfl, Nat.le_of_ble_eq_true rfl⟩ dX1_leaf_16 rfl ?_
  refine v_iconst C dX1_leaf_19 rfl ic_1 ?_
  obtain rfl := Option.some.inj h
  exact RET _ _ dX1_leaf_20 (Or.inr rfl)
def C_X1_leaf (a1 : Int32) (K : Mem) : Option (Int32 × Mem) := F_X1_leaf_0 a1 K
set_option maxRecDepth 100000 in
theorem c_X1_leaf {l : Launch} {D : va_G} {cA : FieldType → ClassId} {X : Ex} {ad : Nat → Nat} {a1 : Int32} {K : Mem} {r : Int32} {K' : Mem} (h : C_X1_leaf a1 K = some (r, K')) : MI l D cA X yX1_leaf cX1_leaf 2 (some .boolean) 2 43 [.ref (ad 48), .int a1] (wd cA ad K 0 shsK) (wd cA ad K' 0 shsK) r :=
  mZ_of (by decide +kernel) (Nat.le_of_ble_eq_true rfl) (fun G h1 h2 h3 h4 C hD RET => by subst h1 h2 h3 h4; exact wF_X1_leaf_0 C (fun K' => wd_D K' hD) RET  h)
def F_X1_number_22 (k22 : Int32 → Int32 → Mem → Option (Int32 × Mem)) (a1 : Int32) (a2 : Int32) (K : Mem) : Option (Int32 × Mem) :=
  if (K 48 7) ≤ a2 then (
    bd2 (C_X1_leaf a1 K) fun r6 K5 =>
    gd (z01 r6) <|
    some (r6, K5)
  ) else (
    bd (C_X1_byteAt K a2) fun r9 =>
    nm (((10 * a1) + r9) - 48) fun v10 =>
    nm (a2 + 1) fun v11 =>
    k22 v10 v11 K
  )
def L_X1_number_22 : Nat → Int32 → Int32 → Mem → Option (Int32 × Mem)
  | 0, _, _, _ => none
  | n + 1, a1, a2, K => F_X1_number_22 (fun a1 a2 K => L_X1_number_22 n a1 a2 K) a1 a2 K
set_option maxRecDepth 100000 in
set_option maxHeartbeats 4000000 in
theorem wF_X1_number_22 {G : Ctx} {ad : Nat → Nat} {k22 : Int32 → Int32 → Mem → Option (Int32 × Mem)} (C : Cx G RX1 cX1_number 3 3 64) (hD : ∀ K, va_D (gA G) (wd (gC G) ad K 0 shsK)) {res : (Int32 × Mem)} (RET : RZ G cX1_number 3 (wd (gC G) ad res.2 0 shsK) res.1) (hk22 : ∀ {a1 : Int32} {a2 : Int32} {K : Mem} , k22 a1 a2 K = some res → V G 3 (wd (gC G) ad K 0 shsK) 22 [(0, .ref (ad 48)), (1, .int a1), (2, .int a2)] []) {a1 : Int32} {a2 : Int32} {K : Mem} (h : F_X1_number_22 k22 a1 a2 K = some res) : V G 3 (wd (gC G) ad K 0 shsK) 22 [(0, .ref (ad 48)), (1, .int a1), (2, .int a2)] [] := by
  unfold F_X1_number_22 at h
  refine v_iload_n C dX1_number_22 rfl rfl 2 rfl ?_
  refine v_aload_n C dX1_number_23 rfl rfl 0 rfl ?_
  refine v_getf C dX1_number_24 rfl ff_X1_29 sk_48 rfl ?_
  refine v_icmp_ge C dX1_number_27 (tgt := 50) (by decide) rfl (fun c3 => ?_) (fun c3 => ?_)
  · have h := ifp c3 h
    refine v_aload_n C dX1_number_50 rfl rfl 0 rfl ?_
    refine v_iload_n C dX1_number_51 rfl rfl 1 rfl ?_
    obtain ⟨r6, K5, e4, h⟩ := bd2S h
    refine v_callVi C yv_X1_leaf m_702 (c_X1_leaf e4) (Sub.whole hD _ _) ⟨_, _, _, _, _, wd_at sk_48, rfl⟩ (As := [.int a1]) rfl rfl (Nat.le_of_ble_eq_true rfl) ⟨Nat.le_of_ble_eq_true rfl, Nat.le_of_ble_eq_true rfl⟩ dX1_number_52 rfl ?_
    obtain ⟨b7, h⟩ := gdS h
    obtain rfl := Option.some.inj h
    exact RET _ _ dX1_number_55 (z01S b7)
  · have h := ifn c3 h
    refine v_bipush C dX1_number_30 rfl bi_10 ?_
    refine v_iload_n C dX1_number_32 rfl rfl 1 rfl ?_
    refine v_imul C dX1_number_33 rfl ?_
    refine v_aload_n C dX1_number_34 rfl rfl 0 rfl ?_
    refine v_iload_n C dX1_number_35 rfl rfl 2 rfl ?_
    obtain ⟨r9, e8, h⟩ := bdS h
    refine v_callVi C yv_X1_byteAt m_624 (c_X1_byteAt e8) (Sub.whole hD _ _) ⟨_, _, _, _, _, wd_at sk_48, rfl⟩ (As := [.int a2]) rfl rfl (Nat.le_of_ble_eq_true rfl) ⟨Nat.le_of_ble_eq_true rfl, Nat.le_of_ble_eq_true rfl⟩ dX1_number_36 rfl ?_
    refine v_iadd C dX1_number_39 rfl ?_
    refine v_bipush C dX1_number_40 rfl bi_48 ?_
    refine v_isub C dX1_number_42 rfl ?_
    obtain ⟨v10, ev10, h⟩ := nmS h
    refine v_nmi ev10 ?_
    refine v_istore_n C dX1_number_43 rfl rfl (by decide) (L' := [(1, .int v10), (0, .ref (ad 48)), (2, .int a2)]) rfl ?_
    obtain ⟨v11, ev11, h⟩ := nmS h
    refine v_iinc C dX1_number_44 rfl 2 rfl (v := v11) (by rw [ev11]; rfl) (by decide) (L' := [(2, .int v11), (1, .int v10), (0, .ref (ad 48))]) rfl ?_
    refine v_goto C dX1_number_47 (tgt := 22) (by decide) ?_
    refine v_sub [2, 1, 0] rfl ?_
    exact hk22 h
theorem wL_X1_number_22 {G : Ctx} {ad : Nat → Nat} (C : Cx G RX1 cX1_number 3 3 64) (hD : ∀ K, va_D (gA G) (wd (gC G) ad K 0 shsK)) {res : (Int32 × Mem)} (RET : RZ G cX1_number 3 (wd (gC G) ad res.2 0 shsK) res.1) : ∀ (n : Nat) {a1 : Int32} {a2 : Int32} {K : Mem} (h : L_X1_number_22 n a1 a2 K = some res), V G 3 (wd (gC G) ad K 0 shsK) 22 [(0, .ref (ad 48)), (1, .int a1), (2, .int a2)] [] := by
  intro n
  induction n with
  | zero =>
    intro a1 a2 K h
    cases (show (none : Option (Int32 × Mem)) = some res from h)
  | succ n ih =>
    intro a1 a2 K h
    exact wF_X1_number_22 (k22 := fun a1 a2 K => L_X1_number_22  n a1 a2 K) C hD RET (fun h => ih h) h
def F_X1_number_0 (K : Mem) : Option (Int32 × Mem) :=
  if ((K 48 7) - (K 48 6)) ≤ 4 then (
    nm (K 48 6) fun v2 =>
    L_X1_number_22 FU 0 v2 K
  ) else (
    some (0, K)
  )
set_option maxRecDepth 100000 in
set_option maxHeartbeats 4000000 in
theorem wF_X1_number_0 {G : Ctx} {ad : Nat → Nat} (C : Cx G RX1 cX1_number 3 3 64) (hD : ∀ K, va_D (gA G) (wd (gC G) ad K 0 shsK)) {res : (Int32 × Mem)} (RET : RZ G cX1_number 3 (wd (gC G) ad res.2 0 shsK) res.1) {K : Mem} (h : F_X1_number_0 K = some res) : V G 3 (wd (gC G) ad K 0 shsK) 0 [(0, .ref (ad 48))] [] := by
  unfold F_X1_number_0 at h
  refine v_aload_n C dX1_number_0 rfl rfl 0 rfl ?_
  refine v_getf C dX1_number_1 rfl ff_X1_29 sk_48 rfl ?_
  refine v_aload_n C dX1_number_4 rfl rfl 0 rfl ?_
  refine v_getf C dX1_number_5 rfl ff_X1_42 sk_48 rfl ?_
  refine v_isub C dX1_number_8 rfl ?_
  refine v_iconst C dX1_number_9 rfl ic_4 ?_
  refine v_icmp_le C dX1_number_10 (tgt := 15) (by decide) rfl (fun c1 => ?_) (fun c1 => ?_)
  · have h := ifp c1 h
    refine v_iconst C dX1_number_15 rfl ic_0 ?_
    refine v_istore_n C dX1_number_16 rfl rfl (by decide) (L' := [(1, .int 0), (0, .ref (ad 48))]) rfl ?_
    refine v_aload_n C dX1_number_17 rfl rfl 1 rfl ?_
    refine v_getf C dX1_number_18 rfl ff_X1_42 sk_48 rfl ?_
    obtain ⟨v2, ev2, h⟩ := nmS h
    refine v_nmi ev2 ?_
    refine v_istore_n C dX1_number_21 rfl rfl (by decide) (L' := [(2, .int v2), (1, .int 0), (0, .ref (ad 48))]) rfl ?_
    refine v_sub [2, 1, 0] rfl ?_
    exact wL_X1_number_22 C hD RET FU h
  · have h := ifn c1 h
    refine v_iconst C dX1_number_13 rfl ic_0 ?_
    obtain rfl := Option.some.inj h
    exact RET _ _ dX1_number_14 (Or.inl rfl)
def C_X1_number (K : Mem) : Option (Int32 × Mem) := F_X1_number_0 K
set_option maxRecDepth 100000 in
theorem c_X1_number {l : Launch} {D : va_G} {cA : FieldType → ClassId} {X : Ex} {ad : Nat → Nat} {K : Mem} {r : Int32} {K' : Mem} (h : C_X1_number K = some (r, K')) : MI l D cA X yX1_number cX1_number 3 (some .boolean) 3 64 [.ref (ad 48)] (wd cA ad K 0 shsK) (wd cA ad K' 0 shsK) r :=
  mZ_of (by decide +kernel) (Nat.le_of_ble_eq_true rfl) (fun G h1 h2 h3 h4 C hD RET => by subst h1 h2 h3 h4; exact wF_X1_number_0 C (fun K' => wd_D K' hD) RET  h)
def F_X5_isName_52 (a0 : Int32) : Option Int32 :=
  if a0 = 0 then (
    some 1
  ) else (
    if a0 = 2 then (
      some 1
    ) else (
      some 0
    )
  )
set_option maxRecDepth 100000 in
set_option maxHeartbeats 4000000 in
theorem wF_X5_isName_52 {G : Ctx} {w : va_W} (C : Cx G RX5 cX5_isName 2 0 0) (hD : va_D (gA G) w) {res : Int32} (RET : RZ G cX5_isName 2 w res) {a0 : Int32} (h : F_X5_isName_52 a0 = some res) : V G 2 w 52 [(0, .int a0)] [] := by
  unfold F_X5_isName_52 at h
  refine v_iload_n C dX5_isName_52 rfl rfl 0 rfl ?_
  refine v_if_eq C dX5_isName_53 (tgt := 61) (by decide) rfl (fun c9 => ?_) (fun c9 => ?_)
  · have h := ifp c9 h
    refine v_iconst C dX5_isName_61 rfl ic_1 ?_
    refine v_goto C dX5_isName_62 (tgt := 66) (by decide) ?_
    obtain rfl := Option.some.inj h
    exact RET _ _ dX5_isName_66 (Or.inr rfl)
  · have h := ifn c9 h
    refine v_iload_n C dX5_isName_56 rfl rfl 0 rfl ?_
    refine v_iconst C dX5_isName_57 rfl ic_2 ?_
    refine v_icmp_ne C dX5_isName_58 (tgt := 65) (by decide) rfl (fun c10 => ?_) (fun c10 => ?_)
    · have h := ifn c10 h
      refine v_iconst C dX5_isName_65 rfl ic_0 ?_
      obtain rfl := Option.some.inj h
      exact RET _ _ dX5_isName_66 (Or.inl rfl)
    · have h := ifp c10 h
      refine v_iconst C dX5_isName_61 rfl ic_1 ?_
      refine v_goto C dX5_isName_62 (tgt := 66) (by decide) ?_
      obtain rfl := Option.some.inj h
      exact RET _ _ dX5_isName_66 (Or.inr rfl)
def F_X5_isName_0 (a0 : Int32) (a1 : Int32) : Option Int32 :=
  if a1 = 103 then (
    F_X5_isName_52 a0
  ) else (
    if a1 = 109 then (
      if a0 = 1 then (
        some 1
      ) else (
        some 0
      )
    ) else (
      if a1 = 110 then (
        if a0 = 0 then (
          some 1
        ) else (
          some 0
        )
      ) else (
        if a1 = 114 then (
          if a0 = 1 then (
            some 1
          ) else (
            some 0
          )
        ) else (
          if a1 = 119 then (
            F_X5_isName_52 a0
          ) else (
            some 0
          )
        )
      )
    )
  )
set_option maxRecDepth 100000 in
set_option maxHeartbeats 4000000 in
theorem wF_X5_isName_0 {G : Ctx} {w : va_W} (C : Cx G RX5 cX5_isName 2 0 0) (hD : va_D (gA G) w) {res : Int32} (RET : RZ G cX5_isName 2 w res) {a0 : Int32} {a1 : Int32} (h : F_X5_isName_0 a0 a1 = some res) : V G 2 w 0 [(0, .int a0), (1, .int a1)] [] := by
  unfold F_X5_isName_0 at h
  refine v_iload_n C dX5_isName_0 rfl rfl 1 rfl ?_
  by_cases c1 : a1 = 103
  · have h := ifp c1 h
    refine v_lsw C dX5_isName_1 (by decide) (off := 51) (by rw [c1]; decide) (tgt := 52) (by decide) ?_
    refine v_sub [0] rfl ?_
    exact wF_X5_isName_52 C hD RET h
  · have h := ifn c1 h
    by_cases c2 : a1 = 109
    · have h := ifp c2 h
      refine v_lsw C dX5_isName_1 (by decide) (off := 76) (by rw [c2]; decide) (tgt := 77) (by decide) ?_
      refine v_iload_n C dX5_isName_77 rfl rfl 0 rfl ?_
      refine v_iconst C dX5_isName_78 rfl ic_1 ?_
      refine v_icmp_ne C dX5_isName_79 (tgt := 86) (by decide) rfl (fun c3 => ?_) (fun c3 => ?_)
      · have h := ifn c3 h
        refine v_iconst C dX5_isName_86 rfl ic_0 ?_
        obtain rfl := Option.some.inj h
        exact RET _ _ dX5_isName_87 (Or.inl rfl)
      · have h := ifp c3 h
        refine v_iconst C dX5_isName_82 rfl ic_1 ?_
        refine v_goto C dX5_isName_83 (tgt := 87) (by decide) ?_
        obtain rfl := Option.some.inj h
        exact RET _ _ dX5_isName_87 (Or.inr rfl)
    · have h := ifn c2 h
      by_cases c4 : a1 = 110
      · have h := ifp c4 h
        refine v_lsw C dX5_isName_1 (by decide) (off := 66) (by rw [c4]; decide) (tgt := 67) (by decide) ?_
        refine v_iload_n C dX5_isName_67 rfl rfl 0 rfl ?_
        refine v_if_ne C dX5_isName_68 (tgt := 75) (by decide) rfl (fun c5 => ?_) (fun c5 => ?_)
        · have h := ifn c5 h
          refine v_iconst C dX5_isName_75 rfl ic_0 ?_
          obtain rfl := Option.some.inj h
          exact RET _ _ dX5_isName_76 (Or.inl rfl)
        · have h := ifp c5 h
          refine v_iconst C dX5_isName_71 rfl ic_1 ?_
          refine v_goto C dX5_isName_72 (tgt := 76) (by decide) ?_
          obtain rfl := Option.some.inj h
          exact RET _ _ dX5_isName_76 (Or.inr rfl)
      · have h := ifn c4 h
        by_cases c6 : a1 = 114
        · have h := ifp c6 h
          refine v_lsw C dX5_isName_1 (by decide) (off := 76) (by rw [c6]; decide) (tgt := 77) (by decide) ?_
          refine v_iload_n C dX5_isName_77 rfl rfl 0 rfl ?_
          refine v_iconst C dX5_isName_78 rfl ic_1 ?_
          refine v_icmp_ne C dX5_isName_79 (tgt := 86) (by decide) rfl (fun c7 => ?_) (fun c7 => ?_)
          · have h := ifn c7 h
            refine v_iconst C dX5_isName_86 rfl ic_0 ?_
            obtain rfl := Option.some.inj h
            exact RET _ _ dX5_isName_87 (Or.inl rfl)
          · have h := ifp c7 h
            refine v_iconst C dX5_isName_82 rfl ic_1 ?_
            refine v_goto C dX5_isName_83 (tgt := 87) (by decide) ?_
            obtain rfl := Option.some.inj h
            exact RET _ _ dX5_isName_87 (Or.inr rfl)
        · have h := ifn c6 h
          by_cases c8 : a1 = 119
          · have h := ifp c8 h
            refine v_lsw C dX5_isName_1 (by decide) (off := 51) (by rw [c8]; decide) (tgt := 52) (by decide) ?_
            refine v_sub [0] rfl ?_
            exact wF_X5_isName_52 C hD RET h
          · have h := ifn c8 h
            refine v_lsw C dX5_isName_1 (by decide) (off := 87) ((lv_osw c1 (by decide)).trans ((lv_osw c2 (by decide)).trans ((lv_osw c4 (by decide)).trans ((lv_osw c6 (by decide)).trans ((lv_osw c8 (by decide)).trans rfl))))) (tgt := 88) (by decide) ?_
            refine v_iconst C dX5_isName_88 rfl ic_0 ?_
            obtain rfl := Option.some.inj h
            exact RET _ _ dX5_isName_89 (Or.inl rfl)
def C_X5_isName (a0 : Int32) (a1 : Int32) : Option Int32 := F_X5_isName_0 a0 a1
set_option maxRecDepth 100000 in
theorem c_X5_isName {l : Launch} {D : va_G} {cA : FieldType → ClassId} {X : Ex} {w : va_W} {a0 : Int32} {a1 : Int32} {r : Int32} (h : C_X5_isName a0 a1 = some r) : MI l D cA X yX5_isName cX5_isName 2 (some .boolean) 0 0 [.int a0, .int a1] w w r :=
  mZ_of (by decide +kernel) (Nat.le_of_ble_eq_true rfl) (fun G h1 h2 h3 h4 C hD RET => by subst h1 h2 h3 h4; exact wF_X5_isName_0 C hD RET  h)
def F_X1_name_0 (K : Mem) : Option (Int32 × Mem) :=
  bd (C_X1_byteAt K (K 48 6)) fun r2 =>
  if ((K 48 7) - (K 48 6)) = 1 then (
    bd (C_X5_isName (K 48 4) r2) fun r5 =>
    if r5 = 0 then (
      some (0, K)
    ) else (
      bd2 (C_X1_leaf (-r2) K) fun r9 K8 =>
      if r9 = 0 then (
        some (0, K8)
      ) else (
        some (1, K8)
      )
    )
  ) else (
    some (0, K)
  )
set_option maxRecDepth 100000 in
set_option maxHeartbeats 4000000 in
theorem wF_X1_name_0 {G : Ctx} {ad : Nat → Nat} (C : Cx G RX1 cX1_name 2 3 64) (hD : ∀ K, va_D (gA G) (wd (gC G) ad K 0 shsK)) {res : (Int32 × Mem)} (RET : RZ G cX1_name 2 (wd (gC G) ad res.2 0 shsK) res.1) {K : Mem} (h : F_X1_name_0 K = some res) : V G 2 (wd (gC G) ad K 0 shsK) 0 [(0, .ref (ad 48))] [] := by
  unfold F_X1_name_0 at h
  refine v_aload_n C dX1_name_0 rfl rfl 0 rfl ?_
  refine v_aload_n C dX1_name_1 rfl rfl 0 rfl ?_
  refine v_getf C dX1_name_2 rfl ff_X1_42 sk_48 rfl ?_
  obtain ⟨r2, e1, h⟩ := bdS h
  refine v_callVi C yv_X1_byteAt m_624 (c_X1_byteAt e1) (Sub.whole hD _ _) ⟨_, _, _, _, _, wd_at sk_48, rfl⟩ (As := [.int (K 48 6)]) rfl rfl (Nat.le_of_ble_eq_true rfl) ⟨Nat.le_of_ble_eq_true rfl, Nat.le_of_ble_eq_true rfl⟩ dX1_name_5 rfl ?_
  refine v_istore_n C dX1_name_8 rfl rfl (by decide) (L' := [(1, .int r2), (0, .ref (ad 48))]) rfl ?_
  refine v_aload_n C dX1_name_9 rfl rfl 1 rfl ?_
  refine v_getf C dX1_name_10 rfl ff_X1_29 sk_48 rfl ?_
  refine v_aload_n C dX1_name_13 rfl rfl 1 rfl ?_
  refine v_getf C dX1_name_14 rfl ff_X1_42 sk_48 rfl ?_
  refine v_isub C dX1_name_17 rfl ?_
  refine v_iconst C dX1_name_18 rfl ic_1 ?_
  refine v_icmp_ne C dX1_name_19 (tgt := 46) (by decide) rfl (fun c3 => ?_) (fun c3 => ?_)
  · have h := ifn c3 h
    refine v_iconst C dX1_name_46 rfl ic_0 ?_
    obtain rfl := Option.some.inj h
    exact RET _ _ dX1_name_47 (Or.inl rfl)
  · have h := ifp c3 h
    refine v_aload_n C dX1_name_22 rfl rfl 1 rfl ?_
    refine v_getf C dX1_name_23 rfl ff_X1_39 sk_48 rfl ?_
    refine v_iload_n C dX1_name_26 rfl rfl 0 rfl ?_
    obtain ⟨r5, e4, h⟩ := bdS h
    refine v_callSi C ys_X5_isName m_714 (c_X5_isName e4) (Sub.whole hD _ _) (As := [.int (K 48 4), .int r2]) rfl rfl (Nat.le_of_ble_eq_true rfl) ⟨Nat.le_of_ble_eq_true rfl, Nat.le_of_ble_eq_true rfl⟩ dX1_name_27 rfl ?_
    refine v_if_eq C dX1_name_30 (tgt := 46) (by decide) rfl (fun c6 => ?_) (fun c6 => ?_)
    · have h := ifp c6 h
      refine v_iconst C dX1_name_46 rfl ic_0 ?_
      obtain rfl := Option.some.inj h
      exact RET _ _ dX1_name_47 (Or.inl rfl)
    · have h := ifn c6 h
      refine v_aload_n C dX1_name_33 rfl rfl 1 rfl ?_
      refine v_iload_n C dX1_name_34 rfl rfl 0 rfl ?_
      refine v_ineg C dX1_name_35 rfl ?_
      obtain ⟨r9, K8, e7, h⟩ := bd2S h
      refine v_callVi C yv_X1_leaf m_702 (c_X1_leaf e7) (Sub.whole hD _ _) ⟨_, _, _, _, _, wd_at sk_48, rfl⟩ (As := [.int (-r2)]) rfl rfl (Nat.le_of_ble_eq_true rfl) ⟨Nat.le_of_ble_eq_true rfl, Nat.le_of_ble_eq_true rfl⟩ dX1_name_36 rfl ?_
      refine v_if_eq C dX1_name_39 (tgt := 46) (by decide) rfl (fun c10 => ?_) (fun c10 => ?_)
      · have h := ifp c10 h
        refine v_iconst C dX1_name_46 rfl ic_0 ?_
        obtain rfl := Option.some.inj h
        exact RET _ _ dX1_name_47 (Or.inl rfl)
      · have h := ifn c10 h
        refine v_iconst C dX1_name_42 rfl ic_1 ?_
        refine v_goto C dX1_name_43 (tgt := 47) (by decide) ?_
        obtain rfl := Option.some.inj h
        exact RET _ _ dX1_name_47 (Or.inr rfl)
def C_X1_name (K : Mem) : Option (Int32 × Mem) := F_X1_name_0 K
set_option maxRecDepth 100000 in
theorem c_X1_name {l : Launch} {D : va_G} {cA : FieldType → ClassId} {X : Ex} {ad : Nat → Nat} {K : Mem} {r : Int32} {K' : Mem} (h : C_X1_name K = some (r, K')) : MI l D cA X yX1_name cX1_name 2 (some .boolean) 3 64 [.ref (ad 48)] (wd cA ad K 0 shsK) (wd cA ad K' 0 shsK) r :=
  mZ_of (by decide +kernel) (Nat.le_of_ble_eq_true rfl) (fun G h1 h2 h3 h4 C hD RET => by subst h1 h2 h3 h4; exact wF_X1_name_0 C (fun K' => wd_D K' hD) RET  h)
def F_X1_isSign_0 (K : Mem) (a1 : Int32) : Option Int32 :=
  if (K 48 5) = 3 then (
    bd (C_X1_byteAt K (K 48 6)) fun r3 =>
    if r3 = a1 then (
      some 1
    ) else (
      some 0
    )
  ) else (
    some 0
  )
set_option maxRecDepth 100000 in
set_option maxHeartbeats 4000000 in
theorem wF_X1_isSign_0 {G : Ctx} {ad : Nat → Nat} {K : Mem} (C : Cx G RX1 cX1_isSign 2 1 21) (hD : ∀ K, va_D (gA G) (wd (gC G) ad K 0 shsK)) {res : Int32} (RET : RZ G cX1_isSign 2 (wd (gC G) ad K 0 shsK) res) {a1 : Int32} (h : F_X1_isSign_0 K a1 = some res) : V G 2 (wd (gC G) ad K 0 shsK) 0 [(0, .ref (ad 48)), (1, .int a1)] [] := by
  unfold F_X1_isSign_0 at h
  refine v_aload_n C dX1_isSign_0 rfl rfl 0 rfl ?_
  refine v_getf C dX1_isSign_1 rfl ff_X1_26 sk_48 rfl ?_
  refine v_iconst C dX1_isSign_4 rfl ic_3 ?_
  refine v_icmp_ne C dX1_isSign_5 (tgt := 24) (by decide) rfl (fun c1 => ?_) (fun c1 => ?_)
  · have h := ifn c1 h
    refine v_iconst C dX1_isSign_24 rfl ic_0 ?_
    obtain rfl := Option.some.inj h
    exact RET _ _ dX1_isSign_25 (Or.inl rfl)
  · have h := ifp c1 h
    refine v_aload_n C dX1_isSign_8 rfl rfl 0 rfl ?_
    refine v_aload_n C dX1_isSign_9 rfl rfl 0 rfl ?_
    refine v_getf C dX1_isSign_10 rfl ff_X1_42 sk_48 rfl ?_
    obtain ⟨r3, e2, h⟩ := bdS h
    refine v_callVi C yv_X1_byteAt m_624 (c_X1_byteAt e2) (Sub.whole hD _ _) ⟨_, _, _, _, _, wd_at sk_48, rfl⟩ (As := [.int (K 48 6)]) rfl rfl (Nat.le_of_ble_eq_true rfl) ⟨Nat.le_of_ble_eq_true rfl, Nat.le_of_ble_eq_true rfl⟩ dX1_isSign_13 rfl ?_
    refine v_iload_n C dX1_isSign_16 rfl rfl 1 rfl ?_
    refine v_icmp_ne C dX1_isSign_17 (tgt := 24) (by decide) rfl (fun c4 => ?_) (fun c4 => ?_)
    · have h := ifn c4 h
      refine v_iconst C dX1_isSign_24 rfl ic_0 ?_
      obtain rfl := Option.some.inj h
      exact RET _ _ dX1_isSign_25 (Or.inl rfl)
    · have h := ifp c4 h
      refine v_iconst C dX1_isSign_20 rfl ic_1 ?_
      refine v_goto C dX1_isSign_21 (tgt := 25) (by decide) ?_
      obtain rfl := Option.some.inj h
      exact RET _ _ dX1_isSign_25 (Or.inr rfl)
def C_X1_isSign (K : Mem) (a1 : Int32) : Option Int32 := F_X1_isSign_0 K a1
set_option maxRecDepth 100000 in
theorem c_X1_isSign {l : Launch} {D : va_G} {cA : FieldType → ClassId} {X : Ex} {ad : Nat → Nat} {a1 : Int32} {K : Mem} {r : Int32} (h : C_X1_isSign K a1 = some r) : MI l D cA X yX1_isSign cX1_isSign 2 (some .boolean) 1 21 [.ref (ad 48), .int a1] (wd cA ad K 0 shsK) (wd cA ad K 0 shsK) r :=
  mZ_of (by decide +kernel) (Nat.le_of_ble_eq_true rfl) (fun G h1 h2 h3 h4 C hD RET => by subst h1 h2 h3 h4; exact wF_X1_isSign_0 C (fun K' => wd_D K' hD) RET  h)
def F_X2_begin_12 (k12 : Int32 → Mem → Option Mem) (q : Nat) (a3 : Int32) (K : Mem) : Option Mem :=
  if 24 ≤ a3 then (
    some K
  ) else (
    gd (inb a3 24) <|
    nm (up K (q + 1) (Int32.toNatClampNeg a3) 0) fun K5 =>
    nm (a3 + 1) fun v6 =>
    k12 v6 K5
  )
def L_X2_begin_12 (q : Nat) : Nat → Int32 → Mem → Option Mem
  | 0, _, _ => none
  | n + 1, a3, K => F_X2_begin_12 (fun a3 K => L_X2_begin_12 q n a3 K) q a3 K
set_option maxRecDepth 100000 in
set_option maxHeartbeats 4000000 in
theorem wF_X2_begin_12 {G : Ctx} {ad : Nat → Nat} {q : Nat} {k12 : Int32 → Mem → Option Mem} (C : Cx G RX2 cX2_begin 4 0 0) (hD : ∀ K, va_D (gA G) (wd (gC G) ad K 0 shsK)) {res : Mem} (RET : RV G cX2_begin 4 (wd (gC G) ad res 0 shsK)) (hk12 : ∀ {a3 : Int32} {K : Mem} , k12 a3 K = some res → V G 4 (wd (gC G) ad K 0 shsK) 12 [(0, .ref (ad q)), (3, .int a3)] []) (hq : isSheet q) {a3 : Int32} {K : Mem} (h : F_X2_begin_12 k12 q a3 K = some res) : V G 4 (wd (gC G) ad K 0 shsK) 12 [(0, .ref (ad q)), (3, .int a3)] [] := by
  unfold F_X2_begin_12 at h
  refine v_iload_n C dX2_begin_12 rfl rfl 1 rfl ?_
  refine v_bipush C dX2_begin_13 rfl bi_24 ?_
  refine v_icmp_ge C dX2_begin_15 (tgt := 31) (by decide) rfl (fun c3 => ?_) (fun c3 => ?_)
  · have h := ifp c3 h
    obtain rfl := Option.some.inj h
    exact RET _ _ dX2_begin_31
  · have h := ifn c3 h
    refine v_aload_n C dX2_begin_18 rfl rfl 0 rfl ?_
    refine v_getr C dX2_begin_19 rfl ff_X2_11 (shk_0 hq) rfl ?_
    refine v_iload_n C dX2_begin_22 rfl rfl 1 rfl ?_
    refine v_iconst C dX2_begin_23 rfl ic_0 ?_
    obtain ⟨b4, h⟩ := gdS h
    obtain ⟨K5, eK5, h⟩ := nmS h
    refine v_iast C hD dX2_begin_24 rfl (shk_1 hq) b4 eK5 ?_
    obtain ⟨v6, ev6, h⟩ := nmS h
    refine v_iinc C dX2_begin_25 rfl 1 rfl (v := v6) (by rw [ev6]; rfl) (by decide) (L' := [(3, .int v6), (0, .ref (ad q))]) rfl ?_
    refine v_goto C dX2_begin_28 (tgt := 12) (by decide) ?_
    refine v_sub [1, 0] rfl ?_
    exact hk12 h
theorem wL_X2_begin_12 {G : Ctx} {ad : Nat → Nat} {q : Nat} (C : Cx G RX2 cX2_begin 4 0 0) (hD : ∀ K, va_D (gA G) (wd (gC G) ad K 0 shsK)) {res : Mem} (RET : RV G cX2_begin 4 (wd (gC G) ad res 0 shsK)) (hq : isSheet q) : ∀ (n : Nat) {a3 : Int32} {K : Mem} (h : L_X2_begin_12 q n a3 K = some res), V G 4 (wd (gC G) ad K 0 shsK) 12 [(0, .ref (ad q)), (3, .int a3)] [] := by
  intro n
  induction n with
  | zero =>
    intro a3 K h
    cases (show (none : Option Mem) = some res from h)
  | succ n ih =>
    intro a3 K h
    exact wF_X2_begin_12 (k12 := fun a3 K => L_X2_begin_12 q n a3 K) C hD RET (fun h => ih h) hq h
def F_X2_begin_0 (q : Nat) (a1 : Int32) (a2 : Int32) (K : Mem) : Option Mem :=
  nm (up K q 1 a1) fun K1 =>
  nm (up K1 q 2 a2) fun K2 =>
  L_X2_begin_12 q FU 0 K2
set_option maxRecDepth 100000 in
set_option maxHeartbeats 4000000 in
theorem wF_X2_begin_0 {G : Ctx} {ad : Nat → Nat} {q : Nat} (C : Cx G RX2 cX2_begin 4 0 0) (hD : ∀ K, va_D (gA G) (wd (gC G) ad K 0 shsK)) {res : Mem} (RET : RV G cX2_begin 4 (wd (gC G) ad res 0 shsK)) (hq : isSheet q) {a1 : Int32} {a2 : Int32} {K : Mem} (h : F_X2_begin_0 q a1 a2 K = some res) : V G 4 (wd (gC G) ad K 0 shsK) 0 [(0, .ref (ad q)), (1, .int a1), (2, .int a2)] [] := by
  unfold F_X2_begin_0 at h
  refine v_aload_n C dX2_begin_0 rfl rfl 0 rfl ?_
  refine v_iload_n C dX2_begin_1 rfl rfl 1 rfl ?_
  obtain ⟨K1, eK1, h⟩ := nmS h
  refine v_putf C hD dX2_begin_2 rfl fp_X2_15 (shk_0 hq) rfl eK1 ?_
  refine v_aload_n C dX2_begin_5 rfl rfl 0 rfl ?_
  refine v_iload_n C dX2_begin_6 rfl rfl 2 rfl ?_
  obtain ⟨K2, eK2, h⟩ := nmS h
  refine v_putf C hD dX2_begin_7 rfl fp_X2_19 (shk_0 hq) rfl eK2 ?_
  refine v_iconst C dX2_begin_10 rfl ic_0 ?_
  refine v_istore_n C dX2_begin_11 rfl rfl (by decide) (L' := [(3, .int 0), (0, .ref (ad q)), (1, .int a1), (2, .int a2)]) rfl ?_
  refine v_sub [1, 0] rfl ?_
  exact wL_X2_begin_12 C hD RET hq FU h
def C_X2_begin (q : Nat) (a1 : Int32) (a2 : Int32) (K : Mem) : Option Mem := F_X2_begin_0 q a1 a2 K
set_option maxRecDepth 100000 in
theorem c_X2_begin {l : Launch} {D : va_G} {cA : FieldType → ClassId} {X : Ex} {ad : Nat → Nat} {q : Nat} (hq : isSheet q) {a1 : Int32} {a2 : Int32} {K : Mem} {K' : Mem} (h : C_X2_begin q a1 a2 K = some K') : MV l D cA X yX2_begin cX2_begin 4 0 0 [.ref (ad q), .int a1, .int a2] (wd cA ad K 0 shsK) (wd cA ad K' 0 shsK) :=
  mV_of (by decide +kernel) (Nat.le_of_ble_eq_true rfl) (fun G h1 h2 h3 h4 C hD RET => by subst h1 h2 h3 h4; exact wF_X2_begin_0 C (fun K' => wd_D K' hD) RET hq h)
def F_X2_become_0 (q : Nat) (q1 : Nat) (K : Mem) : Option Mem :=
  nm (up K q 1 (K q1 1)) fun K1 =>
  nm (up K1 q 2 (K1 q1 2)) fun K2 =>
  gd (cpok 0 0 24 24 24) <|
  nm (cpm K2 (q1 + 1) (q + 1) (Int32.toNatClampNeg 0) (Int32.toNatClampNeg 0) (Int32.toNatClampNeg 24)) fun K4 =>
  some K4
set_option maxRecDepth 100000 in
set_option maxHeartbeats 4000000 in
theorem wF_X2_become_0 {G : Ctx} {ad : Nat → Nat} {q : Nat} {q1 : Nat} (C : Cx G RX2 cX2_become 2 1 30) (hD : ∀ K, va_D (gA G) (wd (gC G) ad K 0 shsK)) {res : Mem} (RET : RV G cX2_become 2 (wd (gC G) ad res 0 shsK)) (hq : isSheet q) (hq1 : isSheet q1) {K : Mem} (h : F_X2_become_0 q q1 K = some res) : V G 2 (wd (gC G) ad K 0 shsK) 0 [(0, .ref (ad q)), (1, .ref (ad q1))] [] := by
  unfold F_X2_become_0 at h
  refine v_aload_n C dX2_become_0 rfl rfl 0 rfl ?_
  refine v_aload_n C dX2_become_1 rfl rfl 1 rfl ?_
  refine v_getf C dX2_become_2 rfl ff_X2_15 (shk_0 hq1) rfl ?_
  obtain ⟨K1, eK1, h⟩ := nmS h
  refine v_putf C hD dX2_become_5 rfl fp_X2_15 (shk_0 hq) rfl eK1 ?_
  refine v_aload_n C dX2_become_8 rfl rfl 0 rfl ?_
  refine v_aload_n C dX2_become_9 rfl rfl 1 rfl ?_
  refine v_getf C dX2_become_10 rfl ff_X2_19 (shk_0 hq1) rfl ?_
  obtain ⟨K2, eK2, h⟩ := nmS h
  refine v_putf C hD dX2_become_13 rfl fp_X2_19 (shk_0 hq) rfl eK2 ?_
  refine v_aload_n C dX2_become_16 rfl rfl 1 rfl ?_
  refine v_getr C dX2_become_17 rfl ff_X2_11 (shk_0 hq1) rfl ?_
  refine v_iconst C dX2_become_20 rfl ic_0 ?_
  refine v_aload_n C dX2_become_21 rfl rfl 0 rfl ?_
  refine v_getr C dX2_become_22 rfl ff_X2_11 (shk_0 hq) rfl ?_
  refine v_iconst C dX2_become_25 rfl ic_0 ?_
  refine v_bipush C dX2_become_26 rfl bi_24 ?_
  obtain ⟨b3, h⟩ := gdS h
  obtain ⟨K4, eK4, h⟩ := nmS h
  refine v_copy C hD dX2_become_28 rfl m_797 m_541 m_540 m_13 (Nat.le_of_ble_eq_true rfl) (Nat.le_of_ble_eq_true rfl) (shk_1 hq1) (shk_1 hq) b3 eK4 ?_
  obtain rfl := Option.some.inj h
  exact RET _ _ dX2_become_31
def C_X2_become (q : Nat) (q1 : Nat) (K : Mem) : Option Mem := F_X2_become_0 q q1 K
set_option maxRecDepth 100000 in
theorem c_X2_become {l : Launch} {D : va_G} {cA : FieldType → ClassId} {X : Ex} {ad : Nat → Nat} {q : Nat} {q1 : Nat} (hq : isSheet q) (hq1 : isSheet q1) {K : Mem} {K' : Mem} (h : C_X2_become q q1 K = some K') : MV l D cA X yX2_become cX2_become 2 1 30 [.ref (ad q), .ref (ad q1)] (wd cA ad K 0 shsK) (wd cA ad K' 0 shsK) :=
  mV_of (by decide +kernel) (Nat.le_of_ble_eq_true rfl) (fun G h1 h2 h3 h4 C hD RET => by subst h1 h2 h3 h4; exact wF_X2_become_0 C (fun K' => wd_D K' hD) RET hq hq1 h)
def F_X2_isMissing_0 (q : Nat) (K : Mem) : Option Int32 :=
  if (K q 1) = (-1) then (
    some 1
  ) else (
    some 0
  )
set_option maxRecDepth 100000 in
set_option maxHeartbeats 4000000 in
theorem wF_X2_isMissing_0 {G : Ctx} {ad : Nat → Nat} {q : Nat} {K : Mem} (C : Cx G RX2 cX2_isMissing 1 0 0) (hD : ∀ K, va_D (gA G) (wd (gC G) ad K 0 shsK)) {res : Int32} (RET : RZ G cX2_isMissing 1 (wd (gC G) ad K 0 shsK) res) (hq : isSheet q) (h : F_X2_isMissing_0 q K = some res) : V G 1 (wd (gC G) ad K 0 shsK) 0 [(0, .ref (ad q))] [] := by
  unfold F_X2_isMissing_0 at h
  refine v_aload_n C dX2_isMissing_0 rfl rfl 0 rfl ?_
  refine v_getf C dX2_isMissing_1 rfl ff_X2_15 (shk_0 hq) rfl ?_
  refine v_iconst C dX2_isMissing_4 rfl ic_n1 ?_
  refine v_icmp_ne C dX2_isMissing_5 (tgt := 12) (by decide) rfl (fun c1 => ?_) (fun c1 => ?_)
  · have h := ifn c1 h
    refine v_iconst C dX2_isMissing_12 rfl ic_0 ?_
    obtain rfl := Option.some.inj h
    exact RET _ _ dX2_isMissing_13 (Or.inl rfl)
  · have h := ifp c1 h
    refine v_iconst C dX2_isMissing_8 rfl ic_1 ?_
    refine v_goto C dX2_isMissing_9 (tgt := 13) (by decide) ?_
    obtain rfl := Option.some.inj h
    exact RET _ _ dX2_isMissing_13 (Or.inr rfl)
def C_X2_isMissing (q : Nat) (K : Mem) : Option Int32 := F_X2_isMissing_0 q K
set_option maxRecDepth 100000 in
theorem c_X2_isMissing {l : Launch} {D : va_G} {cA : FieldType → ClassId} {X : Ex} {ad : Nat → Nat} {q : Nat} (hq : isSheet q) {K : Mem} {r : Int32} (h : C_X2_isMissing q K = some r) : MI l D cA X yX2_isMissing cX2_isMissing 1 (some .boolean) 0 0 [.ref (ad q)] (wd cA ad K 0 shsK) (wd cA ad K 0 shsK) r :=
  mZ_of (by decide +kernel) (Nat.le_of_ble_eq_true rfl) (fun G h1 h2 h3 h4 C hD RET => by subst h1 h2 h3 h4; exact wF_X2_isMissing_0 C (fun K' => wd_D K' hD) RET hq h)
def F_X2_hasPlace_0 (q : Nat) (K : Mem) (a1 : Int32) : Option Int32 :=
  if a1 < 0 then (
    some 0
  ) else (
    if (K q 2) ≤ a1 then (
      some 0
    ) else (
      some 1
    )
  )
set_option maxRecDepth 100000 in
set_option maxHeartbeats 4000000 in
theorem wF_X2_hasPlace_0 {G : Ctx} {ad : Nat → Nat} {q : Nat} {K : Mem} (C : Cx G RX2 cX2_hasPlace 2 0 0) (hD : ∀ K, va_D (gA G) (wd (gC G) ad K 0 shsK)) {res : Int32} (RET : RZ G cX2_hasPlace 2 (wd (gC G) ad K 0 shsK) res) (hq : isSheet q) {a1 : Int32} (h : F_X2_hasPlace_0 q K a1 = some res) : V G 2 (wd (gC G) ad K 0 shsK) 0 [(0, .ref (ad q)), (1, .int a1)] [] := by
  unfold F_X2_hasPlace_0 at h
  refine v_iload_n C dX2_hasPlace_0 rfl rfl 1 rfl ?_
  refine v_if_lt C dX2_hasPlace_1 (tgt := 16) (by decide) rfl (fun c1 => ?_) (fun c1 => ?_)
  · have h := ifp c1 h
    refine v_iconst C dX2_hasPlace_16 rfl ic_0 ?_
    obtain rfl := Option.some.inj h
    exact RET _ _ dX2_hasPlace_17 (Or.inl rfl)
  · have h := ifn c1 h
    refine v_iload_n C dX2_hasPlace_4 rfl rfl 1 rfl ?_
    refine v_aload_n C dX2_hasPlace_5 rfl rfl 0 rfl ?_
    refine v_getf C dX2_hasPlace_6 rfl ff_X2_19 (shk_0 hq) rfl ?_
    refine v_icmp_ge C dX2_hasPlace_9 (tgt := 16) (by decide) rfl (fun c2 => ?_) (fun c2 => ?_)
    · have h := ifp c2 h
      refine v_iconst C dX2_hasPlace_16 rfl ic_0 ?_
      obtain rfl := Option.some.inj h
      exact RET _ _ dX2_hasPlace_17 (Or.inl rfl)
    · have h := ifn c2 h
      refine v_iconst C dX2_hasPlace_12 rfl ic_1 ?_
      refine v_goto C dX2_hasPlace_13 (tgt := 17) (by decide) ?_
      obtain rfl := Option.some.inj h
      exact RET _ _ dX2_hasPlace_17 (Or.inr rfl)
def C_X2_hasPlace (q : Nat) (K : Mem) (a1 : Int32) : Option Int32 := F_X2_hasPlace_0 q K a1
set_option maxRecDepth 100000 in
theorem c_X2_hasPlace {l : Launch} {D : va_G} {cA : FieldType → ClassId} {X : Ex} {ad : Nat → Nat} {q : Nat} (hq : isSheet q) {a1 : Int32} {K : Mem} {r : Int32} (h : C_X2_hasPlace q K a1 = some r) : MI l D cA X yX2_hasPlace cX2_hasPlace 2 (some .boolean) 0 0 [.ref (ad q), .int a1] (wd cA ad K 0 shsK) (wd cA ad K 0 shsK) r :=
  mZ_of (by decide +kernel) (Nat.le_of_ble_eq_true rfl) (fun G h1 h2 h3 h4 C hD RET => by subst h1 h2 h3 h4; exact wF_X2_hasPlace_0 C (fun K' => wd_D K' hD) RET hq h)
def F_X2_hasNumber_0 (q : Nat) (K : Mem) (a1 : Int32) : Option Int32 :=
  bd (C_X2_hasPlace q K a1) fun r2 =>
  if r2 = 0 then (
    some 0
  ) else (
    gd (inb a1 24) <|
    if (K (q + 1) (Int32.toNatClampNeg a1)) = (-1000000005) then (
      some 0
    ) else (
      some 1
    )
  )
set_option maxRecDepth 100000 in
set_option maxHeartbeats 4000000 in
theorem wF_X2_hasNumber_0 {G : Ctx} {ad : Nat → Nat} {q : Nat} {K : Mem} (C : Cx G RX2 cX2_hasNumber 2 1 21) (hD : ∀ K, va_D (gA G) (wd (gC G) ad K 0 shsK)) {res : Int32} (RET : RZ G cX2_hasNumber 2 (wd (gC G) ad K 0 shsK) res) (hq : isSheet q) {a1 : Int32} (h : F_X2_hasNumber_0 q K a1 = some res) : V G 2 (wd (gC G) ad K 0 shsK) 0 [(0, .ref (ad q)), (1, .int a1)] [] := by
  unfold F_X2_hasNumber_0 at h
  refine v_aload_n C dX2_hasNumber_0 rfl rfl 0 rfl ?_
  refine v_iload_n C dX2_hasNumber_1 rfl rfl 1 rfl ?_
  obtain ⟨r2, e1, h⟩ := bdS h
  refine v_callVi C yv_X2_hasPlace m_583 (c_X2_hasPlace hq e1) (Sub.whole hD _ _) ⟨_, _, _, _, _, wd_at (shk_0 hq), rfl⟩ (As := [.int a1]) rfl rfl (Nat.le_of_ble_eq_true rfl) ⟨Nat.le_of_ble_eq_true rfl, Nat.le_of_ble_eq_true rfl⟩ dX2_hasNumber_2 rfl ?_
  refine v_if_eq C dX2_hasNumber_5 (tgt := 23) (by decide) rfl (fun c3 => ?_) (fun c3 => ?_)
  · have h := ifp c3 h
    refine v_iconst C dX2_hasNumber_23 rfl ic_0 ?_
    obtain rfl := Option.some.inj h
    exact RET _ _ dX2_hasNumber_24 (Or.inl rfl)
  · have h := ifn c3 h
    refine v_aload_n C dX2_hasNumber_8 rfl rfl 0 rfl ?_
    refine v_getr C dX2_hasNumber_9 rfl ff_X2_11 (shk_0 hq) rfl ?_
    refine v_iload_n C dX2_hasNumber_12 rfl rfl 1 rfl ?_
    obtain ⟨b4, h⟩ := gdS h
    refine v_iald C dX2_hasNumber_13 rfl (shk_1 hq) b4 ?_
    refine v_ldc C dX2_hasNumber_14 rfl m_587 ?_
    refine v_icmp_eq C dX2_hasNumber_16 (tgt := 23) (by decide) rfl (fun c5 => ?_) (fun c5 => ?_)
    · have h := ifp c5 h
      refine v_iconst C dX2_hasNumber_23 rfl ic_0 ?_
      obtain rfl := Option.some.inj h
      exact RET _ _ dX2_hasNumber_24 (Or.inl rfl)
    · have h := ifn c5 h
      refine v_iconst C dX2_hasNumber_19 rfl ic_1 ?_
      refine v_goto C dX2_hasNumber_20 (tgt := 24) (by decide) ?_
      obtain rfl := Option.some.inj h
      exact RET _ _ dX2_hasNumber_24 (Or.inr rfl)
def C_X2_hasNumber (q : Nat) (K : Mem) (a1 : Int32) : Option Int32 := F_X2_hasNumber_0 q K a1
set_option maxRecDepth 100000 in
theorem c_X2_hasNumber {l : Launch} {D : va_G} {cA : FieldType → ClassId} {X : Ex} {ad : Nat → Nat} {q : Nat} (hq : isSheet q) {a1 : Int32} {K : Mem} {r : Int32} (h : C_X2_hasNumber q K a1 = some r) : MI l D cA X yX2_hasNumber cX2_hasNumber 2 (some .boolean) 1 21 [.ref (ad q), .int a1] (wd cA ad K 0 shsK) (wd cA ad K 0 shsK) r :=
  mZ_of (by decide +kernel) (Nat.le_of_ble_eq_true rfl) (fun G h1 h2 h3 h4 C hD RET => by subst h1 h2 h3 h4; exact wF_X2_hasNumber_0 C (fun K' => wd_D K' hD) RET hq h)
def F_X2_hasPlaces_0 (q : Nat) (K : Mem) (a1 : Int32) (a2 : Int32) : Option Int32 :=
  if a1 < 0 then (
    some 0
  ) else (
    if a2 < 0 then (
      some 0
    ) else (
      if (K q 2) < a1 then (
        some 0
      ) else (
        if ((K q 2) - a1) < a2 then (
          some 0
        ) else (
          some 1
        )
      )
    )
  )
set_option maxRecDepth 100000 in
set_option maxHeartbeats 4000000 in
theorem wF_X2_hasPlaces_0 {G : Ctx} {ad : Nat → Nat} {q : Nat} {K : Mem} (C : Cx G RX2 cX2_hasPlaces 3 0 0) (hD : ∀ K, va_D (gA G) (wd (gC G) ad K 0 shsK)) {res : Int32} (RET : RZ G cX2_hasPlaces 3 (wd (gC G) ad K 0 shsK) res) (hq : isSheet q) {a1 : Int32} {a2 : Int32} (h : F_X2_hasPlaces_0 q K a1 a2 = some res) : V G 3 (wd (gC G) ad K 0 shsK) 0 [(0, .ref (ad q)), (1, .int a1), (2, .int a2)] [] := by
  unfold F_X2_hasPlaces_0 at h
  refine v_iload_n C dX2_hasPlaces_0 rfl rfl 1 rfl ?_
  refine v_if_lt C dX2_hasPlaces_1 (tgt := 30) (by decide) rfl (fun c1 => ?_) (fun c1 => ?_)
  · have h := ifp c1 h
    refine v_iconst C dX2_hasPlaces_30 rfl ic_0 ?_
    obtain rfl := Option.some.inj h
    exact RET _ _ dX2_hasPlaces_31 (Or.inl rfl)
  · have h := ifn c1 h
    refine v_iload_n C dX2_hasPlaces_4 rfl rfl 2 rfl ?_
    refine v_if_lt C dX2_hasPlaces_5 (tgt := 30) (by decide) rfl (fun c2 => ?_) (fun c2 => ?_)
    · have h := ifp c2 h
      refine v_iconst C dX2_hasPlaces_30 rfl ic_0 ?_
      obtain rfl := Option.some.inj h
      exact RET _ _ dX2_hasPlaces_31 (Or.inl rfl)
    · have h := ifn c2 h
      refine v_iload_n C dX2_hasPlaces_8 rfl rfl 1 rfl ?_
      refine v_aload_n C dX2_hasPlaces_9 rfl rfl 0 rfl ?_
      refine v_getf C dX2_hasPlaces_10 rfl ff_X2_19 (shk_0 hq) rfl ?_
      refine v_icmp_gt C dX2_hasPlaces_13 (tgt := 30) (by decide) rfl (fun c3 => ?_) (fun c3 => ?_)
      · have h := ifp c3 h
        refine v_iconst C dX2_hasPlaces_30 rfl ic_0 ?_
        obtain rfl := Option.some.inj h
        exact RET _ _ dX2_hasPlaces_31 (Or.inl rfl)
      · have h := ifn c3 h
        refine v_iload_n C dX2_hasPlaces_16 rfl rfl 2 rfl ?_
        refine v_aload_n C dX2_hasPlaces_17 rfl rfl 0 rfl ?_
        refine v_getf C dX2_hasPlaces_18 rfl ff_X2_19 (shk_0 hq) rfl ?_
        refine v_iload_n C dX2_hasPlaces_21 rfl rfl 1 rfl ?_
        refine v_isub C dX2_hasPlaces_22 rfl ?_
        refine v_icmp_gt C dX2_hasPlaces_23 (tgt := 30) (by decide) rfl (fun c4 => ?_) (fun c4 => ?_)
        · have h := ifp c4 h
          refine v_iconst C dX2_hasPlaces_30 rfl ic_0 ?_
          obtain rfl := Option.some.inj h
          exact RET _ _ dX2_hasPlaces_31 (Or.inl rfl)
        · have h := ifn c4 h
          refine v_iconst C dX2_hasPlaces_26 rfl ic_1 ?_
          refine v_goto C dX2_hasPlaces_27 (tgt := 31) (by decide) ?_
          obtain rfl := Option.some.inj h
          exact RET _ _ dX2_hasPlaces_31 (Or.inr rfl)
def C_X2_hasPlaces (q : Nat) (K : Mem) (a1 : Int32) (a2 : Int32) : Option Int32 := F_X2_hasPlaces_0 q K a1 a2
set_option maxRecDepth 100000 in
theorem c_X2_hasPlaces {l : Launch} {D : va_G} {cA : FieldType → ClassId} {X : Ex} {ad : Nat → Nat} {q : Nat} (hq : isSheet q) {a1 : Int32} {a2 : Int32} {K : Mem} {r : Int32} (h : C_X2_hasPlaces q K a1 a2 = some r) : MI l D cA X yX2_hasPlaces cX2_hasPlaces 3 (some .boolean) 0 0 [.ref (ad q), .int a1, .int a2] (wd cA ad K 0 shsK) (wd cA ad K 0 shsK) r :=
  mZ_of (by decide +kernel) (Nat.le_of_ble_eq_true rfl) (fun G h1 h2 h3 h4 C hD RET => by subst h1 h2 h3 h4; exact wF_X2_hasPlaces_0 C (fun K' => wd_D K' hD) RET hq h)
def F_X3_takeCourse_0 (q : Nat) (a1 : Int32) (a2 : Int32) (K : Mem) : Option Mem :=
  nm (up K q 1 1) fun K1 =>
  nm (up K1 q 2 a1) fun K2 =>
  nm (up K2 q 3 a2) fun K3 =>
  some K3
set_option maxRecDepth 100000 in
set_option maxHeartbeats 4000000 in
theorem wF_X3_takeCourse_0 {G : Ctx} {ad : Nat → Nat} {q : Nat} (C : Cx G RX3 cX3_takeCourse 3 0 0) (hD : ∀ K, va_D (gA G) (wd (gC G) ad K 0 shsK)) {res : Mem} (RET : RV G cX3_takeCourse 3 (wd (gC G) ad res 0 shsK)) (hq : isSlot q) {a1 : Int32} {a2 : Int32} {K : Mem} (h : F_X3_takeCourse_0 q a1 a2 K = some res) : V G 3 (wd (gC G) ad K 0 shsK) 0 [(0, .ref (ad q)), (1, .int a1), (2, .int a2)] [] := by
  unfold F_X3_takeCourse_0 at h
  refine v_aload_n C dX3_takeCourse_0 rfl rfl 0 rfl ?_
  refine v_iconst C dX3_takeCourse_1 rfl ic_1 ?_
  obtain ⟨K1, eK1, h⟩ := nmS h
  refine v_putf C hD dX3_takeCourse_2 rfl fp_X3_16 (slk_0 hq) rfl eK1 ?_
  refine v_aload_n C dX3_takeCourse_5 rfl rfl 0 rfl ?_
  refine v_iload_n C dX3_takeCourse_6 rfl rfl 1 rfl ?_
  obtain ⟨K2, eK2, h⟩ := nmS h
  refine v_putf C hD dX3_takeCourse_7 rfl fp_X3_20 (slk_0 hq) rfl eK2 ?_
  refine v_aload_n C dX3_takeCourse_10 rfl rfl 0 rfl ?_
  refine v_iload_n C dX3_takeCourse_11 rfl rfl 2 rfl ?_
  obtain ⟨K3, eK3, h⟩ := nmS h
  refine v_putf C hD dX3_takeCourse_12 rfl fp_X3_23 (slk_0 hq) rfl eK3 ?_
  obtain rfl := Option.some.inj h
  exact RET _ _ dX3_takeCourse_15
def C_X3_takeCourse (q : Nat) (a1 : Int32) (a2 : Int32) (K : Mem) : Option Mem := F_X3_takeCourse_0 q a1 a2 K
set_option maxRecDepth 100000 in
theorem c_X3_takeCourse {l : Launch} {D : va_G} {cA : FieldType → ClassId} {X : Ex} {ad : Nat → Nat} {q : Nat} (hq : isSlot q) {a1 : Int32} {a2 : Int32} {K : Mem} {K' : Mem} (h : C_X3_takeCourse q a1 a2 K = some K') : MV l D cA X yX3_takeCourse cX3_takeCourse 3 0 0 [.ref (ad q), .int a1, .int a2] (wd cA ad K 0 shsK) (wd cA ad K' 0 shsK) :=
  mV_of (by decide +kernel) (Nat.le_of_ble_eq_true rfl) (fun G h1 h2 h3 h4 C hD RET => by subst h1 h2 h3 h4; exact wF_X3_takeCourse_0 C (fun K' => wd_D K' hD) RET hq h)
def F_X3_takeSheet_0 (q : Nat) (q1 : Nat) (K : Mem) : Option Mem :=
  nm (up K q 1 2) fun K1 =>
  bd (C_X2_become (q + 1) q1 K1) fun K3 =>
  some K3
set_option maxRecDepth 100000 in
set_option maxHeartbeats 4000000 in
theorem wF_X3_takeSheet_0 {G : Ctx} {ad : Nat → Nat} {q : Nat} {q1 : Nat} (C : Cx G RX3 cX3_takeSheet 2 2 51) (hD : ∀ K, va_D (gA G) (wd (gC G) ad K 0 shsK)) {res : Mem} (RET : RV G cX3_takeSheet 2 (wd (gC G) ad res 0 shsK)) (hq : isSlot q) (hq1 : isSheet q1) {K : Mem} (h : F_X3_takeSheet_0 q q1 K = some res) : V G 2 (wd (gC G) ad K 0 shsK) 0 [(0, .ref (ad q)), (1, .ref (ad q1))] [] := by
  unfold F_X3_takeSheet_0 at h
  refine v_aload_n C dX3_takeSheet_0 rfl rfl 0 rfl ?_
  refine v_iconst C dX3_takeSheet_1 rfl ic_2 ?_
  obtain ⟨K1, eK1, h⟩ := nmS h
  refine v_putf C hD dX3_takeSheet_2 rfl fp_X3_16 (slk_0 hq) rfl eK1 ?_
  refine v_aload_n C dX3_takeSheet_5 rfl rfl 0 rfl ?_
  refine v_getr C dX3_takeSheet_6 rfl ff_X3_10 (slk_0 hq) rfl ?_
  refine v_aload_n C dX3_takeSheet_9 rfl rfl 1 rfl ?_
  obtain ⟨K3, e2, h⟩ := bdS h
  refine v_callVv C yv_X2_become m_793 (c_X2_become (slot_sheet hq) hq1 e2) (Sub.whole hD _ _) ⟨_, _, _, _, _, wd_at (shk_0 (slot_sheet hq)), rfl⟩ (As := [.ref (ad q1)]) rfl rfl (Nat.le_of_ble_eq_true rfl) ⟨Nat.le_of_ble_eq_true rfl, Nat.le_of_ble_eq_true rfl⟩ dX3_takeSheet_10 rfl ?_
  obtain rfl := Option.some.inj h
  exact RET _ _ dX3_takeSheet_13
def C_X3_takeSheet (q : Nat) (q1 : Nat) (K : Mem) : Option Mem := F_X3_takeSheet_0 q q1 K
set_option maxRecDepth 100000 in
theorem c_X3_takeSheet {l : Launch} {D : va_G} {cA : FieldType → ClassId} {X : Ex} {ad : Nat → Nat} {q : Nat} {q1 : Nat} (hq : isSlot q) (hq1 : isSheet q1) {K : Mem} {K' : Mem} (h : C_X3_takeSheet q q1 K = some K') : MV l D cA X yX3_takeSheet cX3_takeSheet 2 2 51 [.ref (ad q), .ref (ad q1)] (wd cA ad K 0 shsK) (wd cA ad K' 0 shsK) :=
  mV_of (by decide +kernel) (Nat.le_of_ble_eq_true rfl) (fun G h1 h2 h3 h4 C hD RET => by subst h1 h2 h3 h4; exact wF_X3_takeSheet_0 C (fun K' => wd_D K' hD) RET hq hq1 h)
def F_X3_takeNumber_0 (q : Nat) (a1 : Int32) (K : Mem) : Option Mem :=
  nm (up K q 1 3) fun K1 =>
  nm (up K1 q 4 a1) fun K2 =>
  some K2
set_option maxRecDepth 100000 in
set_option maxHeartbeats 4000000 in
theorem wF_X3_takeNumber_0 {G : Ctx} {ad : Nat → Nat} {q : Nat} (C : Cx G RX3 cX3_takeNumber 2 0 0) (hD : ∀ K, va_D (gA G) (wd (gC G) ad K 0 shsK)) {res : Mem} (RET : RV G cX3_takeNumber 2 (wd (gC G) ad res 0 shsK)) (hq : isSlot q) {a1 : Int32} {K : Mem} (h : F_X3_takeNumber_0 q a1 K = some res) : V G 2 (wd (gC G) ad K 0 shsK) 0 [(0, .ref (ad q)), (1, .int a1)] [] := by
  unfold F_X3_takeNumber_0 at h
  refine v_aload_n C dX3_takeNumber_0 rfl rfl 0 rfl ?_
  refine v_iconst C dX3_takeNumber_1 rfl ic_3 ?_
  obtain ⟨K1, eK1, h⟩ := nmS h
  refine v_putf C hD dX3_takeNumber_2 rfl fp_X3_16 (slk_0 hq) rfl eK1 ?_
  refine v_aload_n C dX3_takeNumber_5 rfl rfl 0 rfl ?_
  refine v_iload_n C dX3_takeNumber_6 rfl rfl 1 rfl ?_
  obtain ⟨K2, eK2, h⟩ := nmS h
  refine v_putf C hD dX3_takeNumber_7 rfl fp_X3_30 (slk_0 hq) rfl eK2 ?_
  obtain rfl := Option.some.inj h
  exact RET _ _ dX3_takeNumber_10
def C_X3_takeNumber (q : Nat) (a1 : Int32) (K : Mem) : Option Mem := F_X3_takeNumber_0 q a1 K
set_option maxRecDepth 100000 in
theorem c_X3_takeNumber {l : Launch} {D : va_G} {cA : FieldType → ClassId} {X : Ex} {ad : Nat → Nat} {q : Nat} (hq : isSlot q) {a1 : Int32} {K : Mem} {K' : Mem} (h : C_X3_takeNumber q a1 K = some K') : MV l D cA X yX3_takeNumber cX3_takeNumber 2 0 0 [.ref (ad q), .int a1] (wd cA ad K 0 shsK) (wd cA ad K' 0 shsK) :=
  mV_of (by decide +kernel) (Nat.le_of_ble_eq_true rfl) (fun G h1 h2 h3 h4 C hD RET => by subst h1 h2 h3 h4; exact wF_X3_takeNumber_0 C (fun K' => wd_D K' hD) RET hq h)
def F_X4_add_3 (k3 : Int32 → Int32 → Mem → Option Mem) (a1 : Int32) (a2 : Int32) (K : Mem) : Option Mem :=
  if a2 < 0 then (
    some K
  ) else (
    if 96 ≤ (K 46 1) then (
      some K
    ) else (
      gd (inb (K 46 1) 96) <|
      nm (up K 47 (Int32.toNatClampNeg (K 46 1)) ((jushr a1 a2) &&& 255)) fun K4 =>
      nm (up K4 46 1 ((K4 46 1) + 1)) fun K5 =>
      nm (a2 + (-8)) fun v6 =>
      k3 a1 v6 K5
    )
  )
def L_X4_add_3 : Nat → Int32 → Int32 → Mem → Option Mem
  | 0, _, _, _ => none
  | n + 1, a1, a2, K => F_X4_add_3 (fun a1 a2 K => L_X4_add_3 n a1 a2 K) a1 a2 K
set_option maxRecDepth 100000 in
set_option maxHeartbeats 4000000 in
theorem wF_X4_add_3 {G : Ctx} {ad : Nat → Nat} {k3 : Int32 → Int32 → Mem → Option Mem} (C : Cx G RX4 cX4_add 3 0 0) (hD : ∀ K, va_D (gA G) (wd (gC G) ad K 0 shsK)) {res : Mem} (RET : RV G cX4_add 3 (wd (gC G) ad res 0 shsK)) (hk3 : ∀ {a1 : Int32} {a2 : Int32} {K : Mem} , k3 a1 a2 K = some res → V G 3 (wd (gC G) ad K 0 shsK) 3 [(0, .ref (ad 46)), (1, .int a1), (2, .int a2)] []) {a1 : Int32} {a2 : Int32} {K : Mem} (h : F_X4_add_3 k3 a1 a2 K = some res) : V G 3 (wd (gC G) ad K 0 shsK) 3 [(0, .ref (ad 46)), (1, .int a1), (2, .int a2)] [] := by
  unfold F_X4_add_3 at h
  refine v_iload_n C dX4_add_3 rfl rfl 2 rfl ?_
  refine v_if_lt C dX4_add_4 (tgt := 51) (by decide) rfl (fun c1 => ?_) (fun c1 => ?_)
  · have h := ifp c1 h
    obtain rfl := Option.some.inj h
    exact RET _ _ dX4_add_51
  · have h := ifn c1 h
    refine v_aload_n C dX4_add_7 rfl rfl 0 rfl ?_
    refine v_getf C dX4_add_8 rfl ff_X4_15 sk_46 rfl ?_
    refine v_aload_n C dX4_add_11 rfl rfl 0 rfl ?_
    refine v_getr C dX4_add_12 rfl ff_X4_9 sk_46 rfl ?_
    refine v_alen C dX4_add_15 rfl sk_47 (v := 96) (by decide) ?_
    refine v_icmp_ge C dX4_add_16 (tgt := 51) (by decide) rfl (fun c2 => ?_) (fun c2 => ?_)
    · have h := ifp c2 h
      obtain rfl := Option.some.inj h
      exact RET _ _ dX4_add_51
    · have h := ifn c2 h
      refine v_aload_n C dX4_add_19 rfl rfl 0 rfl ?_
      refine v_getr C dX4_add_20 rfl ff_X4_9 sk_46 rfl ?_
      refine v_aload_n C dX4_add_23 rfl rfl 0 rfl ?_
      refine v_getf C dX4_add_24 rfl ff_X4_15 sk_46 rfl ?_
      refine v_iload_n C dX4_add_27 rfl rfl 1 rfl ?_
      refine v_iload_n C dX4_add_28 rfl rfl 2 rfl ?_
      refine v_iushr C dX4_add_29 rfl ?_
      refine v_sipush C dX4_add_30 rfl si_255 ?_
      refine v_iand C dX4_add_33 rfl ?_
      obtain ⟨b3, h⟩ := gdS h
      obtain ⟨K4, eK4, h⟩ := nmS h
      refine v_iast C hD dX4_add_34 rfl sk_47 b3 eK4 ?_
      refine v_aload_n C dX4_add_35 rfl rfl 0 rfl ?_
      refine v_dup C dX4_add_36 rfl rfl ?_
      refine v_getf C dX4_add_37 rfl ff_X4_15 sk_46 rfl ?_
      refine v_iconst C dX4_add_40 rfl ic_1 ?_
      refine v_iadd C dX4_add_41 rfl ?_
      obtain ⟨K5, eK5, h⟩ := nmS h
      refine v_putf C hD dX4_add_42 rfl fp_X4_15 sk_46 rfl eK5 ?_
      obtain ⟨v6, ev6, h⟩ := nmS h
      refine v_iinc C dX4_add_45 rfl 2 rfl (v := v6) (by rw [ev6]; rfl) (by decide) (L' := [(2, .int v6), (0, .ref (ad 46)), (1, .int a1)]) rfl ?_
      refine v_goto C dX4_add_48 (tgt := 3) (by decide) ?_
      refine v_sub [1, 2, 0] rfl ?_
      exact hk3 h
theorem wL_X4_add_3 {G : Ctx} {ad : Nat → Nat} (C : Cx G RX4 cX4_add 3 0 0) (hD : ∀ K, va_D (gA G) (wd (gC G) ad K 0 shsK)) {res : Mem} (RET : RV G cX4_add 3 (wd (gC G) ad res 0 shsK)) : ∀ (n : Nat) {a1 : Int32} {a2 : Int32} {K : Mem} (h : L_X4_add_3 n a1 a2 K = some res), V G 3 (wd (gC G) ad K 0 shsK) 3 [(0, .ref (ad 46)), (1, .int a1), (2, .int a2)] [] := by
  intro n
  induction n with
  | zero =>
    intro a1 a2 K h
    cases (show (none : Option Mem) = some res from h)
  | succ n ih =>
    intro a1 a2 K h
    exact wF_X4_add_3 (k3 := fun a1 a2 K => L_X4_add_3  n a1 a2 K) C hD RET (fun h => ih h) h
def F_X4_add_0 (a1 : Int32) (K : Mem) : Option Mem :=
  L_X4_add_3 FU a1 24 K
set_option maxRecDepth 100000 in
set_option maxHeartbeats 4000000 in
theorem wF_X4_add_0 {G : Ctx} {ad : Nat → Nat} (C : Cx G RX4 cX4_add 3 0 0) (hD : ∀ K, va_D (gA G) (wd (gC G) ad K 0 shsK)) {res : Mem} (RET : RV G cX4_add 3 (wd (gC G) ad res 0 shsK)) {a1 : Int32} {K : Mem} (h : F_X4_add_0 a1 K = some res) : V G 3 (wd (gC G) ad K 0 shsK) 0 [(0, .ref (ad 46)), (1, .int a1)] [] := by
  unfold F_X4_add_0 at h
  refine v_bipush C dX4_add_0 rfl bi_24 ?_
  refine v_istore_n C dX4_add_2 rfl rfl (by decide) (L' := [(2, .int 24), (0, .ref (ad 46)), (1, .int a1)]) rfl ?_
  refine v_sub [1, 2, 0] rfl ?_
  exact wL_X4_add_3 C hD RET FU h
def C_X4_add (a1 : Int32) (K : Mem) : Option Mem := F_X4_add_0 a1 K
set_option maxRecDepth 100000 in
theorem c_X4_add {l : Launch} {D : va_G} {cA : FieldType → ClassId} {X : Ex} {ad : Nat → Nat} {a1 : Int32} {K : Mem} {K' : Mem} (h : C_X4_add a1 K = some K') : MV l D cA X yX4_add cX4_add 3 0 0 [.ref (ad 46), .int a1] (wd cA ad K 0 shsK) (wd cA ad K' 0 shsK) :=
  mV_of (by decide +kernel) (Nat.le_of_ble_eq_true rfl) (fun G h1 h2 h3 h4 C hD RET => by subst h1 h2 h3 h4; exact wF_X4_add_0 C (fun K' => wd_D K' hD) RET  h)
def F_X5_store_0 (a1 : Int32) (K : Mem) : Option Mem :=
  if a1 < 0 then (
    some K
  ) else (
    if a1 < 14 then (
      gd (inb a1 14) <|
      nm (rwG (Int32.toNatClampNeg a1)) fun s4 =>
      gd (cpok 0 0 (K 48 2) 96 96) <|
      nm (cpm K 49 s4 (Int32.toNatClampNeg 0) (Int32.toNatClampNeg 0) (Int32.toNatClampNeg (K 48 2))) fun K6 =>
      gd (inb a1 14) <|
      nm (up K6 3 (Int32.toNatClampNeg a1) (K6 48 2)) fun K8 =>
      gd (inb a1 14) <|
      nm (up K8 4 (Int32.toNatClampNeg a1) (K8 48 4)) fun K10 =>
      gd (inb a1 14) <|
      nm (up K10 5 (Int32.toNatClampNeg a1) (K10 48 3)) fun K12 =>
      some K12
    ) else (
      some K
    )
  )
set_option maxRecDepth 100000 in
set_option maxHeartbeats 4000000 in
theorem wF_X5_store_0 {G : Ctx} {ad : Nat → Nat} (C : Cx G RX5 cX5_store 3 1 30) (hD : ∀ K, va_D (gA G) (wd (gC G) ad K 0 shsK)) {res : Mem} (RET : RV G cX5_store 3 (wd (gC G) ad res 0 shsK)) {a1 : Int32} {K : Mem} (h : F_X5_store_0 a1 K = some res) : V G 3 (wd (gC G) ad K 0 shsK) 0 [(0, .ref (ad 1)), (1, .int a1), (2, .ref (ad 48))] [] := by
  unfold F_X5_store_0 at h
  refine v_iload_n C dX5_store_0 rfl rfl 1 rfl ?_
  refine v_if_lt C dX5_store_1 (tgt := 10) (by decide) rfl (fun c1 => ?_) (fun c1 => ?_)
  · have h := ifp c1 h
    obtain rfl := Option.some.inj h
    exact RET _ _ dX5_store_10
  · have h := ifn c1 h
    refine v_iload_n C dX5_store_4 rfl rfl 1 rfl ?_
    refine v_bipush C dX5_store_5 rfl bi_14 ?_
    refine v_icmp_lt C dX5_store_7 (tgt := 11) (by decide) rfl (fun c2 => ?_) (fun c2 => ?_)
    · have h := ifp c2 h
      refine v_aload_n C dX5_store_11 rfl rfl 2 rfl ?_
      refine v_getr C dX5_store_12 rfl ff_X5_29 sk_48 rfl ?_
      refine v_iconst C dX5_store_15 rfl ic_0 ?_
      refine v_aload_n C dX5_store_16 rfl rfl 0 rfl ?_
      refine v_getr C dX5_store_17 rfl ff_X5_11 sk_1 rfl ?_
      refine v_iload_n C dX5_store_20 rfl rfl 1 rfl ?_
      obtain ⟨b3, h⟩ := gdS h
      obtain ⟨s4, es4, h⟩ := nmS h
      refine v_aald C (t0 := 1) rfl (fun _ => rfl) dX5_store_21 rfl sk_2 b3 ?_
      have hs4 : isRow s4 := es4 ▸ isRow_of b3
      refine v_nmr es4 ?_
      refine v_iconst C dX5_store_22 rfl ic_0 ?_
      refine v_aload_n C dX5_store_23 rfl rfl 2 rfl ?_
      refine v_getf C dX5_store_24 rfl ff_X5_34 sk_48 rfl ?_
      obtain ⟨b5, h⟩ := gdS h
      obtain ⟨K6, eK6, h⟩ := nmS h
      refine v_copy C hD dX5_store_27 rfl m_728 m_541 m_540 m_13 (Nat.le_of_ble_eq_true rfl) (Nat.le_of_ble_eq_true rfl) sk_49 (row_0 hs4) b5 eK6 ?_
      refine v_aload_n C dX5_store_30 rfl rfl 0 rfl ?_
      refine v_getr C dX5_store_31 rfl ff_X5_16 sk_1 rfl ?_
      refine v_iload_n C dX5_store_34 rfl rfl 1 rfl ?_
      refine v_aload_n C dX5_store_35 rfl rfl 2 rfl ?_
      refine v_getf C dX5_store_36 rfl ff_X5_34 sk_48 rfl ?_
      obtain ⟨b7, h⟩ := gdS h
      obtain ⟨K8, eK8, h⟩ := nmS h
      refine v_iast C hD dX5_store_39 rfl sk_3 b7 eK8 ?_
      refine v_aload_n C dX5_store_40 rfl rfl 0 rfl ?_
      refine v_getr C dX5_store_41 rfl ff_X5_20 sk_1 rfl ?_
      refine v_iload_n C dX5_store_44 rfl rfl 1 rfl ?_
      refine v_aload_n C dX5_store_45 rfl rfl 2 rfl ?_
      refine v_getf C dX5_store_46 rfl ff_X5_44 sk_48 rfl ?_
      obtain ⟨b9, h⟩ := gdS h
      obtain ⟨K10, eK10, h⟩ := nmS h
      refine v_iast C hD dX5_store_49 rfl sk_4 b9 eK10 ?_
      refine v_aload_n C dX5_store_50 rfl rfl 0 rfl ?_
      refine v_getr C dX5_store_51 rfl ff_X5_23 sk_1 rfl ?_
      refine v_iload_n C dX5_store_54 rfl rfl 1 rfl ?_
      refine v_aload_n C dX5_store_55 rfl rfl 2 rfl ?_
      refine v_getf C dX5_store_56 rfl ff_X5_46 sk_48 rfl ?_
      obtain ⟨b11, h⟩ := gdS h
      obtain ⟨K12, eK12, h⟩ := nmS h
      refine v_iast C hD dX5_store_59 rfl sk_5 b11 eK12 ?_
      obtain rfl := Option.some.inj h
      exact RET _ _ dX5_store_60
    · have h := ifn c2 h
      obtain rfl := Option.some.inj h
      exact RET _ _ dX5_store_10
def C_X5_store (a1 : Int32) (K : Mem) : Option Mem := F_X5_store_0 a1 K
set_option maxRecDepth 100000 in
theorem c_X5_store {l : Launch} {D : va_G} {cA : FieldType → ClassId} {X : Ex} {ad : Nat → Nat} {a1 : Int32} {K : Mem} {K' : Mem} (h : C_X5_store a1 K = some K') : MV l D cA X yX5_store cX5_store 3 1 30 [.ref (ad 1), .int a1, .ref (ad 48)] (wd cA ad K 0 shsK) (wd cA ad K' 0 shsK) :=
  mV_of (by decide +kernel) (Nat.le_of_ble_eq_true rfl) (fun G h1 h2 h3 h4 C hD RET => by subst h1 h2 h3 h4; exact wF_X5_store_0 C (fun K' => wd_D K' hD) RET  h)
def F_X5_push_0 (a1 : Int32) (K : Mem) : Option Mem :=
  if (K 1 5) < 0 then (
    some K
  ) else (
    if 96 ≤ (K 1 5) then (
      some K
    ) else (
      gd (inb (K 1 5) 96) <|
      nm (up K 20 (Int32.toNatClampNeg (K 1 5)) a1) fun K4 =>
      nm (up K4 1 5 ((K4 1 5) + 1)) fun K5 =>
      some K5
    )
  )
set_option maxRecDepth 100000 in
set_option maxHeartbeats 4000000 in
theorem wF_X5_push_0 {G : Ctx} {ad : Nat → Nat} (C : Cx G RX5 cX5_push 2 0 0) (hD : ∀ K, va_D (gA G) (wd (gC G) ad K 0 shsK)) {res : Mem} (RET : RV G cX5_push 2 (wd (gC G) ad res 0 shsK)) {a1 : Int32} {K : Mem} (h : F_X5_push_0 a1 K = some res) : V G 2 (wd (gC G) ad K 0 shsK) 0 [(0, .ref (ad 1)), (1, .int a1)] [] := by
  unfold F_X5_push_0 at h
  refine v_aload_n C dX5_push_0 rfl rfl 0 rfl ?_
  refine v_getf C dX5_push_1 rfl ff_X5_48 sk_1 rfl ?_
  refine v_if_lt C dX5_push_4 (tgt := 39) (by decide) rfl (fun c1 => ?_) (fun c1 => ?_)
  · have h := ifp c1 h
    obtain rfl := Option.some.inj h
    exact RET _ _ dX5_push_39
  · have h := ifn c1 h
    refine v_aload_n C dX5_push_7 rfl rfl 0 rfl ?_
    refine v_getf C dX5_push_8 rfl ff_X5_48 sk_1 rfl ?_
    refine v_aload_n C dX5_push_11 rfl rfl 0 rfl ?_
    refine v_getr C dX5_push_12 rfl ff_X5_26 sk_1 rfl ?_
    refine v_alen C dX5_push_15 rfl sk_20 (v := 96) (by decide) ?_
    refine v_icmp_ge C dX5_push_16 (tgt := 39) (by decide) rfl (fun c2 => ?_) (fun c2 => ?_)
    · have h := ifp c2 h
      obtain rfl := Option.some.inj h
      exact RET _ _ dX5_push_39
    · have h := ifn c2 h
      refine v_aload_n C dX5_push_19 rfl rfl 0 rfl ?_
      refine v_getr C dX5_push_20 rfl ff_X5_26 sk_1 rfl ?_
      refine v_aload_n C dX5_push_23 rfl rfl 0 rfl ?_
      refine v_getf C dX5_push_24 rfl ff_X5_48 sk_1 rfl ?_
      refine v_iload_n C dX5_push_27 rfl rfl 1 rfl ?_
      obtain ⟨b3, h⟩ := gdS h
      obtain ⟨K4, eK4, h⟩ := nmS h
      refine v_iast C hD dX5_push_28 rfl sk_20 b3 eK4 ?_
      refine v_aload_n C dX5_push_29 rfl rfl 0 rfl ?_
      refine v_dup C dX5_push_30 rfl rfl ?_
      refine v_getf C dX5_push_31 rfl ff_X5_48 sk_1 rfl ?_
      refine v_iconst C dX5_push_34 rfl ic_1 ?_
      refine v_iadd C dX5_push_35 rfl ?_
      obtain ⟨K5, eK5, h⟩ := nmS h
      refine v_putf C hD dX5_push_36 rfl fp_X5_48 sk_1 rfl eK5 ?_
      obtain rfl := Option.some.inj h
      exact RET _ _ dX5_push_39
def C_X5_push (a1 : Int32) (K : Mem) : Option Mem := F_X5_push_0 a1 K
set_option maxRecDepth 100000 in
theorem c_X5_push {l : Launch} {D : va_G} {cA : FieldType → ClassId} {X : Ex} {ad : Nat → Nat} {a1 : Int32} {K : Mem} {K' : Mem} (h : C_X5_push a1 K = some K') : MV l D cA X yX5_push cX5_push 2 0 0 [.ref (ad 1), .int a1] (wd cA ad K 0 shsK) (wd cA ad K' 0 shsK) :=
  mV_of (by decide +kernel) (Nat.le_of_ble_eq_true rfl) (fun G h1 h2 h3 h4 C hD RET => by subst h1 h2 h3 h4; exact wF_X5_push_0 C (fun K' => wd_D K' hD) RET  h)
def F_X5_isLetter_0 (a0 : Int32) : Option Int32 :=
  if a0 < 97 then (
    some 0
  ) else (
    if 122 < a0 then (
      some 0
    ) else (
      some 1
    )
  )
set_option maxRecDepth 100000 in
set_option maxHeartbeats 4000000 in
theorem wF_X5_isLetter_0 {G : Ctx} {w : va_W} (C : Cx G RX5 cX5_isLetter 1 0 0) (hD : va_D (gA G) w) {res : Int32} (RET : RZ G cX5_isLetter 1 w res) {a0 : Int32} (h : F_X5_isLetter_0 a0 = some res) : V G 1 w 0 [(0, .int a0)] [] := by
  unfold F_X5_isLetter_0 at h
  refine v_iload_n C dX5_isLetter_0 rfl rfl 0 rfl ?_
  refine v_bipush C dX5_isLetter_1 rfl bi_97 ?_
  refine v_icmp_lt C dX5_isLetter_3 (tgt := 16) (by decide) rfl (fun c1 => ?_) (fun c1 => ?_)
  · have h := ifp c1 h
    refine v_iconst C dX5_isLetter_16 rfl ic_0 ?_
    obtain rfl := Option.some.inj h
    exact RET _ _ dX5_isLetter_17 (Or.inl rfl)
  · have h := ifn c1 h
    refine v_iload_n C dX5_isLetter_6 rfl rfl 0 rfl ?_
    refine v_bipush C dX5_isLetter_7 rfl bi_122 ?_
    refine v_icmp_gt C dX5_isLetter_9 (tgt := 16) (by decide) rfl (fun c2 => ?_) (fun c2 => ?_)
    · have h := ifp c2 h
      refine v_iconst C dX5_isLetter_16 rfl ic_0 ?_
      obtain rfl := Option.some.inj h
      exact RET _ _ dX5_isLetter_17 (Or.inl rfl)
    · have h := ifn c2 h
      refine v_iconst C dX5_isLetter_12 rfl ic_1 ?_
      refine v_goto C dX5_isLetter_13 (tgt := 17) (by decide) ?_
      obtain rfl := Option.some.inj h
      exact RET _ _ dX5_isLetter_17 (Or.inr rfl)
def C_X5_isLetter (a0 : Int32) : Option Int32 := F_X5_isLetter_0 a0
set_option maxRecDepth 100000 in
theorem c_X5_isLetter {l : Launch} {D : va_G} {cA : FieldType → ClassId} {X : Ex} {w : va_W} {a0 : Int32} {r : Int32} (h : C_X5_isLetter a0 = some r) : MI l D cA X yX5_isLetter cX5_isLetter 1 (some .boolean) 0 0 [.int a0] w w r :=
  mZ_of (by decide +kernel) (Nat.le_of_ble_eq_true rfl) (fun G h1 h2 h3 h4 C hD RET => by subst h1 h2 h3 h4; exact wF_X5_isLetter_0 C hD RET  h)
def F_X5_named_15 (q1 : Nat) (K : Mem) (a0 : Int32) (a2 : Int32) (t0 : Int32) : Option Int32 :=
  if a0 = 103 then (
    if t0 = 0 then (
      some 0
    ) else (
      gd (inb a2 12) <|
      some (K (q1 + 2) (Int32.toNatClampNeg a2))
    )
  ) else (
    if a0 = 109 then (
      some (K q1 10)
    ) else (
      if a0 = 110 then (
        some (K q1 11)
      ) else (
        if a0 = 114 then (
          some (K q1 9)
        ) else (
          if a0 = 119 then (
            if t0 = 0 then (
              some 0
            ) else (
              gd (inb a2 12) <|
              some (K (q1 + 3) (Int32.toNatClampNeg a2))
            )
          ) else (
            some 0
          )
        )
      )
    )
  )
set_option maxRecDepth 100000 in
set_option maxHeartbeats 4000000 in
theorem wF_X5_named_15 {G : Ctx} {ad : Nat → Nat} {q1 : Nat} {K : Mem} (C : Cx G RX5 cX5_named 4 0 0) (hD : ∀ K, va_D (gA G) (wd (gC G) ad K 0 shsK)) {res : Int32} (RET : RI G cX5_named 4 (wd (gC G) ad K 0 shsK) res) (hq1 : isTown q1) {a0 : Int32} {a2 : Int32} {t0 : Int32} (h : F_X5_named_15 q1 K a0 a2 t0 = some res) : V G 4 (wd (gC G) ad K 0 shsK) 15 [(0, .int a0), (1, .ref (ad q1)), (2, .int a2)] [.int t0] := by
  unfold F_X5_named_15 at h
  refine v_istore_n C dX5_named_15 rfl rfl (by decide) (L' := [(3, .int t0), (0, .int a0), (1, .ref (ad q1)), (2, .int a2)]) rfl ?_
  refine v_iload_n C dX5_named_16 rfl rfl 1 rfl ?_
  by_cases c3 : a0 = 103
  · have h := ifp c3 h
    refine v_lsw C dX5_named_17 (by decide) (off := 51) (by rw [c3]; decide) (tgt := 68) (by decide) ?_
    refine v_iload_n C dX5_named_68 rfl rfl 0 rfl ?_
    refine v_if_eq C dX5_named_69 (tgt := 81) (by decide) rfl (fun c4 => ?_) (fun c4 => ?_)
    · have h := ifp c4 h
      refine v_iconst C dX5_named_81 rfl ic_0 ?_
      obtain rfl := Option.some.inj h
      exact RET _ _ dX5_named_82
    · have h := ifn c4 h
      refine v_aload_n C dX5_named_72 rfl rfl 2 rfl ?_
      refine v_getr C dX5_named_73 rfl ff_X5_75 (tk_0 hq1) rfl ?_
      refine v_iload_n C dX5_named_76 rfl rfl 3 rfl ?_
      obtain ⟨b5, h⟩ := gdS h
      refine v_iald C dX5_named_77 rfl (tk_2 hq1) b5 ?_
      refine v_goto C dX5_named_78 (tgt := 82) (by decide) ?_
      obtain rfl := Option.some.inj h
      exact RET _ _ dX5_named_82
  · have h := ifn c3 h
    by_cases c6 : a0 = 109
    · have h := ifp c6 h
      refine v_lsw C dX5_named_17 (by decide) (off := 91) (by rw [c6]; decide) (tgt := 108) (by decide) ?_
      refine v_aload_n C dX5_named_108 rfl rfl 2 rfl ?_
      refine v_getf C dX5_named_109 rfl ff_X5_89 (tk_0 hq1) rfl ?_
      obtain rfl := Option.some.inj h
      exact RET _ _ dX5_named_112
    · have h := ifn c6 h
      by_cases c7 : a0 = 110
      · have h := ifp c7 h
        refine v_lsw C dX5_named_17 (by decide) (off := 81) (by rw [c7]; decide) (tgt := 98) (by decide) ?_
        refine v_aload_n C dX5_named_98 rfl rfl 2 rfl ?_
        refine v_getf C dX5_named_99 rfl ff_X5_83 (tk_0 hq1) rfl ?_
        obtain rfl := Option.some.inj h
        exact RET _ _ dX5_named_102
      · have h := ifn c7 h
        by_cases c8 : a0 = 114
        · have h := ifp c8 h
          refine v_lsw C dX5_named_17 (by decide) (off := 86) (by rw [c8]; decide) (tgt := 103) (by decide) ?_
          refine v_aload_n C dX5_named_103 rfl rfl 2 rfl ?_
          refine v_getf C dX5_named_104 rfl ff_X5_86 (tk_0 hq1) rfl ?_
          obtain rfl := Option.some.inj h
          exact RET _ _ dX5_named_107
        · have h := ifn c8 h
          by_cases c9 : a0 = 119
          · have h := ifp c9 h
            refine v_lsw C dX5_named_17 (by decide) (off := 66) (by rw [c9]; decide) (tgt := 83) (by decide) ?_
            refine v_iload_n C dX5_named_83 rfl rfl 0 rfl ?_
            refine v_if_eq C dX5_named_84 (tgt := 96) (by decide) rfl (fun c10 => ?_) (fun c10 => ?_)
            · have h := ifp c10 h
              refine v_iconst C dX5_named_96 rfl ic_0 ?_
              obtain rfl := Option.some.inj h
              exact RET _ _ dX5_named_97
            · have h := ifn c10 h
              refine v_aload_n C dX5_named_87 rfl rfl 2 rfl ?_
              refine v_getr C dX5_named_88 rfl ff_X5_80 (tk_0 hq1) rfl ?_
              refine v_iload_n C dX5_named_91 rfl rfl 3 rfl ?_
              obtain ⟨b11, h⟩ := gdS h
              refine v_iald C dX5_named_92 rfl (tk_3 hq1) b11 ?_
              refine v_goto C dX5_named_93 (tgt := 97) (by decide) ?_
              obtain rfl := Option.some.inj h
              exact RET _ _ dX5_named_97
          · have h := ifn c9 h
            refine v_lsw C dX5_named_17 (by decide) (off := 96) ((lv_osw c3 (by decide)).trans ((lv_osw c6 (by decide)).trans ((lv_osw c7 (by decide)).trans ((lv_osw c8 (by decide)).trans ((lv_osw c9 (by decide)).trans rfl))))) (tgt := 113) (by decide) ?_
            refine v_iconst C dX5_named_113 rfl ic_0 ?_
            obtain rfl := Option.some.inj h
            exact RET _ _ dX5_named_114
def F_X5_named_0 (q1 : Nat) (K : Mem) (a0 : Int32) (a2 : Int32) : Option Int32 :=
  if a2 < 0 then (
    F_X5_named_15 q1 K a0 a2 0
  ) else (
    if 12 ≤ a2 then (
      F_X5_named_15 q1 K a0 a2 0
    ) else (
      F_X5_named_15 q1 K a0 a2 1
    )
  )
set_option maxRecDepth 100000 in
set_option maxHeartbeats 4000000 in
theorem wF_X5_named_0 {G : Ctx} {ad : Nat → Nat} {q1 : Nat} {K : Mem} (C : Cx G RX5 cX5_named 4 0 0) (hD : ∀ K, va_D (gA G) (wd (gC G) ad K 0 shsK)) {res : Int32} (RET : RI G cX5_named 4 (wd (gC G) ad K 0 shsK) res) (hq1 : isTown q1) {a0 : Int32} {a2 : Int32} (h : F_X5_named_0 q1 K a0 a2 = some res) : V G 4 (wd (gC G) ad K 0 shsK) 0 [(0, .int a0), (1, .ref (ad q1)), (2, .int a2)] [] := by
  unfold F_X5_named_0 at h
  refine v_iload_n C dX5_named_0 rfl rfl 2 rfl ?_
  refine v_if_lt C dX5_named_1 (tgt := 14) (by decide) rfl (fun c1 => ?_) (fun c1 => ?_)
  · have h := ifp c1 h
    refine v_iconst C dX5_named_14 rfl ic_0 ?_
    exact wF_X5_named_15 C hD RET hq1 h
  · have h := ifn c1 h
    refine v_iload_n C dX5_named_4 rfl rfl 2 rfl ?_
    refine v_bipush C dX5_named_5 rfl bi_12 ?_
    refine v_icmp_ge C dX5_named_7 (tgt := 14) (by decide) rfl (fun c2 => ?_) (fun c2 => ?_)
    · have h := ifp c2 h
      refine v_iconst C dX5_named_14 rfl ic_0 ?_
      exact wF_X5_named_15 C hD RET hq1 h
    · have h := ifn c2 h
      refine v_iconst C dX5_named_10 rfl ic_1 ?_
      refine v_goto C dX5_named_11 (tgt := 15) (by decide) ?_
      exact wF_X5_named_15 C hD RET hq1 h
def C_X5_named (q1 : Nat) (K : Mem) (a0 : Int32) (a2 : Int32) : Option Int32 := F_X5_named_0 q1 K a0 a2
set_option maxRecDepth 100000 in
theorem c_X5_named {l : Launch} {D : va_G} {cA : FieldType → ClassId} {X : Ex} {ad : Nat → Nat} {q1 : Nat} (hq1 : isTown q1) {a0 : Int32} {a2 : Int32} {K : Mem} {r : Int32} (h : C_X5_named q1 K a0 a2 = some r) : MI l D cA X yX5_named cX5_named 4 (some .int) 0 0 [.int a0, .ref (ad q1), .int a2] (wd cA ad K 0 shsK) (wd cA ad K 0 shsK) r :=
  mI_of (by decide +kernel) (Nat.le_of_ble_eq_true rfl) (fun G h1 h2 h3 h4 C hD RET => by subst h1 h2 h3 h4; exact wF_X5_named_0 C (fun K' => wd_D K' hD) RET hq1 h)
def F_X5_pop_0 (K : Mem) : Option (Int32 × Mem) :=
  if (K 1 5) ≤ 0 then (
    some (0, K)
  ) else (
    if (K 1 5) ≤ 96 then (
      nm (up K 1 5 ((K 1 5) - 1)) fun K3 =>
      gd (inb (K3 1 5) 96) <|
      some (K3 20 (Int32.toNatClampNeg (K3 1 5)), K3)
    ) else (
      some (0, K)
    )
  )
set_option maxRecDepth 100000 in
set_option maxHeartbeats 4000000 in
theorem wF_X5_pop_0 {G : Ctx} {ad : Nat → Nat} (C : Cx G RX5 cX5_pop 1 0 0) (hD : ∀ K, va_D (gA G) (wd (gC G) ad K 0 shsK)) {res : (Int32 × Mem)} (RET : RI G cX5_pop 1 (wd (gC G) ad res.2 0 shsK) res.1) {K : Mem} (h : F_X5_pop_0 K = some res) : V G 1 (wd (gC G) ad K 0 shsK) 0 [(0, .ref (ad 1))] [] := by
  unfold F_X5_pop_0 at h
  refine v_aload_n C dX5_pop_0 rfl rfl 0 rfl ?_
  refine v_getf C dX5_pop_1 rfl ff_X5_48 sk_1 rfl ?_
  refine v_if_le C dX5_pop_4 (tgt := 19) (by decide) rfl (fun c1 => ?_) (fun c1 => ?_)
  · have h := ifp c1 h
    refine v_iconst C dX5_pop_19 rfl ic_0 ?_
    obtain rfl := Option.some.inj h
    exact RET _ _ dX5_pop_20
  · have h := ifn c1 h
    refine v_aload_n C dX5_pop_7 rfl rfl 0 rfl ?_
    refine v_getf C dX5_pop_8 rfl ff_X5_48 sk_1 rfl ?_
    refine v_aload_n C dX5_pop_11 rfl rfl 0 rfl ?_
    refine v_getr C dX5_pop_12 rfl ff_X5_26 sk_1 rfl ?_
    refine v_alen C dX5_pop_15 rfl sk_20 (v := 96) (by decide) ?_
    refine v_icmp_le C dX5_pop_16 (tgt := 21) (by decide) rfl (fun c2 => ?_) (fun c2 => ?_)
    · have h := ifp c2 h
      refine v_aload_n C dX5_pop_21 rfl rfl 0 rfl ?_
      refine v_dup C dX5_pop_22 rfl rfl ?_
      refine v_getf C dX5_pop_23 rfl ff_X5_48 sk_1 rfl ?_
      refine v_iconst C dX5_pop_26 rfl ic_1 ?_
      refine v_isub C dX5_pop_27 rfl ?_
      obtain ⟨K3, eK3, h⟩ := nmS h
      refine v_putf C hD dX5_pop_28 rfl fp_X5_48 sk_1 rfl eK3 ?_
      refine v_aload_n C dX5_pop_31 rfl rfl 0 rfl ?_
      refine v_getr C dX5_pop_32 rfl ff_X5_26 sk_1 rfl ?_
      refine v_aload_n C dX5_pop_35 rfl rfl 0 rfl ?_
      refine v_getf C dX5_pop_36 rfl ff_X5_48 sk_1 rfl ?_
      obtain ⟨b4, h⟩ := gdS h
      refine v_iald C dX5_pop_39 rfl sk_20 b4 ?_
      obtain rfl := Option.some.inj h
      exact RET _ _ dX5_pop_40
    · have h := ifn c2 h
      refine v_iconst C dX5_pop_19 rfl ic_0 ?_
      obtain rfl := Option.some.inj h
      exact RET _ _ dX5_pop_20
def C_X5_pop (K : Mem) : Option (Int32 × Mem) := F_X5_pop_0 K
set_option maxRecDepth 100000 in
theorem c_X5_pop {l : Launch} {D : va_G} {cA : FieldType → ClassId} {X : Ex} {ad : Nat → Nat} {K : Mem} {r : Int32} {K' : Mem} (h : C_X5_pop K = some (r, K')) : MI l D cA X yX5_pop cX5_pop 1 (some .int) 0 0 [.ref (ad 1)] (wd cA ad K 0 shsK) (wd cA ad K' 0 shsK) r :=
  mI_of (by decide +kernel) (Nat.le_of_ble_eq_true rfl) (fun G h1 h2 h3 h4 C hD RET => by subst h1 h2 h3 h4; exact wF_X5_pop_0 C (fun K' => wd_D K' hD) RET  h)
def F_X5_truth_0 (a0 : Int32) : Option Int32 :=
  if a0 = 0 then (
    some 0
  ) else (
    some 1
  )
set_option maxRecDepth 100000 in
set_option maxHeartbeats 4000000 in
theorem wF_X5_truth_0 {G : Ctx} {w : va_W} (C : Cx G RX5 cX5_truth 1 0 0) (hD : va_D (gA G) w) {res : Int32} (RET : RI G cX5_truth 1 w res) {a0 : Int32} (h : F_X5_truth_0 a0 = some res) : V G 1 w 0 [(0, .int a0)] [] := by
  unfold F_X5_truth_0 at h
  refine v_iload_n C dX5_truth_0 rfl rfl 0 rfl ?_
  refine v_if_eq C dX5_truth_1 (tgt := 8) (by decide) rfl (fun c1 => ?_) (fun c1 => ?_)
  · have h := ifp c1 h
    refine v_iconst C dX5_truth_8 rfl ic_0 ?_
    obtain rfl := Option.some.inj h
    exact RET _ _ dX5_truth_9
  · have h := ifn c1 h
    refine v_iconst C dX5_truth_4 rfl ic_1 ?_
    refine v_goto C dX5_truth_5 (tgt := 9) (by decide) ?_
    obtain rfl := Option.some.inj h
    exact RET _ _ dX5_truth_9
def C_X5_truth (a0 : Int32) : Option Int32 := F_X5_truth_0 a0
set_option maxRecDepth 100000 in
theorem c_X5_truth {l : Launch} {D : va_G} {cA : FieldType → ClassId} {X : Ex} {w : va_W} {a0 : Int32} {r : Int32} (h : C_X5_truth a0 = some r) : MI l D cA X yX5_truth cX5_truth 1 (some .int) 0 0 [.int a0] w w r :=
  mI_of (by decide +kernel) (Nat.le_of_ble_eq_true rfl) (fun G h1 h2 h3 h4 C hD RET => by subst h1 h2 h3 h4; exact wF_X5_truth_0 C hD RET  h)
def F_X5_joined_0 (a0 : Int32) (a1 : Int32) (a2 : Int32) : Option Int32 :=
  if a0 = 38 then (
    if a1 = 0 then (
      bd (C_X5_truth 0) fun r4 =>
      some r4
    ) else (
      if a2 = 0 then (
        bd (C_X5_truth 0) fun r7 =>
        some r7
      ) else (
        bd (C_X5_truth 1) fun r9 =>
        some r9
      )
    )
  ) else (
    if a0 = 42 then (
      some (a1 * a2)
    ) else (
      if a0 = 43 then (
        some (a1 + a2)
      ) else (
        if a0 = 45 then (
          some (a1 - a2)
        ) else (
          if a0 = 47 then (
            if a2 = 0 then (
              some 0
            ) else (
              gd (nz a2) <|
              some (a1 / a2)
            )
          ) else (
            if a0 = 60 then (
              if a2 ≤ a1 then (
                bd (C_X5_truth 0) fun r19 =>
                some r19
              ) else (
                bd (C_X5_truth 1) fun r21 =>
                some r21
              )
            ) else (
              if a0 = 61 then (
                if a1 = a2 then (
                  bd (C_X5_truth 1) fun r27 =>
                  some r27
                ) else (
                  bd (C_X5_truth 0) fun r25 =>
                  some r25
                )
              ) else (
                if a0 = 62 then (
                  if a1 ≤ a2 then (
                    bd (C_X5_truth 0) fun r31 =>
                    some r31
                  ) else (
                    bd (C_X5_truth 1) fun r33 =>
                    some r33
                  )
                ) else (
                  if a0 = 124 then (
                    if a1 = 0 then (
                      if a2 = 0 then (
                        bd (C_X5_truth 0) fun r40 =>
                        some r40
                      ) else (
                        bd (C_X5_truth 1) fun r42 =>
                        some r42
                      )
                    ) else (
                      bd (C_X5_truth 1) fun r37 =>
                      some r37
                    )
                  ) else (
                    some 0
                  )
                )
              )
            )
          )
        )
      )
    )
  )
set_option maxRecDepth 100000 in
set_option maxHeartbeats 4000000 in
theorem wF_X5_joined_0 {G : Ctx} {w : va_W} (C : Cx G RX5 cX5_joined 3 1 20) (hD : va_D (gA G) w) {res : Int32} (RET : RI G cX5_joined 3 w res) {a0 : Int32} {a1 : Int32} {a2 : Int32} (h : F_X5_joined_0 a0 a1 a2 = some res) : V G 3 w 0 [(0, .int a0), (1, .int a1), (2, .int a2)] [] := by
  unfold F_X5_joined_0 at h
  refine v_iload_n C dX5_joined_0 rfl rfl 0 rfl ?_
  by_cases c1 : a0 = 38
  · have h := ifp c1 h
    refine v_lsw C dX5_joined_1 (by decide) (off := 100) (by rw [c1]; decide) (tgt := 101) (by decide) ?_
    refine v_iload_n C dX5_joined_101 rfl rfl 1 rfl ?_
    refine v_if_eq C dX5_joined_102 (tgt := 113) (by decide) rfl (fun c2 => ?_) (fun c2 => ?_)
    · have h := ifp c2 h
      refine v_iconst C dX5_joined_113 rfl ic_0 ?_
      obtain ⟨r4, e3, h⟩ := bdS h
      refine v_callSi C ys_X5_truth m_348 (c_X5_truth e3) (Sub.same hD) (As := [.int 0]) rfl rfl (Nat.le_of_ble_eq_true rfl) ⟨Nat.le_of_ble_eq_true rfl, Nat.le_of_ble_eq_true rfl⟩ dX5_joined_114 rfl ?_
      obtain rfl := Option.some.inj h
      exact RET _ _ dX5_joined_117
    · have h := ifn c2 h
      refine v_iload_n C dX5_joined_105 rfl rfl 2 rfl ?_
      refine v_if_eq C dX5_joined_106 (tgt := 113) (by decide) rfl (fun c5 => ?_) (fun c5 => ?_)
      · have h := ifp c5 h
        refine v_iconst C dX5_joined_113 rfl ic_0 ?_
        obtain ⟨r7, e6, h⟩ := bdS h
        refine v_callSi C ys_X5_truth m_348 (c_X5_truth e6) (Sub.same hD) (As := [.int 0]) rfl rfl (Nat.le_of_ble_eq_true rfl) ⟨Nat.le_of_ble_eq_true rfl, Nat.le_of_ble_eq_true rfl⟩ dX5_joined_114 rfl ?_
        obtain rfl := Option.some.inj h
        exact RET _ _ dX5_joined_117
      · have h := ifn c5 h
        refine v_iconst C dX5_joined_109 rfl ic_1 ?_
        refine v_goto C dX5_joined_110 (tgt := 114) (by decide) ?_
        obtain ⟨r9, e8, h⟩ := bdS h
        refine v_callSi C ys_X5_truth m_348 (c_X5_truth e8) (Sub.same hD) (As := [.int 1]) rfl rfl (Nat.le_of_ble_eq_true rfl) ⟨Nat.le_of_ble_eq_true rfl, Nat.le_of_ble_eq_true rfl⟩ dX5_joined_114 rfl ?_
        obtain rfl := Option.some.inj h
        exact RET _ _ dX5_joined_117
  · have h := ifn c1 h
    by_cases c10 : a0 = 42
    · have h := ifp c10 h
      refine v_lsw C dX5_joined_1 (by decide) (off := 167) (by rw [c10]; decide) (tgt := 168) (by decide) ?_
      refine v_iload_n C dX5_joined_168 rfl rfl 1 rfl ?_
      refine v_iload_n C dX5_joined_169 rfl rfl 2 rfl ?_
      refine v_imul C dX5_joined_170 rfl ?_
      obtain rfl := Option.some.inj h
      exact RET _ _ dX5_joined_171
    · have h := ifn c10 h
      by_cases c11 : a0 = 43
      · have h := ifp c11 h
        refine v_lsw C dX5_joined_1 (by decide) (off := 159) (by rw [c11]; decide) (tgt := 160) (by decide) ?_
        refine v_iload_n C dX5_joined_160 rfl rfl 1 rfl ?_
        refine v_iload_n C dX5_joined_161 rfl rfl 2 rfl ?_
        refine v_iadd C dX5_joined_162 rfl ?_
        obtain rfl := Option.some.inj h
        exact RET _ _ dX5_joined_163
      · have h := ifn c11 h
        by_cases c12 : a0 = 45
        · have h := ifp c12 h
          refine v_lsw C dX5_joined_1 (by decide) (off := 163) (by rw [c12]; decide) (tgt := 164) (by decide) ?_
          refine v_iload_n C dX5_joined_164 rfl rfl 1 rfl ?_
          refine v_iload_n C dX5_joined_165 rfl rfl 2 rfl ?_
          refine v_isub C dX5_joined_166 rfl ?_
          obtain rfl := Option.some.inj h
          exact RET _ _ dX5_joined_167
        · have h := ifn c12 h
          by_cases c13 : a0 = 47
          · have h := ifp c13 h
            refine v_lsw C dX5_joined_1 (by decide) (off := 171) (by rw [c13]; decide) (tgt := 172) (by decide) ?_
            refine v_iload_n C dX5_joined_172 rfl rfl 2 rfl ?_
            refine v_if_ne C dX5_joined_173 (tgt := 180) (by decide) rfl (fun c14 => ?_) (fun c14 => ?_)
            · have h := ifn c14 h
              refine v_iload_n C dX5_joined_180 rfl rfl 1 rfl ?_
              refine v_iload_n C dX5_joined_181 rfl rfl 2 rfl ?_
              obtain ⟨b15, h⟩ := gdS h
              refine v_idiv C dX5_joined_182 rfl (nzS b15) ?_
              obtain rfl := Option.some.inj h
              exact RET _ _ dX5_joined_183
            · have h := ifp c14 h
              refine v_iconst C dX5_joined_176 rfl ic_0 ?_
              refine v_goto C dX5_joined_177 (tgt := 183) (by decide) ?_
              obtain rfl := Option.some.inj h
              exact RET _ _ dX5_joined_183
          · have h := ifn c13 h
            by_cases c16 : a0 = 60
            · have h := ifp c16 h
              refine v_lsw C dX5_joined_1 (by decide) (off := 117) (by rw [c16]; decide) (tgt := 118) (by decide) ?_
              refine v_iload_n C dX5_joined_118 rfl rfl 1 rfl ?_
              refine v_iload_n C dX5_joined_119 rfl rfl 2 rfl ?_
              refine v_icmp_ge C dX5_joined_120 (tgt := 127) (by decide) rfl (fun c17 => ?_) (fun c17 => ?_)
              · have h := ifp c17 h
                refine v_iconst C dX5_joined_127 rfl ic_0 ?_
                obtain ⟨r19, e18, h⟩ := bdS h
                refine v_callSi C ys_X5_truth m_348 (c_X5_truth e18) (Sub.same hD) (As := [.int 0]) rfl rfl (Nat.le_of_ble_eq_true rfl) ⟨Nat.le_of_ble_eq_true rfl, Nat.le_of_ble_eq_true rfl⟩ dX5_joined_128 rfl ?_
                obtain rfl := Option.some.inj h
                exact RET _ _ dX5_joined_131
              · have h := ifn c17 h
                refine v_iconst C dX5_joined_123 rfl ic_1 ?_
                refine v_goto C dX5_joined_124 (tgt := 128) (by decide) ?_
                obtain ⟨r21, e20, h⟩ := bdS h
                refine v_callSi C ys_X5_truth m_348 (c_X5_truth e20) (Sub.same hD) (As := [.int 1]) rfl rfl (Nat.le_of_ble_eq_true rfl) ⟨Nat.le_of_ble_eq_true rfl, Nat.le_of_ble_eq_true rfl⟩ dX5_joined_128 rfl ?_
                obtain rfl := Option.some.inj h
                exact RET _ _ dX5_joined_131
            · have h := ifn c16 h
              by_cases c22 : a0 = 61
              · have h := ifp c22 h
                refine v_lsw C dX5_joined_1 (by decide) (off := 131) (by rw [c22]; decide) (tgt := 132) (by decide) ?_
                refine v_iload_n C dX5_joined_132 rfl rfl 1 rfl ?_
                refine v_iload_n C dX5_joined_133 rfl rfl 2 rfl ?_
                refine v_icmp_ne C dX5_joined_134 (tgt := 141) (by decide) rfl (fun c23 => ?_) (fun c23 => ?_)
                · have h := ifn c23 h
                  refine v_iconst C dX5_joined_141 rfl ic_0 ?_
                  obtain ⟨r25, e24, h⟩ := bdS h
                  refine v_callSi C ys_X5_truth m_348 (c_X5_truth e24) (Sub.same hD) (As := [.int 0]) rfl rfl (Nat.le_of_ble_eq_true rfl) ⟨Nat.le_of_ble_eq_true rfl, Nat.le_of_ble_eq_true rfl⟩ dX5_joined_142 rfl ?_
                  obtain rfl := Option.some.inj h
                  exact RET _ _ dX5_joined_145
                · have h := ifp c23 h
                  refine v_iconst C dX5_joined_137 rfl ic_1 ?_
                  refine v_goto C dX5_joined_138 (tgt := 142) (by decide) ?_
                  obtain ⟨r27, e26, h⟩ := bdS h
                  refine v_callSi C ys_X5_truth m_348 (c_X5_truth e26) (Sub.same hD) (As := [.int 1]) rfl rfl (Nat.le_of_ble_eq_true rfl) ⟨Nat.le_of_ble_eq_true rfl, Nat.le_of_ble_eq_true rfl⟩ dX5_joined_142 rfl ?_
                  obtain rfl := Option.some.inj h
                  exact RET _ _ dX5_joined_145
              · have h := ifn c22 h
                by_cases c28 : a0 = 62
                · have h := ifp c28 h
                  refine v_lsw C dX5_joined_1 (by decide) (off := 145) (by rw [c28]; decide) (tgt := 146) (by decide) ?_
                  refine v_iload_n C dX5_joined_146 rfl rfl 1 rfl ?_
                  refine v_iload_n C dX5_joined_147 rfl rfl 2 rfl ?_
                  refine v_icmp_le C dX5_joined_148 (tgt := 155) (by decide) rfl (fun c29 => ?_) (fun c29 => ?_)
                  · have h := ifp c29 h
                    refine v_iconst C dX5_joined_155 rfl ic_0 ?_
                    obtain ⟨r31, e30, h⟩ := bdS h
                    refine v_callSi C ys_X5_truth m_348 (c_X5_truth e30) (Sub.same hD) (As := [.int 0]) rfl rfl (Nat.le_of_ble_eq_true rfl) ⟨Nat.le_of_ble_eq_true rfl, Nat.le_of_ble_eq_true rfl⟩ dX5_joined_156 rfl ?_
                    obtain rfl := Option.some.inj h
                    exact RET _ _ dX5_joined_159
                  · have h := ifn c29 h
                    refine v_iconst C dX5_joined_151 rfl ic_1 ?_
                    refine v_goto C dX5_joined_152 (tgt := 156) (by decide) ?_
                    obtain ⟨r33, e32, h⟩ := bdS h
                    refine v_callSi C ys_X5_truth m_348 (c_X5_truth e32) (Sub.same hD) (As := [.int 1]) rfl rfl (Nat.le_of_ble_eq_true rfl) ⟨Nat.le_of_ble_eq_true rfl, Nat.le_of_ble_eq_true rfl⟩ dX5_joined_156 rfl ?_
                    obtain rfl := Option.some.inj h
                    exact RET _ _ dX5_joined_159
                · have h := ifn c28 h
                  by_cases c34 : a0 = 124
                  · have h := ifp c34 h
                    refine v_lsw C dX5_joined_1 (by decide) (off := 83) (by rw [c34]; decide) (tgt := 84) (by decide) ?_
                    refine v_iload_n C dX5_joined_84 rfl rfl 1 rfl ?_
                    refine v_if_ne C dX5_joined_85 (tgt := 92) (by decide) rfl (fun c35 => ?_) (fun c35 => ?_)
                    · have h := ifn c35 h
                      refine v_iconst C dX5_joined_92 rfl ic_1 ?_
                      refine v_goto C dX5_joined_93 (tgt := 97) (by decide) ?_
                      obtain ⟨r37, e36, h⟩ := bdS h
                      refine v_callSi C ys_X5_truth m_348 (c_X5_truth e36) (Sub.same hD) (As := [.int 1]) rfl rfl (Nat.le_of_ble_eq_true rfl) ⟨Nat.le_of_ble_eq_true rfl, Nat.le_of_ble_eq_true rfl⟩ dX5_joined_97 rfl ?_
                      obtain rfl := Option.some.inj h
                      exact RET _ _ dX5_joined_100
                    · have h := ifp c35 h
                      refine v_iload_n C dX5_joined_88 rfl rfl 2 rfl ?_
                      refine v_if_eq C dX5_joined_89 (tgt := 96) (by decide) rfl (fun c38 => ?_) (fun c38 => ?_)
                      · have h := ifp c38 h
                        refine v_iconst C dX5_joined_96 rfl ic_0 ?_
                        obtain ⟨r40, e39, h⟩ := bdS h
                        refine v_callSi C ys_X5_truth m_348 (c_X5_truth e39) (Sub.same hD) (As := [.int 0]) rfl rfl (Nat.le_of_ble_eq_true rfl) ⟨Nat.le_of_ble_eq_true rfl, Nat.le_of_ble_eq_true rfl⟩ dX5_joined_97 rfl ?_
                        obtain rfl := Option.some.inj h
                        exact RET _ _ dX5_joined_100
                      · have h := ifn c38 h
                        refine v_iconst C dX5_joined_92 rfl ic_1 ?_
                        refine v_goto C dX5_joined_93 (tgt := 97) (by decide) ?_
                        obtain ⟨r42, e41, h⟩ := bdS h
                        refine v_callSi C ys_X5_truth m_348 (c_X5_truth e41) (Sub.same hD) (As := [.int 1]) rfl rfl (Nat.le_of_ble_eq_true rfl) ⟨Nat.le_of_ble_eq_true rfl, Nat.le_of_ble_eq_true rfl⟩ dX5_joined_97 rfl ?_
                        obtain rfl := Option.some.inj h
                        exact RET _ _ dX5_joined_100
                  · have h := ifn c34 h
                    refine v_lsw C dX5_joined_1 (by decide) (off := 183) ((lv_osw c1 (by decide)).trans ((lv_osw c10 (by decide)).trans ((lv_osw c11 (by decide)).trans ((lv_osw c12 (by decide)).trans ((lv_osw c13 (by decide)).trans ((lv_osw c16 (by decide)).trans ((lv_osw c22 (by decide)).trans ((lv_osw c28 (by decide)).trans ((lv_osw c34 (by decide)).trans rfl))))))))) (tgt := 184) (by decide) ?_
                    refine v_iconst C dX5_joined_184 rfl ic_0 ?_
                    obtain rfl := Option.some.inj h
                    exact RET _ _ dX5_joined_185
def C_X5_joined (a0 : Int32) (a1 : Int32) (a2 : Int32) : Option Int32 := F_X5_joined_0 a0 a1 a2
set_option maxRecDepth 100000 in
theorem c_X5_joined {l : Launch} {D : va_G} {cA : FieldType → ClassId} {X : Ex} {w : va_W} {a0 : Int32} {a1 : Int32} {a2 : Int32} {r : Int32} (h : C_X5_joined a0 a1 a2 = some r) : MI l D cA X yX5_joined cX5_joined 3 (some .int) 1 20 [.int a0, .int a1, .int a2] w w r :=
  mI_of (by decide +kernel) (Nat.le_of_ble_eq_true rfl) (fun G h1 h2 h3 h4 C hD RET => by subst h1 h2 h3 h4; exact wF_X5_joined_0 C hD RET  h)
def F_X5_gives_28 (k28 : Nat → Int32 → Int32 → Int32 → Mem → Option (Int32 × Mem)) (q2 : Nat) (s4 : Nat) (a1 : Int32) (a3 : Int32) (a5 : Int32) (K : Mem) : Option (Int32 × Mem) :=
  gd (inb a1 14) <|
  if (K 3 (Int32.toNatClampNeg a1)) ≤ a5 then (
    bd2 (C_X5_pop K) fun r10 K9 =>
    some (r10, K9)
  ) else (
    if 96 ≤ a5 then (
      bd2 (C_X5_pop K) fun r14 K13 =>
      some (r14, K13)
    ) else (
      gd (inb a5 96) <|
      nm (K s4 (Int32.toNatClampNeg a5)) fun v16 =>
      if v16 < 0 then (
        bd (C_X5_isLetter (-v16)) fun r19 =>
        if r19 = 0 then (
          if (-v16) = 33 then (
            bd2 (C_X5_pop K) fun r35 K34 =>
            if r35 = 0 then (
              bd (C_X5_truth 1) fun r43 =>
              bd (C_X5_push r43 K34) fun K45 =>
              nm (a5 + 1) fun v46 =>
              k28 s4 a1 a3 v46 K45
            ) else (
              bd (C_X5_truth 0) fun r38 =>
              bd (C_X5_push r38 K34) fun K40 =>
              nm (a5 + 1) fun v41 =>
              k28 s4 a1 a3 v41 K40
            )
          ) else (
            bd2 (C_X5_pop K) fun r24 K23 =>
            bd2 (C_X5_pop K23) fun r27 K26 =>
            bd (C_X5_joined (-v16) r27 r24) fun r29 =>
            bd (C_X5_push r29 K26) fun K31 =>
            nm (a5 + 1) fun v32 =>
            k28 s4 a1 a3 v32 K31
          )
        ) else (
          bd (C_X5_named q2 K (-v16) a3) fun r48 =>
          bd (C_X5_push r48 K) fun K50 =>
          nm (a5 + 1) fun v51 =>
          k28 s4 a1 a3 v51 K50
        )
      ) else (
        bd (C_X5_push v16 K) fun K53 =>
        nm (a5 + 1) fun v54 =>
        k28 s4 a1 a3 v54 K53
      )
    )
  )
def L_X5_gives_28 (q2 : Nat) : Nat → Nat → Int32 → Int32 → Int32 → Mem → Option (Int32 × Mem)
  | 0, _, _, _, _, _ => none
  | n + 1, s4, a1, a3, a5, K => F_X5_gives_28 (fun s4 a1 a3 a5 K => L_X5_gives_28 q2 n s4 a1 a3 a5 K) q2 s4 a1 a3 a5 K
set_option maxRecDepth 100000 in
set_option maxHeartbeats 4000000 in
theorem wF_X5_gives_28 {G : Ctx} {ad : Nat → Nat} {q2 : Nat} {k28 : Nat → Int32 → Int32 → Int32 → Mem → Option (Int32 × Mem)} (C : Cx G RX5 cX5_gives 9 2 42) (hD : ∀ K, va_D (gA G) (wd (gC G) ad K 0 shsK)) {res : (Int32 × Mem)} (RET : RI G cX5_gives 9 (wd (gC G) ad res.2 0 shsK) res.1) (hk28 : ∀ {s4 : Nat} {a1 : Int32} {a3 : Int32} {a5 : Int32} {K : Mem} (hs4 : isRow s4), k28 s4 a1 a3 a5 K = some res → V G 9 (wd (gC G) ad K 0 shsK) 28 [(0, .ref (ad 1)), (1, .int a1), (2, .ref (ad q2)), (3, .int a3), (4, .ref (ad s4)), (5, .int a5)] []) (hq2 : isTown q2) {s4 : Nat} (hs4 : isRow s4) {a1 : Int32} {a3 : Int32} {a5 : Int32} {K : Mem} (h : F_X5_gives_28 k28 q2 s4 a1 a3 a5 K = some res) : V G 9 (wd (gC G) ad K 0 shsK) 28 [(0, .ref (ad 1)), (1, .int a1), (2, .ref (ad q2)), (3, .int a3), (4, .ref (ad s4)), (5, .int a5)] [] := by
  unfold F_X5_gives_28 at h
  refine v_iload C dX5_gives_28 rfl 5 rfl ?_
  refine v_aload_n C dX5_gives_30 rfl rfl 0 rfl ?_
  refine v_getr C dX5_gives_31 rfl ff_X5_16 sk_1 rfl ?_
  refine v_iload_n C dX5_gives_34 rfl rfl 1 rfl ?_
  obtain ⟨b6, h⟩ := gdS h
  refine v_iald C dX5_gives_35 rfl sk_3 b6 ?_
  refine v_icmp_ge C dX5_gives_36 (tgt := 154) (by decide) rfl (fun c7 => ?_) (fun c7 => ?_)
  · have h := ifp c7 h
    refine v_aload_n C dX5_gives_154 rfl rfl 0 rfl ?_
    obtain ⟨r10, K9, e8, h⟩ := bd2S h
    refine v_callVi C yv_X5_pop m_344 (c_X5_pop e8) (Sub.whole hD _ _) ⟨_, _, _, _, _, wd_at sk_1, rfl⟩ (As := []) rfl rfl (Nat.le_of_ble_eq_true rfl) ⟨Nat.le_of_ble_eq_true rfl, Nat.le_of_ble_eq_true rfl⟩ dX5_gives_155 rfl ?_
    obtain rfl := Option.some.inj h
    exact RET _ _ dX5_gives_158
  · have h := ifn c7 h
    refine v_iload C dX5_gives_39 rfl 5 rfl ?_
    refine v_aload C dX5_gives_41 rfl 4 rfl ?_
    refine v_alen C dX5_gives_43 rfl (row_0 hs4) (v := 96) (by decide) ?_
    refine v_icmp_ge C dX5_gives_44 (tgt := 154) (by decide) rfl (fun c11 => ?_) (fun c11 => ?_)
    · have h := ifp c11 h
      refine v_aload_n C dX5_gives_154 rfl rfl 0 rfl ?_
      obtain ⟨r14, K13, e12, h⟩ := bd2S h
      refine v_callVi C yv_X5_pop m_344 (c_X5_pop e12) (Sub.whole hD _ _) ⟨_, _, _, _, _, wd_at sk_1, rfl⟩ (As := []) rfl rfl (Nat.le_of_ble_eq_true rfl) ⟨Nat.le_of_ble_eq_true rfl, Nat.le_of_ble_eq_true rfl⟩ dX5_gives_155 rfl ?_
      obtain rfl := Option.some.inj h
      exact RET _ _ dX5_gives_158
    · have h := ifn c11 h
      refine v_aload C dX5_gives_47 rfl 4 rfl ?_
      refine v_iload C dX5_gives_49 rfl 5 rfl ?_
      obtain ⟨b15, h⟩ := gdS h
      refine v_iald C dX5_gives_51 rfl (row_0 hs4) b15 ?_
      obtain ⟨v16, ev16, h⟩ := nmS h
      refine v_nmi ev16 ?_
      refine v_istore C dX5_gives_52 rfl (by decide) (L' := [(6, .int v16), (0, .ref (ad 1)), (1, .int a1), (2, .ref (ad q2)), (3, .int a3), (4, .ref (ad s4)), (5, .int a5)]) rfl ?_
      refine v_iload C dX5_gives_54 rfl 0 rfl ?_
      refine v_if_lt C dX5_gives_56 (tgt := 68) (by decide) rfl (fun c17 => ?_) (fun c17 => ?_)
      · have h := ifp c17 h
        refine v_iload C dX5_gives_68 rfl 0 rfl ?_
        refine v_ineg C dX5_gives_70 rfl ?_
        obtain ⟨r19, e18, h⟩ := bdS h
        refine v_callSi C ys_X5_isLetter m_338 (c_X5_isLetter e18) (Sub.whole hD _ _) (As := [.int (-v16)]) rfl rfl (Nat.le_of_ble_eq_true rfl) ⟨Nat.le_of_ble_eq_true rfl, Nat.le_of_ble_eq_true rfl⟩ dX5_gives_71 rfl ?_
        refine v_if_eq C dX5_gives_74 (tgt := 92) (by decide) rfl (fun c20 => ?_) (fun c20 => ?_)
        · have h := ifp c20 h
          refine v_iload C dX5_gives_92 rfl 0 rfl ?_
          refine v_ineg C dX5_gives_94 rfl ?_
          refine v_bipush C dX5_gives_95 rfl bi_33 ?_
          refine v_icmp_ne C dX5_gives_97 (tgt := 122) (by decide) rfl (fun c21 => ?_) (fun c21 => ?_)
          · have h := ifn c21 h
            refine v_aload_n C dX5_gives_122 rfl rfl 1 rfl ?_
            obtain ⟨r24, K23, e22, h⟩ := bd2S h
            refine v_callVi C yv_X5_pop m_344 (c_X5_pop e22) (Sub.whole hD _ _) ⟨_, _, _, _, _, wd_at sk_1, rfl⟩ (As := []) rfl rfl (Nat.le_of_ble_eq_true rfl) ⟨Nat.le_of_ble_eq_true rfl, Nat.le_of_ble_eq_true rfl⟩ dX5_gives_123 rfl ?_
            refine v_istore C dX5_gives_126 rfl (by decide) (L' := [(7, .int r24), (6, .int v16), (0, .ref (ad 1)), (1, .int a1), (2, .ref (ad q2)), (3, .int a3), (4, .ref (ad s4)), (5, .int a5)]) rfl ?_
            refine v_aload_n C dX5_gives_128 rfl rfl 2 rfl ?_
            obtain ⟨r27, K26, e25, h⟩ := bd2S h
            refine v_callVi C yv_X5_pop m_344 (c_X5_pop e25) (Sub.whole hD _ _) ⟨_, _, _, _, _, wd_at sk_1, rfl⟩ (As := []) rfl rfl (Nat.le_of_ble_eq_true rfl) ⟨Nat.le_of_ble_eq_true rfl, Nat.le_of_ble_eq_true rfl⟩ dX5_gives_129 rfl ?_
            refine v_istore C dX5_gives_132 rfl (by decide) (L' := [(8, .int r27), (7, .int r24), (6, .int v16), (0, .ref (ad 1)), (1, .int a1), (2, .ref (ad q2)), (3, .int a3), (4, .ref (ad s4)), (5, .int a5)]) rfl ?_
            refine v_aload_n C dX5_gives_134 rfl rfl 3 rfl ?_
            refine v_iload C dX5_gives_135 rfl 2 rfl ?_
            refine v_ineg C dX5_gives_137 rfl ?_
            refine v_iload C dX5_gives_138 rfl 0 rfl ?_
            refine v_iload C dX5_gives_140 rfl 1 rfl ?_
            obtain ⟨r29, e28, h⟩ := bdS h
            refine v_callSi C ys_X5_joined m_351 (c_X5_joined e28) (Sub.whole hD _ _) (As := [.int (-v16), .int r27, .int r24]) rfl rfl (Nat.le_of_ble_eq_true rfl) ⟨Nat.le_of_ble_eq_true rfl, Nat.le_of_ble_eq_true rfl⟩ dX5_gives_142 rfl ?_
            obtain ⟨K31, e30, h⟩ := bdS h
            refine v_callVv C yv_X5_push m_334 (c_X5_push e30) (Sub.whole hD _ _) ⟨_, _, _, _, _, wd_at sk_1, rfl⟩ (As := [.int r29]) rfl rfl (Nat.le_of_ble_eq_true rfl) ⟨Nat.le_of_ble_eq_true rfl, Nat.le_of_ble_eq_true rfl⟩ dX5_gives_145 rfl ?_
            obtain ⟨v32, ev32, h⟩ := nmS h
            refine v_iinc C dX5_gives_148 rfl 8 rfl (v := v32) (by rw [ev32]; rfl) (by decide) (L' := [(5, .int v32), (8, .int r27), (7, .int r24), (6, .int v16), (0, .ref (ad 1)), (1, .int a1), (2, .ref (ad q2)), (3, .int a3), (4, .ref (ad s4))]) rfl ?_
            refine v_goto C dX5_gives_151 (tgt := 28) (by decide) ?_
            refine v_sub [4, 5, 6, 7, 8, 0] rfl ?_
            exact hk28 hs4 h
          · have h := ifp c21 h
            refine v_aload_n C dX5_gives_100 rfl rfl 1 rfl ?_
            refine v_aload_n C dX5_gives_101 rfl rfl 1 rfl ?_
            obtain ⟨r35, K34, e33, h⟩ := bd2S h
            refine v_callVi C yv_X5_pop m_344 (c_X5_pop e33) (Sub.whole hD _ _) ⟨_, _, _, _, _, wd_at sk_1, rfl⟩ (As := []) rfl rfl (Nat.le_of_ble_eq_true rfl) ⟨Nat.le_of_ble_eq_true rfl, Nat.le_of_ble_eq_true rfl⟩ dX5_gives_102 rfl ?_
            refine v_if_ne C dX5_gives_105 (tgt := 112) (by decide) rfl (fun c36 => ?_) (fun c36 => ?_)
            · have h := ifn c36 h
              refine v_iconst C dX5_gives_112 rfl ic_0 ?_
              obtain ⟨r38, e37, h⟩ := bdS h
              refine v_callSi C ys_X5_truth m_348 (c_X5_truth e37) (Sub.whole hD _ _) (As := [.int 0]) rfl rfl (Nat.le_of_ble_eq_true rfl) ⟨Nat.le_of_ble_eq_true rfl, Nat.le_of_ble_eq_true rfl⟩ dX5_gives_113 rfl ?_
              obtain ⟨K40, e39, h⟩ := bdS h
              refine v_callVv C yv_X5_push m_334 (c_X5_push e39) (Sub.whole hD _ _) ⟨_, _, _, _, _, wd_at sk_1, rfl⟩ (As := [.int r38]) rfl rfl (Nat.le_of_ble_eq_true rfl) ⟨Nat.le_of_ble_eq_true rfl, Nat.le_of_ble_eq_true rfl⟩ dX5_gives_116 rfl ?_
              refine v_goto C dX5_gives_119 (tgt := 148) (by decide) ?_
              obtain ⟨v41, ev41, h⟩ := nmS h
              refine v_iinc C dX5_gives_148 rfl 6 rfl (v := v41) (by rw [ev41]; rfl) (by decide) (L' := [(5, .int v41), (6, .int v16), (0, .ref (ad 1)), (1, .int a1), (2, .ref (ad q2)), (3, .int a3), (4, .ref (ad s4))]) rfl ?_
              refine v_goto C dX5_gives_151 (tgt := 28) (by decide) ?_
              refine v_sub [2, 3, 4, 5, 6, 0] rfl ?_
              exact hk28 hs4 h
            · have h := ifp c36 h
              refine v_iconst C dX5_gives_108 rfl ic_1 ?_
              refine v_goto C dX5_gives_109 (tgt := 113) (by decide) ?_
              obtain ⟨r43, e42, h⟩ := bdS h
              refine v_callSi C ys_X5_truth m_348 (c_X5_truth e42) (Sub.whole hD _ _) (As := [.int 1]) rfl rfl (Nat.le_of_ble_eq_true rfl) ⟨Nat.le_of_ble_eq_true rfl, Nat.le_of_ble_eq_true rfl⟩ dX5_gives_113 rfl ?_
              obtain ⟨K45, e44, h⟩ := bdS h
              refine v_callVv C yv_X5_push m_334 (c_X5_push e44) (Sub.whole hD _ _) ⟨_, _, _, _, _, wd_at sk_1, rfl⟩ (As := [.int r43]) rfl rfl (Nat.le_of_ble_eq_true rfl) ⟨Nat.le_of_ble_eq_true rfl, Nat.le_of_ble_eq_true rfl⟩ dX5_gives_116 rfl ?_
              refine v_goto C dX5_gives_119 (tgt := 148) (by decide) ?_
              obtain ⟨v46, ev46, h⟩ := nmS h
              refine v_iinc C dX5_gives_148 rfl 6 rfl (v := v46) (by rw [ev46]; rfl) (by decide) (L' := [(5, .int v46), (6, .int v16), (0, .ref (ad 1)), (1, .int a1), (2, .ref (ad q2)), (3, .int a3), (4, .ref (ad s4))]) rfl ?_
              refine v_goto C dX5_gives_151 (tgt := 28) (by decide) ?_
              refine v_sub [2, 3, 4, 5, 6, 0] rfl ?_
              exact hk28 hs4 h
        · have h := ifn c20 h
          refine v_aload_n C dX5_gives_77 rfl rfl 1 rfl ?_
          refine v_iload C dX5_gives_78 rfl 0 rfl ?_
          refine v_ineg C dX5_gives_80 rfl ?_
          refine v_aload_n C dX5_gives_81 rfl rfl 3 rfl ?_
          refine v_iload_n C dX5_gives_82 rfl rfl 4 rfl ?_
          obtain ⟨r48, e47, h⟩ := bdS h
          refine v_callSi C ys_X5_named m_341 (c_X5_named hq2 e47) (Sub.whole hD _ _) (As := [.int (-v16), .ref (ad q2), .int a3]) rfl rfl (Nat.le_of_ble_eq_true rfl) ⟨Nat.le_of_ble_eq_true rfl, Nat.le_of_ble_eq_true rfl⟩ dX5_gives_83 rfl ?_
          obtain ⟨K50, e49, h⟩ := bdS h
          refine v_callVv C yv_X5_push m_334 (c_X5_push e49) (Sub.whole hD _ _) ⟨_, _, _, _, _, wd_at sk_1, rfl⟩ (As := [.int r48]) rfl rfl (Nat.le_of_ble_eq_true rfl) ⟨Nat.le_of_ble_eq_true rfl, Nat.le_of_ble_eq_true rfl⟩ dX5_gives_86 rfl ?_
          refine v_goto C dX5_gives_89 (tgt := 148) (by decide) ?_
          obtain ⟨v51, ev51, h⟩ := nmS h
          refine v_iinc C dX5_gives_148 rfl 6 rfl (v := v51) (by rw [ev51]; rfl) (by decide) (L' := [(5, .int v51), (6, .int v16), (0, .ref (ad 1)), (1, .int a1), (2, .ref (ad q2)), (3, .int a3), (4, .ref (ad s4))]) rfl ?_
          refine v_goto C dX5_gives_151 (tgt := 28) (by decide) ?_
          refine v_sub [2, 3, 4, 5, 6, 0] rfl ?_
          exact hk28 hs4 h
      · have h := ifn c17 h
        refine v_aload_n C dX5_gives_59 rfl rfl 1 rfl ?_
        refine v_iload C dX5_gives_60 rfl 0 rfl ?_
        obtain ⟨K53, e52, h⟩ := bdS h
        refine v_callVv C yv_X5_push m_334 (c_X5_push e52) (Sub.whole hD _ _) ⟨_, _, _, _, _, wd_at sk_1, rfl⟩ (As := [.int v16]) rfl rfl (Nat.le_of_ble_eq_true rfl) ⟨Nat.le_of_ble_eq_true rfl, Nat.le_of_ble_eq_true rfl⟩ dX5_gives_62 rfl ?_
        refine v_goto C dX5_gives_65 (tgt := 148) (by decide) ?_
        obtain ⟨v54, ev54, h⟩ := nmS h
        refine v_iinc C dX5_gives_148 rfl 6 rfl (v := v54) (by rw [ev54]; rfl) (by decide) (L' := [(5, .int v54), (6, .int v16), (0, .ref (ad 1)), (1, .int a1), (2, .ref (ad q2)), (3, .int a3), (4, .ref (ad s4))]) rfl ?_
        refine v_goto C dX5_gives_151 (tgt := 28) (by decide) ?_
        refine v_sub [2, 3, 4, 5, 6, 0] rfl ?_
        exact hk28 hs4 h
theorem wL_X5_gives_28 {G : Ctx} {ad : Nat → Nat} {q2 : Nat} (C : Cx G RX5 cX5_gives 9 2 42) (hD : ∀ K, va_D (gA G) (wd (gC G) ad K 0 shsK)) {res : (Int32 × Mem)} (RET : RI G cX5_gives 9 (wd (gC G) ad res.2 0 shsK) res.1) (hq2 : isTown q2) : ∀ (n : Nat) {s4 : Nat} {a1 : Int32} {a3 : Int32} {a5 : Int32} {K : Mem} (hs4 : isRow s4) (h : L_X5_gives_28 q2 n s4 a1 a3 a5 K = some res), V G 9 (wd (gC G) ad K 0 shsK) 28 [(0, .ref (ad 1)), (1, .int a1), (2, .ref (ad q2)), (3, .int a3), (4, .ref (ad s4)), (5, .int a5)] [] := by
  intro n
  induction n with
  | zero =>
    intro s4 a1 a3 a5 K hs4 h
    cases (show (none : Option (Int32 × Mem)) = some res from h)
  | succ n ih =>
    intro s4 a1 a3 a5 K hs4 h
    exact wF_X5_gives_28 (k28 := fun s4 a1 a3 a5 K => L_X5_gives_28 q2 n s4 a1 a3 a5 K) C hD RET (fun hs4 h => ih hs4 h) hq2 hs4 h
def F_X5_gives_0 (q2 : Nat) (a1 : Int32) (a3 : Int32) (K : Mem) : Option (Int32 × Mem) :=
  if a1 < 0 then (
    some (0, K)
  ) else (
    if a1 < 14 then (
      gd (inb a1 14) <|
      nm (rwG (Int32.toNatClampNeg a1)) fun s4 =>
      nm (up K 1 5 0) fun K5 =>
      L_X5_gives_28 q2 FU s4 a1 a3 0 K5
    ) else (
      some (0, K)
    )
  )
set_option maxRecDepth 100000 in
set_option maxHeartbeats 4000000 in
theorem wF_X5_gives_0 {G : Ctx} {ad : Nat → Nat} {q2 : Nat} (C : Cx G RX5 cX5_gives 9 2 42) (hD : ∀ K, va_D (gA G) (wd (gC G) ad K 0 shsK)) {res : (Int32 × Mem)} (RET : RI G cX5_gives 9 (wd (gC G) ad res.2 0 shsK) res.1) (hq2 : isTown q2) {a1 : Int32} {a3 : Int32} {K : Mem} (h : F_X5_gives_0 q2 a1 a3 K = some res) : V G 9 (wd (gC G) ad K 0 shsK) 0 [(0, .ref (ad 1)), (1, .int a1), (2, .ref (ad q2)), (3, .int a3)] [] := by
  unfold F_X5_gives_0 at h
  refine v_iload_n C dX5_gives_0 rfl rfl 1 rfl ?_
  refine v_if_lt C dX5_gives_1 (tgt := 10) (by decide) rfl (fun c1 => ?_) (fun c1 => ?_)
  · have h := ifp c1 h
    refine v_iconst C dX5_gives_10 rfl ic_0 ?_
    obtain rfl := Option.some.inj h
    exact RET _ _ dX5_gives_11
  · have h := ifn c1 h
    refine v_iload_n C dX5_gives_4 rfl rfl 1 rfl ?_
    refine v_bipush C dX5_gives_5 rfl bi_14 ?_
    refine v_icmp_lt C dX5_gives_7 (tgt := 12) (by decide) rfl (fun c2 => ?_) (fun c2 => ?_)
    · have h := ifp c2 h
      refine v_aload_n C dX5_gives_12 rfl rfl 0 rfl ?_
      refine v_getr C dX5_gives_13 rfl ff_X5_11 sk_1 rfl ?_
      refine v_iload_n C dX5_gives_16 rfl rfl 1 rfl ?_
      obtain ⟨b3, h⟩ := gdS h
      obtain ⟨s4, es4, h⟩ := nmS h
      refine v_aald C (t0 := 1) rfl (fun _ => rfl) dX5_gives_17 rfl sk_2 b3 ?_
      have hs4 : isRow s4 := es4 ▸ isRow_of b3
      refine v_nmr es4 ?_
      refine v_astore C dX5_gives_18 rfl (by decide) (L' := [(4, .ref (ad s4)), (0, .ref (ad 1)), (1, .int a1), (2, .ref (ad q2)), (3, .int a3)]) rfl ?_
      refine v_aload_n C dX5_gives_20 rfl rfl 1 rfl ?_
      refine v_iconst C dX5_gives_21 rfl ic_0 ?_
      obtain ⟨K5, eK5, h⟩ := nmS h
      refine v_putf C hD dX5_gives_22 rfl fp_X5_48 sk_1 rfl eK5 ?_
      refine v_iconst C dX5_gives_25 rfl ic_0 ?_
      refine v_istore C dX5_gives_26 rfl (by decide) (L' := [(5, .int 0), (4, .ref (ad s4)), (0, .ref (ad 1)), (1, .int a1), (2, .ref (ad q2)), (3, .int a3)]) rfl ?_
      refine v_sub [2, 3, 4, 5, 1, 0] rfl ?_
      exact wL_X5_gives_28 C hD RET hq2 FU hs4 h
    · have h := ifn c2 h
      refine v_iconst C dX5_gives_10 rfl ic_0 ?_
      obtain rfl := Option.some.inj h
      exact RET _ _ dX5_gives_11
def C_X5_gives (q2 : Nat) (a1 : Int32) (a3 : Int32) (K : Mem) : Option (Int32 × Mem) := F_X5_gives_0 q2 a1 a3 K
set_option maxRecDepth 100000 in
theorem c_X5_gives {l : Launch} {D : va_G} {cA : FieldType → ClassId} {X : Ex} {ad : Nat → Nat} {q2 : Nat} (hq2 : isTown q2) {a1 : Int32} {a3 : Int32} {K : Mem} {r : Int32} {K' : Mem} (h : C_X5_gives q2 a1 a3 K = some (r, K')) : MI l D cA X yX5_gives cX5_gives 9 (some .int) 2 42 [.ref (ad 1), .int a1, .ref (ad q2), .int a3] (wd cA ad K 0 shsK) (wd cA ad K' 0 shsK) r :=
  mI_of (by decide +kernel) (Nat.le_of_ble_eq_true rfl) (fun G h1 h2 h3 h4 C hD RET => by subst h1 h2 h3 h4; exact wF_X5_gives_0 C (fun K' => wd_D K' hD) RET hq2 h)
def F_X6_become_0 (q : Nat) (q1 : Nat) (K : Mem) : Option Mem :=
  gd (cpok 0 0 12 12 12) <|
  nm (cpm K (q1 + 1) (q + 1) (Int32.toNatClampNeg 0) (Int32.toNatClampNeg 0) (Int32.toNatClampNeg 12)) fun K2 =>
  gd (cpok 0 0 12 12 12) <|
  nm (cpm K2 (q1 + 2) (q + 2) (Int32.toNatClampNeg 0) (Int32.toNatClampNeg 0) (Int32.toNatClampNeg 12)) fun K4 =>
  gd (cpok 0 0 12 12 12) <|
  nm (cpm K4 (q1 + 3) (q + 3) (Int32.toNatClampNeg 0) (Int32.toNatClampNeg 0) (Int32.toNatClampNeg 12)) fun K6 =>
  gd (cpok 0 0 12 12 12) <|
  nm (cpm K6 (q1 + 4) (q + 4) (Int32.toNatClampNeg 0) (Int32.toNatClampNeg 0) (Int32.toNatClampNeg 12)) fun K8 =>
  gd (cpok 0 0 3 3 3) <|
  nm (cpm K8 (q1 + 5) (q + 5) (Int32.toNatClampNeg 0) (Int32.toNatClampNeg 0) (Int32.toNatClampNeg 3)) fun K10 =>
  gd (cpok 0 0 3 3 3) <|
  nm (cpm K10 (q1 + 6) (q + 6) (Int32.toNatClampNeg 0) (Int32.toNatClampNeg 0) (Int32.toNatClampNeg 3)) fun K12 =>
  nm (up K12 q 7 (K12 q1 7)) fun K13 =>
  nm (up K13 q 8 (K13 q1 8)) fun K14 =>
  nm (up K14 q 9 (K14 q1 9)) fun K15 =>
  nm (up K15 q 10 (K15 q1 10)) fun K16 =>
  nm (up K16 q 11 (K16 q1 11)) fun K17 =>
  nm (up K17 q 12 (K17 q1 12)) fun K18 =>
  nm (up K18 q 13 (K18 q1 13)) fun K19 =>
  some K19
set_option maxRecDepth 100000 in
set_option maxHeartbeats 4000000 in
theorem wF_X6_become_0 {G : Ctx} {ad : Nat → Nat} {q : Nat} {q1 : Nat} (C : Cx G RX6 cX6_become 2 1 30) (hD : ∀ K, va_D (gA G) (wd (gC G) ad K 0 shsK)) {res : Mem} (RET : RV G cX6_become 2 (wd (gC G) ad res 0 shsK)) (hq : isTown q) (hq1 : isTown q1) {K : Mem} (h : F_X6_become_0 q q1 K = some res) : V G 2 (wd (gC G) ad K 0 shsK) 0 [(0, .ref (ad q)), (1, .ref (ad q1))] [] := by
  unfold F_X6_become_0 at h
  refine v_aload_n C dX6_become_0 rfl rfl 1 rfl ?_
  refine v_getr C dX6_become_1 rfl ff_X6_9 (tk_0 hq1) rfl ?_
  refine v_iconst C dX6_become_4 rfl ic_0 ?_
  refine v_aload_n C dX6_become_5 rfl rfl 0 rfl ?_
  refine v_getr C dX6_become_6 rfl ff_X6_9 (tk_0 hq) rfl ?_
  refine v_iconst C dX6_become_9 rfl ic_0 ?_
  refine v_bipush C dX6_become_10 rfl bi_12 ?_
  obtain ⟨b1, h⟩ := gdS h
  obtain ⟨K2, eK2, h⟩ := nmS h
  refine v_copy C hD dX6_become_12 rfl m_539 m_541 m_540 m_13 (Nat.le_of_ble_eq_true rfl) (Nat.le_of_ble_eq_true rfl) (tk_1 hq1) (tk_1 hq) b1 eK2 ?_
  refine v_aload_n C dX6_become_15 rfl rfl 1 rfl ?_
  refine v_getr C dX6_become_16 rfl ff_X6_15 (tk_0 hq1) rfl ?_
  refine v_iconst C dX6_become_19 rfl ic_0 ?_
  refine v_aload_n C dX6_become_20 rfl rfl 0 rfl ?_
  refine v_getr C dX6_become_21 rfl ff_X6_15 (tk_0 hq) rfl ?_
  refine v_iconst C dX6_become_24 rfl ic_0 ?_
  refine v_bipush C dX6_become_25 rfl bi_12 ?_
  obtain ⟨b3, h⟩ := gdS h
  obtain ⟨K4, eK4, h⟩ := nmS h
  refine v_copy C hD dX6_become_27 rfl m_539 m_541 m_540 m_13 (Nat.le_of_ble_eq_true rfl) (Nat.le_of_ble_eq_true rfl) (tk_2 hq1) (tk_2 hq) b3 eK4 ?_
  refine v_aload_n C dX6_become_30 rfl rfl 1 rfl ?_
  refine v_getr C dX6_become_31 rfl ff_X6_18 (tk_0 hq1) rfl ?_
  refine v_iconst C dX6_become_34 rfl ic_0 ?_
  refine v_aload_n C dX6_become_35 rfl rfl 0 rfl ?_
  refine v_getr C dX6_become_36 rfl ff_X6_18 (tk_0 hq) rfl ?_
  refine v_iconst C dX6_become_39 rfl ic_0 ?_
  refine v_bipush C dX6_become_40 rfl bi_12 ?_
  obtain ⟨b5, h⟩ := gdS h
  obtain ⟨K6, eK6, h⟩ := nmS h
  refine v_copy C hD dX6_become_42 rfl m_539 m_541 m_540 m_13 (Nat.le_of_ble_eq_true rfl) (Nat.le_of_ble_eq_true rfl) (tk_3 hq1) (tk_3 hq) b5 eK6 ?_
  refine v_aload_n C dX6_become_45 rfl rfl 1 rfl ?_
  refine v_getr C dX6_become_46 rfl ff_X6_21 (tk_0 hq1) rfl ?_
  refine v_iconst C dX6_become_49 rfl ic_0 ?_
  refine v_aload_n C dX6_become_50 rfl rfl 0 rfl ?_
  refine v_getr C dX6_become_51 rfl ff_X6_21 (tk_0 hq) rfl ?_
  refine v_iconst C dX6_become_54 rfl ic_0 ?_
  refine v_bipush C dX6_become_55 rfl bi_12 ?_
  obtain ⟨b7, h⟩ := gdS h
  obtain ⟨K8, eK8, h⟩ := nmS h
  refine v_copy C hD dX6_become_57 rfl m_539 m_541 m_540 m_13 (Nat.le_of_ble_eq_true rfl) (Nat.le_of_ble_eq_true rfl) (tk_4 hq1) (tk_4 hq) b7 eK8 ?_
  refine v_aload_n C dX6_become_60 rfl rfl 1 rfl ?_
  refine v_getr C dX6_become_61 rfl ff_X6_24 (tk_0 hq1) rfl ?_
  refine v_iconst C dX6_become_64 rfl ic_0 ?_
  refine v_aload_n C dX6_become_65 rfl rfl 0 rfl ?_
  refine v_getr C dX6_become_66 rfl ff_X6_24 (tk_0 hq) rfl ?_
  refine v_iconst C dX6_become_69 rfl ic_0 ?_
  refine v_aload_n C dX6_become_70 rfl rfl 0 rfl ?_
  refine v_getr C dX6_become_71 rfl ff_X6_24 (tk_0 hq) rfl ?_
  refine v_alen C dX6_become_74 rfl (tk_5 hq) (v := 3) (by decide) ?_
  obtain ⟨b9, h⟩ := gdS h
  obtain ⟨K10, eK10, h⟩ := nmS h
  refine v_copy C hD dX6_become_75 rfl m_539 m_541 m_540 m_13 (Nat.le_of_ble_eq_true rfl) (Nat.le_of_ble_eq_true rfl) (tk_5 hq1) (tk_5 hq) b9 eK10 ?_
  refine v_aload_n C dX6_become_78 rfl rfl 1 rfl ?_
  refine v_getr C dX6_become_79 rfl ff_X6_27 (tk_0 hq1) rfl ?_
  refine v_iconst C dX6_become_82 rfl ic_0 ?_
  refine v_aload_n C dX6_become_83 rfl rfl 0 rfl ?_
  refine v_getr C dX6_become_84 rfl ff_X6_27 (tk_0 hq) rfl ?_
  refine v_iconst C dX6_become_87 rfl ic_0 ?_
  refine v_aload_n C dX6_become_88 rfl rfl 0 rfl ?_
  refine v_getr C dX6_become_89 rfl ff_X6_27 (tk_0 hq) rfl ?_
  refine v_alen C dX6_become_92 rfl (tk_6 hq) (v := 3) (by decide) ?_
  obtain ⟨b11, h⟩ := gdS h
  obtain ⟨K12, eK12, h⟩ := nmS h
  refine v_copy C hD dX6_become_93 rfl m_539 m_541 m_540 m_13 (Nat.le_of_ble_eq_true rfl) (Nat.le_of_ble_eq_true rfl) (tk_6 hq1) (tk_6 hq) b11 eK12 ?_
  refine v_aload_n C dX6_become_96 rfl rfl 0 rfl ?_
  refine v_aload_n C dX6_become_97 rfl rfl 1 rfl ?_
  refine v_getf C dX6_become_98 rfl ff_X6_44 (tk_0 hq1) rfl ?_
  obtain ⟨K13, eK13, h⟩ := nmS h
  refine v_putf C hD dX6_become_101 rfl fp_X6_44 (tk_0 hq) rfl eK13 ?_
  refine v_aload_n C dX6_become_104 rfl rfl 0 rfl ?_
  refine v_aload_n C dX6_become_105 rfl rfl 1 rfl ?_
  refine v_getf C dX6_become_106 rfl ff_X6_47 (tk_0 hq1) rfl ?_
  obtain ⟨K14, eK14, h⟩ := nmS h
  refine v_putf C hD dX6_become_109 rfl fp_X6_47 (tk_0 hq) rfl eK14 ?_
  refine v_aload_n C dX6_become_112 rfl rfl 0 rfl ?_
  refine v_aload_n C dX6_become_113 rfl rfl 1 rfl ?_
  refine v_getf C dX6_become_114 rfl ff_X6_50 (tk_0 hq1) rfl ?_
  obtain ⟨K15, eK15, h⟩ := nmS h
  refine v_putf C hD dX6_become_117 rfl fp_X6_50 (tk_0 hq) rfl eK15 ?_
  refine v_aload_n C dX6_become_120 rfl rfl 0 rfl ?_
  refine v_aload_n C dX6_become_121 rfl rfl 1 rfl ?_
  refine v_getf C dX6_become_122 rfl ff_X6_53 (tk_0 hq1) rfl ?_
  obtain ⟨K16, eK16, h⟩ := nmS h
  refine v_putf C hD dX6_become_125 rfl fp_X6_53 (tk_0 hq) rfl eK16 ?_
  refine v_aload_n C dX6_become_128 rfl rfl 0 rfl ?_
  refine v_aload_n C dX6_become_129 rfl rfl 1 rfl ?_
  refine v_getf C dX6_become_130 rfl ff_X6_56 (tk_0 hq1) rfl ?_
  obtain ⟨K17, eK17, h⟩ := nmS h
  refine v_putf C hD dX6_become_133 rfl fp_X6_56 (tk_0 hq) rfl eK17 ?_
  refine v_aload_n C dX6_become_136 rfl rfl 0 rfl ?_
  refine v_aload_n C dX6_become_137 rfl rfl 1 rfl ?_
  refine v_getf C dX6_become_138 rfl ff_X6_30 (tk_0 hq1) rfl ?_
  obtain ⟨K18, eK18, h⟩ := nmS h
  refine v_putf C hD dX6_become_141 rfl fp_X6_30 (tk_0 hq) rfl eK18 ?_
  refine v_aload_n C dX6_become_144 rfl rfl 0 rfl ?_
  refine v_aload_n C dX6_become_145 rfl rfl 1 rfl ?_
  refine v_getf C dX6_become_146 rfl ff_X6_59 (tk_0 hq1) rfl ?_
  obtain ⟨K19, eK19, h⟩ := nmS h
  refine v_putf C hD dX6_become_149 rfl fp_X6_59 (tk_0 hq) rfl eK19 ?_
  obtain rfl := Option.some.inj h
  exact RET _ _ dX6_become_152
def C_X6_become (q : Nat) (q1 : Nat) (K : Mem) : Option Mem := F_X6_become_0 q q1 K
set_option maxRecDepth 100000 in
theorem c_X6_become {l : Launch} {D : va_G} {cA : FieldType → ClassId} {X : Ex} {ad : Nat → Nat} {q : Nat} {q1 : Nat} (hq : isTown q) (hq1 : isTown q1) {K : Mem} {K' : Mem} (h : C_X6_become q q1 K = some K') : MV l D cA X yX6_become cX6_become 2 1 30 [.ref (ad q), .ref (ad q1)] (wd cA ad K 0 shsK) (wd cA ad K' 0 shsK) :=
  mV_of (by decide +kernel) (Nat.le_of_ble_eq_true rfl) (fun G h1 h2 h3 h4 C hD RET => by subst h1 h2 h3 h4; exact wF_X6_become_0 C (fun K' => wd_D K' hD) RET hq hq1 h)
def F_X6_has_0 (q : Nat) (K : Mem) (a1 : Int32) : Option Int32 :=
  if a1 < 0 then (
    some 0
  ) else (
    if (K q 7) ≤ a1 then (
      some 0
    ) else (
      some 1
    )
  )
set_option maxRecDepth 100000 in
set_option maxHeartbeats 4000000 in
theorem wF_X6_has_0 {G : Ctx} {ad : Nat → Nat} {q : Nat} {K : Mem} (C : Cx G RX6 cX6_has 2 0 0) (hD : ∀ K, va_D (gA G) (wd (gC G) ad K 0 shsK)) {res : Int32} (RET : RZ G cX6_has 2 (wd (gC G) ad K 0 shsK) res) (hq : isTown q) {a1 : Int32} (h : F_X6_has_0 q K a1 = some res) : V G 2 (wd (gC G) ad K 0 shsK) 0 [(0, .ref (ad q)), (1, .int a1)] [] := by
  unfold F_X6_has_0 at h
  refine v_iload_n C dX6_has_0 rfl rfl 1 rfl ?_
  refine v_if_lt C dX6_has_1 (tgt := 16) (by decide) rfl (fun c1 => ?_) (fun c1 => ?_)
  · have h := ifp c1 h
    refine v_iconst C dX6_has_16 rfl ic_0 ?_
    obtain rfl := Option.some.inj h
    exact RET _ _ dX6_has_17 (Or.inl rfl)
  · have h := ifn c1 h
    refine v_iload_n C dX6_has_4 rfl rfl 1 rfl ?_
    refine v_aload_n C dX6_has_5 rfl rfl 0 rfl ?_
    refine v_getf C dX6_has_6 rfl ff_X6_44 (tk_0 hq) rfl ?_
    refine v_icmp_ge C dX6_has_9 (tgt := 16) (by decide) rfl (fun c2 => ?_) (fun c2 => ?_)
    · have h := ifp c2 h
      refine v_iconst C dX6_has_16 rfl ic_0 ?_
      obtain rfl := Option.some.inj h
      exact RET _ _ dX6_has_17 (Or.inl rfl)
    · have h := ifn c2 h
      refine v_iconst C dX6_has_12 rfl ic_1 ?_
      refine v_goto C dX6_has_13 (tgt := 17) (by decide) ?_
      obtain rfl := Option.some.inj h
      exact RET _ _ dX6_has_17 (Or.inr rfl)
def C_X6_has (q : Nat) (K : Mem) (a1 : Int32) : Option Int32 := F_X6_has_0 q K a1
set_option maxRecDepth 100000 in
theorem c_X6_has {l : Launch} {D : va_G} {cA : FieldType → ClassId} {X : Ex} {ad : Nat → Nat} {q : Nat} (hq : isTown q) {a1 : Int32} {K : Mem} {r : Int32} (h : C_X6_has q K a1 = some r) : MI l D cA X yX6_has cX6_has 2 (some .boolean) 0 0 [.ref (ad q), .int a1] (wd cA ad K 0 shsK) (wd cA ad K 0 shsK) r :=
  mZ_of (by decide +kernel) (Nat.le_of_ble_eq_true rfl) (fun G h1 h2 h3 h4 C hD RET => by subst h1 h2 h3 h4; exact wF_X6_has_0 C (fun K' => wd_D K' hD) RET hq h)
def F_X6_isFull_0 (q : Nat) (K : Mem) : Option Int32 :=
  if (K q 7) < 12 then (
    some 0
  ) else (
    some 1
  )
set_option maxRecDepth 100000 in
set_option maxHeartbeats 4000000 in
theorem wF_X6_isFull_0 {G : Ctx} {ad : Nat → Nat} {q : Nat} {K : Mem} (C : Cx G RX6 cX6_isFull 1 0 0) (hD : ∀ K, va_D (gA G) (wd (gC G) ad K 0 shsK)) {res : Int32} (RET : RZ G cX6_isFull 1 (wd (gC G) ad K 0 shsK) res) (hq : isTown q) (h : F_X6_isFull_0 q K = some res) : V G 1 (wd (gC G) ad K 0 shsK) 0 [(0, .ref (ad q))] [] := by
  unfold F_X6_isFull_0 at h
  refine v_aload_n C dX6_isFull_0 rfl rfl 0 rfl ?_
  refine v_getf C dX6_isFull_1 rfl ff_X6_44 (tk_0 hq) rfl ?_
  refine v_bipush C dX6_isFull_4 rfl bi_12 ?_
  refine v_icmp_lt C dX6_isFull_6 (tgt := 13) (by decide) rfl (fun c1 => ?_) (fun c1 => ?_)
  · have h := ifp c1 h
    refine v_iconst C dX6_isFull_13 rfl ic_0 ?_
    obtain rfl := Option.some.inj h
    exact RET _ _ dX6_isFull_14 (Or.inl rfl)
  · have h := ifn c1 h
    refine v_iconst C dX6_isFull_9 rfl ic_1 ?_
    refine v_goto C dX6_isFull_10 (tgt := 14) (by decide) ?_
    obtain rfl := Option.some.inj h
    exact RET _ _ dX6_isFull_14 (Or.inr rfl)
def C_X6_isFull (q : Nat) (K : Mem) : Option Int32 := F_X6_isFull_0 q K
set_option maxRecDepth 100000 in
theorem c_X6_isFull {l : Launch} {D : va_G} {cA : FieldType → ClassId} {X : Ex} {ad : Nat → Nat} {q : Nat} (hq : isTown q) {K : Mem} {r : Int32} (h : C_X6_isFull q K = some r) : MI l D cA X yX6_isFull cX6_isFull 1 (some .boolean) 0 0 [.ref (ad q)] (wd cA ad K 0 shsK) (wd cA ad K 0 shsK) r :=
  mZ_of (by decide +kernel) (Nat.le_of_ble_eq_true rfl) (fun G h1 h2 h3 h4 C hD RET => by subst h1 h2 h3 h4; exact wF_X6_isFull_0 C (fun K' => wd_D K' hD) RET hq h)
def F_X6_add_0 (q : Nat) (a1 : Int32) (a2 : Int32) (a3 : Int32) (K : Mem) : Option Mem :=
  bd (C_X6_isFull q K) fun r2 =>
  if r2 = 0 then (
    gd (inb (K q 7) 12) <|
    nm (up K (q + 1) (Int32.toNatClampNeg (K q 7)) a1) fun K5 =>
    gd (inb (K5 q 7) 12) <|
    nm (up K5 (q + 2) (Int32.toNatClampNeg (K5 q 7)) a2) fun K7 =>
    gd (inb (K7 q 7) 12) <|
    nm (up K7 (q + 3) (Int32.toNatClampNeg (K7 q 7)) 0) fun K9 =>
    gd (inb (K9 q 7) 12) <|
    nm (up K9 (q + 4) (Int32.toNatClampNeg (K9 q 7)) a3) fun K11 =>
    nm (up K11 q 7 ((K11 q 7) + 1)) fun K12 =>
    some K12
  ) else (
    some K
  )
set_option maxRecDepth 100000 in
set_option maxHeartbeats 4000000 in
theorem wF_X6_add_0 {G : Ctx} {ad : Nat → Nat} {q : Nat} (C : Cx G RX6 cX6_add 4 1 20) (hD : ∀ K, va_D (gA G) (wd (gC G) ad K 0 shsK)) {res : Mem} (RET : RV G cX6_add 4 (wd (gC G) ad res 0 shsK)) (hq : isTown q) {a1 : Int32} {a2 : Int32} {a3 : Int32} {K : Mem} (h : F_X6_add_0 q a1 a2 a3 K = some res) : V G 4 (wd (gC G) ad K 0 shsK) 0 [(0, .ref (ad q)), (1, .int a1), (2, .int a2), (3, .int a3)] [] := by
  unfold F_X6_add_0 at h
  refine v_aload_n C dX6_add_0 rfl rfl 0 rfl ?_
  obtain ⟨r2, e1, h⟩ := bdS h
  refine v_callVi C yv_X6_isFull m_300 (c_X6_isFull hq e1) (Sub.whole hD _ _) ⟨_, _, _, _, _, wd_at (tk_0 hq), rfl⟩ (As := []) rfl rfl (Nat.le_of_ble_eq_true rfl) ⟨Nat.le_of_ble_eq_true rfl, Nat.le_of_ble_eq_true rfl⟩ dX6_add_1 rfl ?_
  refine v_if_eq C dX6_add_4 (tgt := 8) (by decide) rfl (fun c3 => ?_) (fun c3 => ?_)
  · have h := ifp c3 h
    refine v_aload_n C dX6_add_8 rfl rfl 0 rfl ?_
    refine v_getr C dX6_add_9 rfl ff_X6_9 (tk_0 hq) rfl ?_
    refine v_aload_n C dX6_add_12 rfl rfl 0 rfl ?_
    refine v_getf C dX6_add_13 rfl ff_X6_44 (tk_0 hq) rfl ?_
    refine v_iload_n C dX6_add_16 rfl rfl 1 rfl ?_
    obtain ⟨b4, h⟩ := gdS h
    obtain ⟨K5, eK5, h⟩ := nmS h
    refine v_iast C hD dX6_add_17 rfl (tk_1 hq) b4 eK5 ?_
    refine v_aload_n C dX6_add_18 rfl rfl 0 rfl ?_
    refine v_getr C dX6_add_19 rfl ff_X6_15 (tk_0 hq) rfl ?_
    refine v_aload_n C dX6_add_22 rfl rfl 0 rfl ?_
    refine v_getf C dX6_add_23 rfl ff_X6_44 (tk_0 hq) rfl ?_
    refine v_iload_n C dX6_add_26 rfl rfl 2 rfl ?_
    obtain ⟨b6, h⟩ := gdS h
    obtain ⟨K7, eK7, h⟩ := nmS h
    refine v_iast C hD dX6_add_27 rfl (tk_2 hq) b6 eK7 ?_
    refine v_aload_n C dX6_add_28 rfl rfl 0 rfl ?_
    refine v_getr C dX6_add_29 rfl ff_X6_18 (tk_0 hq) rfl ?_
    refine v_aload_n C dX6_add_32 rfl rfl 0 rfl ?_
    refine v_getf C dX6_add_33 rfl ff_X6_44 (tk_0 hq) rfl ?_
    refine v_iconst C dX6_add_36 rfl ic_0 ?_
    obtain ⟨b8, h⟩ := gdS h
    obtain ⟨K9, eK9, h⟩ := nmS h
    refine v_iast C hD dX6_add_37 rfl (tk_3 hq) b8 eK9 ?_
    refine v_aload_n C dX6_add_38 rfl rfl 0 rfl ?_
    refine v_getr C dX6_add_39 rfl ff_X6_21 (tk_0 hq) rfl ?_
    refine v_aload_n C dX6_add_42 rfl rfl 0 rfl ?_
    refine v_getf C dX6_add_43 rfl ff_X6_44 (tk_0 hq) rfl ?_
    refine v_iload_n C dX6_add_46 rfl rfl 3 rfl ?_
    obtain ⟨b10, h⟩ := gdS h
    obtain ⟨K11, eK11, h⟩ := nmS h
    refine v_iast C hD dX6_add_47 rfl (tk_4 hq) b10 eK11 ?_
    refine v_aload_n C dX6_add_48 rfl rfl 0 rfl ?_
    refine v_dup C dX6_add_49 rfl rfl ?_
    refine v_getf C dX6_add_50 rfl ff_X6_44 (tk_0 hq) rfl ?_
    refine v_iconst C dX6_add_53 rfl ic_1 ?_
    refine v_iadd C dX6_add_54 rfl ?_
    obtain ⟨K12, eK12, h⟩ := nmS h
    refine v_putf C hD dX6_add_55 rfl fp_X6_44 (tk_0 hq) rfl eK12 ?_
    obtain rfl := Option.some.inj h
    exact RET _ _ dX6_add_58
  · have h := ifn c3 h
    obtain rfl := Option.some.inj h
    exact RET _ _ dX6_add_7
def C_X6_add (q : Nat) (a1 : Int32) (a2 : Int32) (a3 : Int32) (K : Mem) : Option Mem := F_X6_add_0 q a1 a2 a3 K
set_option maxRecDepth 100000 in
theorem c_X6_add {l : Launch} {D : va_G} {cA : FieldType → ClassId} {X : Ex} {ad : Nat → Nat} {q : Nat} (hq : isTown q) {a1 : Int32} {a2 : Int32} {a3 : Int32} {K : Mem} {K' : Mem} (h : C_X6_add q a1 a2 a3 K = some K') : MV l D cA X yX6_add cX6_add 4 1 20 [.ref (ad q), .int a1, .int a2, .int a3] (wd cA ad K 0 shsK) (wd cA ad K' 0 shsK) :=
  mV_of (by decide +kernel) (Nat.le_of_ble_eq_true rfl) (fun G h1 h2 h3 h4 C hD RET => by subst h1 h2 h3 h4; exact wF_X6_add_0 C (fun K' => wd_D K' hD) RET hq h)
def F_X6_addText_23 (q : Nat) (K : Mem) : Option (Int32 × Mem) :=
  nm (up K q 13 ((K q 13) + 1)) fun K5 =>
  some ((K5 q 13) - 1, K5)
set_option maxRecDepth 100000 in
set_option maxHeartbeats 4000000 in
theorem wF_X6_addText_23 {G : Ctx} {ad : Nat → Nat} {q : Nat} (C : Cx G RX6 cX6_addText 2 0 0) (hD : ∀ K, va_D (gA G) (wd (gC G) ad K 0 shsK)) {res : (Int32 × Mem)} (RET : RI G cX6_addText 2 (wd (gC G) ad res.2 0 shsK) res.1) (hq : isTown q) {K : Mem} (h : F_X6_addText_23 q K = some res) : V G 2 (wd (gC G) ad K 0 shsK) 23 [(0, .ref (ad q))] [] := by
  unfold F_X6_addText_23 at h
  refine v_aload_n C dX6_addText_23 rfl rfl 0 rfl ?_
  refine v_dup C dX6_addText_24 rfl rfl ?_
  refine v_getf C dX6_addText_25 rfl ff_X6_59 (tk_0 hq) rfl ?_
  refine v_iconst C dX6_addText_28 rfl ic_1 ?_
  refine v_iadd C dX6_addText_29 rfl ?_
  obtain ⟨K5, eK5, h⟩ := nmS h
  refine v_putf C hD dX6_addText_30 rfl fp_X6_59 (tk_0 hq) rfl eK5 ?_
  refine v_aload_n C dX6_addText_33 rfl rfl 0 rfl ?_
  refine v_getf C dX6_addText_34 rfl ff_X6_59 (tk_0 hq) rfl ?_
  refine v_iconst C dX6_addText_37 rfl ic_1 ?_
  refine v_isub C dX6_addText_38 rfl ?_
  obtain rfl := Option.some.inj h
  exact RET _ _ dX6_addText_39
def F_X6_addText_0 (q : Nat) (a1 : Int32) (K : Mem) : Option (Int32 × Mem) :=
  if a1 < 0 then (
    F_X6_addText_23 q K
  ) else (
    if 3 ≤ a1 then (
      F_X6_addText_23 q K
    ) else (
      gd (inb a1 3) <|
      nm (up K (q + 6) (Int32.toNatClampNeg a1) (K q 13)) fun K4 =>
      F_X6_addText_23 q K4
    )
  )
set_option maxRecDepth 100000 in
set_option maxHeartbeats 4000000 in
theorem wF_X6_addText_0 {G : Ctx} {ad : Nat → Nat} {q : Nat} (C : Cx G RX6 cX6_addText 2 0 0) (hD : ∀ K, va_D (gA G) (wd (gC G) ad K 0 shsK)) {res : (Int32 × Mem)} (RET : RI G cX6_addText 2 (wd (gC G) ad res.2 0 shsK) res.1) (hq : isTown q) {a1 : Int32} {K : Mem} (h : F_X6_addText_0 q a1 K = some res) : V G 2 (wd (gC G) ad K 0 shsK) 0 [(0, .ref (ad q)), (1, .int a1)] [] := by
  unfold F_X6_addText_0 at h
  refine v_iload_n C dX6_addText_0 rfl rfl 1 rfl ?_
  refine v_if_lt C dX6_addText_1 (tgt := 23) (by decide) rfl (fun c1 => ?_) (fun c1 => ?_)
  · have h := ifp c1 h
    refine v_sub [0] rfl ?_
    exact wF_X6_addText_23 C hD RET hq h
  · have h := ifn c1 h
    refine v_iload_n C dX6_addText_4 rfl rfl 1 rfl ?_
    refine v_aload_n C dX6_addText_5 rfl rfl 0 rfl ?_
    refine v_getr C dX6_addText_6 rfl ff_X6_27 (tk_0 hq) rfl ?_
    refine v_alen C dX6_addText_9 rfl (tk_6 hq) (v := 3) (by decide) ?_
    refine v_icmp_ge C dX6_addText_10 (tgt := 23) (by decide) rfl (fun c2 => ?_) (fun c2 => ?_)
    · have h := ifp c2 h
      refine v_sub [0] rfl ?_
      exact wF_X6_addText_23 C hD RET hq h
    · have h := ifn c2 h
      refine v_aload_n C dX6_addText_13 rfl rfl 0 rfl ?_
      refine v_getr C dX6_addText_14 rfl ff_X6_27 (tk_0 hq) rfl ?_
      refine v_iload_n C dX6_addText_17 rfl rfl 1 rfl ?_
      refine v_aload_n C dX6_addText_18 rfl rfl 0 rfl ?_
      refine v_getf C dX6_addText_19 rfl ff_X6_59 (tk_0 hq) rfl ?_
      obtain ⟨b3, h⟩ := gdS h
      obtain ⟨K4, eK4, h⟩ := nmS h
      refine v_iast C hD dX6_addText_22 rfl (tk_6 hq) b3 eK4 ?_
      refine v_sub [0] rfl ?_
      exact wF_X6_addText_23 C hD RET hq h
def C_X6_addText (q : Nat) (a1 : Int32) (K : Mem) : Option (Int32 × Mem) := F_X6_addText_0 q a1 K
set_option maxRecDepth 100000 in
theorem c_X6_addText {l : Launch} {D : va_G} {cA : FieldType → ClassId} {X : Ex} {ad : Nat → Nat} {q : Nat} (hq : isTown q) {a1 : Int32} {K : Mem} {r : Int32} {K' : Mem} (h : C_X6_addText q a1 K = some (r, K')) : MI l D cA X yX6_addText cX6_addText 2 (some .int) 0 0 [.ref (ad q), .int a1] (wd cA ad K 0 shsK) (wd cA ad K' 0 shsK) r :=
  mI_of (by decide +kernel) (Nat.le_of_ble_eq_true rfl) (fun G h1 h2 h3 h4 C hD RET => by subst h1 h2 h3 h4; exact wF_X6_addText_0 C (fun K' => wd_D K' hD) RET hq h)
def F_X6_draw_0 (q : Nat) (K : Mem) : Option (Int32 × Mem) :=
  nm (up K q 12 (((K q 12) * 1103515245) + 12345)) fun K1 =>
  some (jushr (K1 q 12) 8, K1)
set_option maxRecDepth 100000 in
set_option maxHeartbeats 4000000 in
theorem wF_X6_draw_0 {G : Ctx} {ad : Nat → Nat} {q : Nat} (C : Cx G RX6 cX6_draw 1 0 0) (hD : ∀ K, va_D (gA G) (wd (gC G) ad K 0 shsK)) {res : (Int32 × Mem)} (RET : RI G cX6_draw 1 (wd (gC G) ad res.2 0 shsK) res.1) (hq : isTown q) {K : Mem} (h : F_X6_draw_0 q K = some res) : V G 1 (wd (gC G) ad K 0 shsK) 0 [(0, .ref (ad q))] [] := by
  unfold F_X6_draw_0 at h
  refine v_aload_n C dX6_draw_0 rfl rfl 0 rfl ?_
  refine v_aload_n C dX6_draw_1 rfl rfl 0 rfl ?_
  refine v_getf C dX6_draw_2 rfl ff_X6_30 (tk_0 hq) rfl ?_
  refine v_ldc C dX6_draw_5 rfl m_435 ?_
  refine v_imul C dX6_draw_7 rfl ?_
  refine v_sipush C dX6_draw_8 rfl si_12345 ?_
  refine v_iadd C dX6_draw_11 rfl ?_
  obtain ⟨K1, eK1, h⟩ := nmS h
  refine v_putf C hD dX6_draw_12 rfl fp_X6_30 (tk_0 hq) rfl eK1 ?_
  refine v_aload_n C dX6_draw_15 rfl rfl 0 rfl ?_
  refine v_getf C dX6_draw_16 rfl ff_X6_30 (tk_0 hq) rfl ?_
  refine v_bipush C dX6_draw_19 rfl bi_8 ?_
  refine v_iushr C dX6_draw_21 rfl ?_
  obtain rfl := Option.some.inj h
  exact RET _ _ dX6_draw_22
def C_X6_draw (q : Nat) (K : Mem) : Option (Int32 × Mem) := F_X6_draw_0 q K
set_option maxRecDepth 100000 in
theorem c_X6_draw {l : Launch} {D : va_G} {cA : FieldType → ClassId} {X : Ex} {ad : Nat → Nat} {q : Nat} (hq : isTown q) {K : Mem} {r : Int32} {K' : Mem} (h : C_X6_draw q K = some (r, K')) : MI l D cA X yX6_draw cX6_draw 1 (some .int) 0 0 [.ref (ad q)] (wd cA ad K 0 shsK) (wd cA ad K' 0 shsK) r :=
  mI_of (by decide +kernel) (Nat.le_of_ble_eq_true rfl) (fun G h1 h2 h3 h4 C hD RET => by subst h1 h2 h3 h4; exact wF_X6_draw_0 C (fun K' => wd_D K' hD) RET hq h)
def F_X6_drawCourse_0 (q : Nat) (K : Mem) : Option Mem :=
  bd2 (C_X6_draw q K) fun r3 K2 =>
  nm (jrem r3 6) fun v4 =>
  bd2 (C_X6_draw q K2) fun r7 K6 =>
  nm (1 + (jrem r7 9)) fun v8 =>
  bd2 (C_X6_draw q K6) fun r11 K10 =>
  bd2 (C_X6_draw q K10) fun r14 K13 =>
  bd (C_X6_add q v4 v8 ((r11 &&& r14) &&& 255) K13) fun K16 =>
  some K16
set_option maxRecDepth 100000 in
set_option maxHeartbeats 4000000 in
theorem wF_X6_drawCourse_0 {G : Ctx} {ad : Nat → Nat} {q : Nat} (C : Cx G RX6 cX6_drawCourse 5 2 43) (hD : ∀ K, va_D (gA G) (wd (gC G) ad K 0 shsK)) {res : Mem} (RET : RV G cX6_drawCourse 5 (wd (gC G) ad res 0 shsK)) (hq : isTown q) {K : Mem} (h : F_X6_drawCourse_0 q K = some res) : V G 5 (wd (gC G) ad K 0 shsK) 0 [(0, .ref (ad q))] [] := by
  unfold F_X6_drawCourse_0 at h
  refine v_aload_n C dX6_drawCourse_0 rfl rfl 0 rfl ?_
  obtain ⟨r3, K2, e1, h⟩ := bd2S h
  refine v_callVi C yv_X6_draw m_431 (c_X6_draw hq e1) (Sub.whole hD _ _) ⟨_, _, _, _, _, wd_at (tk_0 hq), rfl⟩ (As := []) rfl rfl (Nat.le_of_ble_eq_true rfl) ⟨Nat.le_of_ble_eq_true rfl, Nat.le_of_ble_eq_true rfl⟩ dX6_drawCourse_1 rfl ?_
  refine v_bipush C dX6_drawCourse_4 rfl bi_6 ?_
  refine v_irem C dX6_drawCourse_6 rfl (by decide) ?_
  obtain ⟨v4, ev4, h⟩ := nmS h
  refine v_nmi ev4 ?_
  refine v_istore_n C dX6_drawCourse_7 rfl rfl (by decide) (L' := [(1, .int v4), (0, .ref (ad q))]) rfl ?_
  refine v_iconst C dX6_drawCourse_8 rfl ic_1 ?_
  refine v_aload_n C dX6_drawCourse_9 rfl rfl 1 rfl ?_
  obtain ⟨r7, K6, e5, h⟩ := bd2S h
  refine v_callVi C yv_X6_draw m_431 (c_X6_draw hq e5) (Sub.whole hD _ _) ⟨_, _, _, _, _, wd_at (tk_0 hq), rfl⟩ (As := []) rfl rfl (Nat.le_of_ble_eq_true rfl) ⟨Nat.le_of_ble_eq_true rfl, Nat.le_of_ble_eq_true rfl⟩ dX6_drawCourse_10 rfl ?_
  refine v_bipush C dX6_drawCourse_13 rfl bi_9 ?_
  refine v_irem C dX6_drawCourse_15 rfl (by decide) ?_
  refine v_iadd C dX6_drawCourse_16 rfl ?_
  obtain ⟨v8, ev8, h⟩ := nmS h
  refine v_nmi ev8 ?_
  refine v_istore_n C dX6_drawCourse_17 rfl rfl (by decide) (L' := [(2, .int v8), (1, .int v4), (0, .ref (ad q))]) rfl ?_
  refine v_aload_n C dX6_drawCourse_18 rfl rfl 2 rfl ?_
  obtain ⟨r11, K10, e9, h⟩ := bd2S h
  refine v_callVi C yv_X6_draw m_431 (c_X6_draw hq e9) (Sub.whole hD _ _) ⟨_, _, _, _, _, wd_at (tk_0 hq), rfl⟩ (As := []) rfl rfl (Nat.le_of_ble_eq_true rfl) ⟨Nat.le_of_ble_eq_true rfl, Nat.le_of_ble_eq_true rfl⟩ dX6_drawCourse_19 rfl ?_
  refine v_istore_n C dX6_drawCourse_22 rfl rfl (by decide) (L' := [(3, .int r11), (2, .int v8), (1, .int v4), (0, .ref (ad q))]) rfl ?_
  refine v_aload_n C dX6_drawCourse_23 rfl rfl 3 rfl ?_
  obtain ⟨r14, K13, e12, h⟩ := bd2S h
  refine v_callVi C yv_X6_draw m_431 (c_X6_draw hq e12) (Sub.whole hD _ _) ⟨_, _, _, _, _, wd_at (tk_0 hq), rfl⟩ (As := []) rfl rfl (Nat.le_of_ble_eq_true rfl) ⟨Nat.le_of_ble_eq_true rfl, Nat.le_of_ble_eq_true rfl⟩ dX6_drawCourse_24 rfl ?_
  refine v_istore C dX6_drawCourse_27 rfl (by decide) (L' := [(4, .int r14), (3, .int r11), (2, .int v8), (1, .int v4), (0, .ref (ad q))]) rfl ?_
  refine v_aload_n C dX6_drawCourse_29 rfl rfl 4 rfl ?_
  refine v_iload_n C dX6_drawCourse_30 rfl rfl 3 rfl ?_
  refine v_iload_n C dX6_drawCourse_31 rfl rfl 2 rfl ?_
  refine v_iload_n C dX6_drawCourse_32 rfl rfl 1 rfl ?_
  refine v_iload C dX6_drawCourse_33 rfl 0 rfl ?_
  refine v_iand C dX6_drawCourse_35 rfl ?_
  refine v_sipush C dX6_drawCourse_36 rfl si_255 ?_
  refine v_iand C dX6_drawCourse_39 rfl ?_
  obtain ⟨K16, e15, h⟩ := bdS h
  refine v_callVv C yv_X6_add m_436 (c_X6_add hq e15) (Sub.whole hD _ _) ⟨_, _, _, _, _, wd_at (tk_0 hq), rfl⟩ (As := [.int v4, .int v8, .int ((r11 &&& r14) &&& 255)]) rfl rfl (Nat.le_of_ble_eq_true rfl) ⟨Nat.le_of_ble_eq_true rfl, Nat.le_of_ble_eq_true rfl⟩ dX6_drawCourse_40 rfl ?_
  obtain rfl := Option.some.inj h
  exact RET _ _ dX6_drawCourse_43
def C_X6_drawCourse (q : Nat) (K : Mem) : Option Mem := F_X6_drawCourse_0 q K
set_option maxRecDepth 100000 in
theorem c_X6_drawCourse {l : Launch} {D : va_G} {cA : FieldType → ClassId} {X : Ex} {ad : Nat → Nat} {q : Nat} (hq : isTown q) {K : Mem} {K' : Mem} (h : C_X6_drawCourse q K = some K') : MV l D cA X yX6_drawCourse cX6_drawCourse 5 2 43 [.ref (ad q)] (wd cA ad K 0 shsK) (wd cA ad K' 0 shsK) :=
  mV_of (by decide +kernel) (Nat.le_of_ble_eq_true rfl) (fun G h1 h2 h3 h4 C hD RET => by subst h1 h2 h3 h4; exact wF_X6_drawCourse_0 C (fun K' => wd_D K' hD) RET hq h)
def F_X6_holdingOn_0 (q : Nat) (K : Mem) (a1 : Int32) (a2 : Int32) : Option Int32 :=
  gd (inb a1 12) <|
  bd (C_X0_borne (K (q + 1) (Int32.toNatClampNeg a1)) a2) fun r3 =>
  gd (inb a1 12) <|
  some (r3 &&& ((K (q + 4) (Int32.toNatClampNeg a1)) ^^^ (-1)))
set_option maxRecDepth 100000 in
set_option maxHeartbeats 4000000 in
theorem wF_X6_holdingOn_0 {G : Ctx} {ad : Nat → Nat} {q : Nat} {K : Mem} (C : Cx G RX6 cX6_holdingOn 3 2 41) (hD : ∀ K, va_D (gA G) (wd (gC G) ad K 0 shsK)) {res : Int32} (RET : RI G cX6_holdingOn 3 (wd (gC G) ad K 0 shsK) res) (hq : isTown q) {a1 : Int32} {a2 : Int32} (h : F_X6_holdingOn_0 q K a1 a2 = some res) : V G 3 (wd (gC G) ad K 0 shsK) 0 [(0, .ref (ad q)), (1, .int a1), (2, .int a2)] [] := by
  unfold F_X6_holdingOn_0 at h
  refine v_aload_n C dX6_holdingOn_0 rfl rfl 0 rfl ?_
  refine v_getr C dX6_holdingOn_1 rfl ff_X6_9 (tk_0 hq) rfl ?_
  refine v_iload_n C dX6_holdingOn_4 rfl rfl 1 rfl ?_
  obtain ⟨b1, h⟩ := gdS h
  refine v_iald C dX6_holdingOn_5 rfl (tk_1 hq) b1 ?_
  refine v_iload_n C dX6_holdingOn_6 rfl rfl 2 rfl ?_
  obtain ⟨r3, e2, h⟩ := bdS h
  refine v_callSi C ys_X0_borne m_317 (c_X0_borne e2) (Sub.whole hD _ _) (As := [.int (K (q + 1) (Int32.toNatClampNeg a1)), .int a2]) rfl rfl (Nat.le_of_ble_eq_true rfl) ⟨Nat.le_of_ble_eq_true rfl, Nat.le_of_ble_eq_true rfl⟩ dX6_holdingOn_7 rfl ?_
  refine v_aload_n C dX6_holdingOn_10 rfl rfl 0 rfl ?_
  refine v_getr C dX6_holdingOn_11 rfl ff_X6_21 (tk_0 hq) rfl ?_
  refine v_iload_n C dX6_holdingOn_14 rfl rfl 1 rfl ?_
  obtain ⟨b4, h⟩ := gdS h
  refine v_iald C dX6_holdingOn_15 rfl (tk_4 hq) b4 ?_
  refine v_iconst C dX6_holdingOn_16 rfl ic_n1 ?_
  refine v_ixor C dX6_holdingOn_17 rfl ?_
  refine v_iand C dX6_holdingOn_18 rfl ?_
  obtain rfl := Option.some.inj h
  exact RET _ _ dX6_holdingOn_19
def C_X6_holdingOn (q : Nat) (K : Mem) (a1 : Int32) (a2 : Int32) : Option Int32 := F_X6_holdingOn_0 q K a1 a2
set_option maxRecDepth 100000 in
theorem c_X6_holdingOn {l : Launch} {D : va_G} {cA : FieldType → ClassId} {X : Ex} {ad : Nat → Nat} {q : Nat} (hq : isTown q) {a1 : Int32} {a2 : Int32} {K : Mem} {r : Int32} (h : C_X6_holdingOn q K a1 a2 = some r) : MI l D cA X yX6_holdingOn cX6_holdingOn 3 (some .int) 2 41 [.ref (ad q), .int a1, .int a2] (wd cA ad K 0 shsK) (wd cA ad K 0 shsK) r :=
  mI_of (by decide +kernel) (Nat.le_of_ble_eq_true rfl) (fun G h1 h2 h3 h4 C hD RET => by subst h1 h2 h3 h4; exact wF_X6_holdingOn_0 C (fun K' => wd_D K' hD) RET hq h)
def F_X6_holding_6 (k6 : Int32 → Int32 → Int32 → Option Int32) (q : Nat) (K : Mem) (a1 : Int32) (a2 : Int32) (a3 : Int32) : Option Int32 :=
  if a1 < a3 then (
    some a2
  ) else (
    if (K q 7) ≤ a3 then (
      some a2
    ) else (
      bd (C_X6_holdingOn q K a3 a2) fun r4 =>
      nm (a3 + 1) fun v5 =>
      k6 a1 r4 v5
    )
  )
def L_X6_holding_6 (q : Nat) (K : Mem) : Nat → Int32 → Int32 → Int32 → Option Int32
  | 0, _, _, _ => none
  | n + 1, a1, a2, a3 => F_X6_holding_6 (fun a1 a2 a3 => L_X6_holding_6 q K n a1 a2 a3) q K a1 a2 a3
set_option maxRecDepth 100000 in
set_option maxHeartbeats 4000000 in
theorem wF_X6_holding_6 {G : Ctx} {ad : Nat → Nat} {q : Nat} {K : Mem} {k6 : Int32 → Int32 → Int32 → Option Int32} (C : Cx G RX6 cX6_holding 4 3 63) (hD : ∀ K, va_D (gA G) (wd (gC G) ad K 0 shsK)) {res : Int32} (RET : RI G cX6_holding 4 (wd (gC G) ad K 0 shsK) res) (hk6 : ∀ {a1 : Int32} {a2 : Int32} {a3 : Int32} , k6 a1 a2 a3 = some res → V G 4 (wd (gC G) ad K 0 shsK) 6 [(0, .ref (ad q)), (1, .int a1), (2, .int a2), (3, .int a3)] []) (hq : isTown q) {a1 : Int32} {a2 : Int32} {a3 : Int32} (h : F_X6_holding_6 k6 q K a1 a2 a3 = some res) : V G 4 (wd (gC G) ad K 0 shsK) 6 [(0, .ref (ad q)), (1, .int a1), (2, .int a2), (3, .int a3)] [] := by
  unfold F_X6_holding_6 at h
  refine v_iload_n C dX6_holding_6 rfl rfl 3 rfl ?_
  refine v_iload_n C dX6_holding_7 rfl rfl 1 rfl ?_
  refine v_icmp_gt C dX6_holding_8 (tgt := 32) (by decide) rfl (fun c1 => ?_) (fun c1 => ?_)
  · have h := ifp c1 h
    refine v_iload_n C dX6_holding_32 rfl rfl 2 rfl ?_
    obtain rfl := Option.some.inj h
    exact RET _ _ dX6_holding_33
  · have h := ifn c1 h
    refine v_iload_n C dX6_holding_11 rfl rfl 3 rfl ?_
    refine v_aload_n C dX6_holding_12 rfl rfl 0 rfl ?_
    refine v_getf C dX6_holding_13 rfl ff_X6_44 (tk_0 hq) rfl ?_
    refine v_icmp_ge C dX6_holding_16 (tgt := 32) (by decide) rfl (fun c2 => ?_) (fun c2 => ?_)
    · have h := ifp c2 h
      refine v_iload_n C dX6_holding_32 rfl rfl 2 rfl ?_
      obtain rfl := Option.some.inj h
      exact RET _ _ dX6_holding_33
    · have h := ifn c2 h
      refine v_aload_n C dX6_holding_19 rfl rfl 0 rfl ?_
      refine v_iload_n C dX6_holding_20 rfl rfl 3 rfl ?_
      refine v_iload_n C dX6_holding_21 rfl rfl 2 rfl ?_
      obtain ⟨r4, e3, h⟩ := bdS h
      refine v_callVi C yv_X6_holdingOn m_313 (c_X6_holdingOn hq e3) (Sub.whole hD _ _) ⟨_, _, _, _, _, wd_at (tk_0 hq), rfl⟩ (As := [.int a3, .int a2]) rfl rfl (Nat.le_of_ble_eq_true rfl) ⟨Nat.le_of_ble_eq_true rfl, Nat.le_of_ble_eq_true rfl⟩ dX6_holding_22 rfl ?_
      refine v_istore_n C dX6_holding_25 rfl rfl (by decide) (L' := [(2, .int r4), (0, .ref (ad q)), (1, .int a1), (3, .int a3)]) rfl ?_
      obtain ⟨v5, ev5, h⟩ := nmS h
      refine v_iinc C dX6_holding_26 rfl 3 rfl (v := v5) (by rw [ev5]; rfl) (by decide) (L' := [(3, .int v5), (2, .int r4), (0, .ref (ad q)), (1, .int a1)]) rfl ?_
      refine v_goto C dX6_holding_29 (tgt := 6) (by decide) ?_
      refine v_sub [2, 3, 1, 0] rfl ?_
      exact hk6 h
theorem wL_X6_holding_6 {G : Ctx} {ad : Nat → Nat} {q : Nat} {K : Mem} (C : Cx G RX6 cX6_holding 4 3 63) (hD : ∀ K, va_D (gA G) (wd (gC G) ad K 0 shsK)) {res : Int32} (RET : RI G cX6_holding 4 (wd (gC G) ad K 0 shsK) res) (hq : isTown q) : ∀ (n : Nat) {a1 : Int32} {a2 : Int32} {a3 : Int32} (h : L_X6_holding_6 q K n a1 a2 a3 = some res), V G 4 (wd (gC G) ad K 0 shsK) 6 [(0, .ref (ad q)), (1, .int a1), (2, .int a2), (3, .int a3)] [] := by
  intro n
  induction n with
  | zero =>
    intro a1 a2 a3 h
    cases (show (none : Option Int32) = some res from h)
  | succ n ih =>
    intro a1 a2 a3 h
    exact wF_X6_holding_6 (k6 := fun a1 a2 a3 => L_X6_holding_6 q K n a1 a2 a3) C hD RET (fun h => ih h) hq h
def F_X6_holding_0 (q : Nat) (K : Mem) (a1 : Int32) : Option Int32 :=
  L_X6_holding_6 q K FU a1 255 0
set_option maxRecDepth 100000 in
set_option maxHeartbeats 4000000 in
theorem wF_X6_holding_0 {G : Ctx} {ad : Nat → Nat} {q : Nat} {K : Mem} (C : Cx G RX6 cX6_holding 4 3 63) (hD : ∀ K, va_D (gA G) (wd (gC G) ad K 0 shsK)) {res : Int32} (RET : RI G cX6_holding 4 (wd (gC G) ad K 0 shsK) res) (hq : isTown q) {a1 : Int32} (h : F_X6_holding_0 q K a1 = some res) : V G 4 (wd (gC G) ad K 0 shsK) 0 [(0, .ref (ad q)), (1, .int a1)] [] := by
  unfold F_X6_holding_0 at h
  refine v_sipush C dX6_holding_0 rfl si_255 ?_
  refine v_istore_n C dX6_holding_3 rfl rfl (by decide) (L' := [(2, .int 255), (0, .ref (ad q)), (1, .int a1)]) rfl ?_
  refine v_iconst C dX6_holding_4 rfl ic_0 ?_
  refine v_istore_n C dX6_holding_5 rfl rfl (by decide) (L' := [(3, .int 0), (2, .int 255), (0, .ref (ad q)), (1, .int a1)]) rfl ?_
  refine v_sub [2, 3, 1, 0] rfl ?_
  exact wL_X6_holding_6 C hD RET hq FU h
def C_X6_holding (q : Nat) (K : Mem) (a1 : Int32) : Option Int32 := F_X6_holding_0 q K a1
set_option maxRecDepth 100000 in
theorem c_X6_holding {l : Launch} {D : va_G} {cA : FieldType → ClassId} {X : Ex} {ad : Nat → Nat} {q : Nat} (hq : isTown q) {a1 : Int32} {K : Mem} {r : Int32} (h : C_X6_holding q K a1 = some r) : MI l D cA X yX6_holding cX6_holding 4 (some .int) 3 63 [.ref (ad q), .int a1] (wd cA ad K 0 shsK) (wd cA ad K 0 shsK) r :=
  mI_of (by decide +kernel) (Nat.le_of_ble_eq_true rfl) (fun G h1 h2 h3 h4 C hD RET => by subst h1 h2 h3 h4; exact wF_X6_holding_0 C (fun K' => wd_D K' hD) RET hq h)
