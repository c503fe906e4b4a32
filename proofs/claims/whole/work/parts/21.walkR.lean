def F_X9_goesOnMany_2 (k2 : Int32 → Int32 → Mem → Option Mem) (a1 : Int32) (a2 : Int32) (K : Mem) : Option Mem :=
  if a1 ≤ a2 then (
    some K
  ) else (
    bd (C_X9_goesOn K) fun K3 =>
    nm (a2 + 1) fun v4 =>
    k2 a1 v4 K3
  )
def L_X9_goesOnMany_2 : Nat → Int32 → Int32 → Mem → Option Mem
  | 0, _, _, _ => none
  | n + 1, a1, a2, K => F_X9_goesOnMany_2 (fun a1 a2 K => L_X9_goesOnMany_2 n a1 a2 K) a1 a2 K
set_option maxRecDepth 100000 in
set_option maxHeartbeats 4000000 in
theorem wF_X9_goesOnMany_2 {G : Ctx} {ad : Nat → Nat} {k2 : Int32 → Int32 → Mem → Option Mem} (C : Cx G RX9 cX9_goesOnMany 3 6 135) (hD : ∀ K, va_D (gA G) (wd (gC G) ad K 0 shsR)) {res : Mem} (RET : RV G cX9_goesOnMany 3 (wd (gC G) ad res 0 shsR)) (hk2 : ∀ {a1 : Int32} {a2 : Int32} {K : Mem} , k2 a1 a2 K = some res → V G 3 (wd (gC G) ad K 0 shsR) 2 [(0, .ref (ad 0)), (1, .int a1), (2, .int a2)] []) {a1 : Int32} {a2 : Int32} {K : Mem} (h : F_X9_goesOnMany_2 k2 a1 a2 K = some res) : V G 3 (wd (gC G) ad K 0 shsR) 2 [(0, .ref (ad 0)), (1, .int a1), (2, .int a2)] [] := by
  unfold F_X9_goesOnMany_2 at h
  refine v_iload_n C dX9_goesOnMany_2 rfl rfl 2 rfl ?_
  refine v_iload_n C dX9_goesOnMany_3 rfl rfl 1 rfl ?_
  refine v_icmp_ge C dX9_goesOnMany_4 (tgt := 17) (by decide) rfl (fun c1 => ?_) (fun c1 => ?_)
  · have h := ifp c1 h
    obtain rfl := Option.some.inj h
    exact RET _ _ dX9_goesOnMany_17
  · have h := ifn c1 h
    refine v_aload_n C dX9_goesOnMany_7 rfl rfl 0 rfl ?_
    obtain ⟨K3, e2, h⟩ := bdS h
    refine v_callVv C yv_X9_goesOn m_1097 (c_X9_goesOn e2) (Sub.whole hD _ _) ⟨_, _, _, _, _, wd_at sr_0, rfl⟩ (As := []) rfl rfl (Nat.le_of_ble_eq_true rfl) ⟨Nat.le_of_ble_eq_true rfl, Nat.le_of_ble_eq_true rfl⟩ dX9_goesOnMany_8 rfl ?_
    obtain ⟨v4, ev4, h⟩ := nmS h
    refine v_iinc C dX9_goesOnMany_11 rfl 2 rfl (v := v4) (by rw [ev4]; rfl) (by decide) (L' := [(2, .int v4), (0, .ref (ad 0)), (1, .int a1)]) rfl ?_
    refine v_goto C dX9_goesOnMany_14 (tgt := 2) (by decide) ?_
    refine v_sub [1, 2, 0] rfl ?_
    exact hk2 h
theorem wL_X9_goesOnMany_2 {G : Ctx} {ad : Nat → Nat} (C : Cx G RX9 cX9_goesOnMany 3 6 135) (hD : ∀ K, va_D (gA G) (wd (gC G) ad K 0 shsR)) {res : Mem} (RET : RV G cX9_goesOnMany 3 (wd (gC G) ad res 0 shsR)) : ∀ (n : Nat) {a1 : Int32} {a2 : Int32} {K : Mem} (h : L_X9_goesOnMany_2 n a1 a2 K = some res), V G 3 (wd (gC G) ad K 0 shsR) 2 [(0, .ref (ad 0)), (1, .int a1), (2, .int a2)] [] := by
  intro n
  induction n with
  | zero =>
    intro a1 a2 K h
    cases (show (none : Option Mem) = some res from h)
  | succ n ih =>
    intro a1 a2 K h
    exact wF_X9_goesOnMany_2 (k2 := fun a1 a2 K => L_X9_goesOnMany_2  n a1 a2 K) C hD RET (fun h => ih h) h
def F_X9_goesOnMany_0 (a1 : Int32) (K : Mem) : Option Mem :=
  L_X9_goesOnMany_2 FU a1 0 K
set_option maxRecDepth 100000 in
set_option maxHeartbeats 4000000 in
theorem wF_X9_goesOnMany_0 {G : Ctx} {ad : Nat → Nat} (C : Cx G RX9 cX9_goesOnMany 3 6 135) (hD : ∀ K, va_D (gA G) (wd (gC G) ad K 0 shsR)) {res : Mem} (RET : RV G cX9_goesOnMany 3 (wd (gC G) ad res 0 shsR)) {a1 : Int32} {K : Mem} (h : F_X9_goesOnMany_0 a1 K = some res) : V G 3 (wd (gC G) ad K 0 shsR) 0 [(0, .ref (ad 0)), (1, .int a1)] [] := by
  unfold F_X9_goesOnMany_0 at h
  refine v_iconst C dX9_goesOnMany_0 rfl ic_0 ?_
  refine v_istore_n C dX9_goesOnMany_1 rfl rfl (by decide) (L' := [(2, .int 0), (0, .ref (ad 0)), (1, .int a1)]) rfl ?_
  refine v_sub [1, 2, 0] rfl ?_
  exact wL_X9_goesOnMany_2 C hD RET FU h
def C_X9_goesOnMany (a1 : Int32) (K : Mem) : Option Mem := F_X9_goesOnMany_0 a1 K
set_option maxRecDepth 100000 in
theorem c_X9_goesOnMany {l : Launch} {D : va_G} {cA : FieldType → ClassId} {X : Ex} {ad : Nat → Nat} {a1 : Int32} {K : Mem} {K' : Mem} (h : C_X9_goesOnMany a1 K = some K') : MV l D cA X yX9_goesOnMany cX9_goesOnMany 3 6 135 [.ref (ad 0), .int a1] (wd cA ad K 0 shsR) (wd cA ad K' 0 shsR) :=
  mV_of (by decide +kernel) (Nat.le_of_ble_eq_true rfl) (fun G h1 h2 h3 h4 C hD RET => by subst h1 h2 h3 h4; exact wF_X9_goesOnMany_0 C (fun K' => wd_D K' hD) RET  h)
def F_X9_nights_0 (a1 : Int32) (K : Mem) : Option (Int32 × Mem) :=
  bd (C_X9_isIn (Int32.toInt64 a1) 1 100) fun r2 =>
  if r2 = 0 then (
    some ((-1000000001), K)
  ) else (
    gd (inb 7 3058) <|
    nm (K 1 (Int32.toNatClampNeg 7)) fun v5 =>
    gd (inb 2 3058) <|
    nm (9999 - (K 1 (Int32.toNatClampNeg 2))) fun v7 =>
    if v7 ≤ a1 then (
      bd (C_X9_goesOnMany v7 K) fun K10 =>
      gd (inb 7 3058) <|
      some ((K10 1 (Int32.toNatClampNeg 7)) - v5, K10)
    ) else (
      bd (C_X9_goesOnMany a1 K) fun K13 =>
      gd (inb 7 3058) <|
      some ((K13 1 (Int32.toNatClampNeg 7)) - v5, K13)
    )
  )
set_option maxRecDepth 100000 in
set_option maxHeartbeats 4000000 in
theorem wF_X9_nights_0 {G : Ctx} {ad : Nat → Nat} (C : Cx G RX9 cX9_nights 4 7 157) (hD : ∀ K, va_D (gA G) (wd (gC G) ad K 0 shsR)) {res : (Int32 × Mem)} (RET : RI G cX9_nights 4 (wd (gC G) ad res.2 0 shsR) res.1) {a1 : Int32} {K : Mem} (h : F_X9_nights_0 a1 K = some res) : V G 4 (wd (gC G) ad K 0 shsR) 0 [(0, .ref (ad 0)), (1, .int a1)] [] := by
  unfold F_X9_nights_0 at h
  refine v_iload_n C dX9_nights_0 rfl rfl 1 rfl ?_
  refine v_i2l C dX9_nights_1 rfl ?_
  refine v_lconst C dX9_nights_2 rfl (v := 1) (by decide) ?_
  refine v_ldc2 C dX9_nights_3 rfl m_1074 ?_
  obtain ⟨r2, e1, h⟩ := bdS h
  refine v_callSi C ys_X9_isIn m_949 (c_X9_isIn e1) (Sub.whole hD _ _) (As := [.long (Int32.toInt64 a1), .long 1, .long 100]) rfl rfl (Nat.le_of_ble_eq_true rfl) ⟨Nat.le_of_ble_eq_true rfl, Nat.le_of_ble_eq_true rfl⟩ dX9_nights_6 rfl ?_
  refine v_if_ne C dX9_nights_9 (tgt := 15) (by decide) rfl (fun c3 => ?_) (fun c3 => ?_)
  · have h := ifn c3 h
    refine v_aload_n C dX9_nights_15 rfl rfl 0 rfl ?_
    refine v_getr C dX9_nights_16 rfl ff_X9_7 sr_0 rfl ?_
    refine v_bipush C dX9_nights_19 rfl bi_7 ?_
    obtain ⟨b4, h⟩ := gdS h
    refine v_iald C dX9_nights_21 rfl sr_1 b4 ?_
    obtain ⟨v5, ev5, h⟩ := nmS h
    refine v_nmi ev5 ?_
    refine v_istore_n C dX9_nights_22 rfl rfl (by decide) (L' := [(2, .int v5), (0, .ref (ad 0)), (1, .int a1)]) rfl ?_
    refine v_sipush C dX9_nights_23 rfl si_9999 ?_
    refine v_aload_n C dX9_nights_26 rfl rfl 1 rfl ?_
    refine v_getr C dX9_nights_27 rfl ff_X9_7 sr_0 rfl ?_
    refine v_iconst C dX9_nights_30 rfl ic_2 ?_
    obtain ⟨b6, h⟩ := gdS h
    refine v_iald C dX9_nights_31 rfl sr_1 b6 ?_
    refine v_isub C dX9_nights_32 rfl ?_
    obtain ⟨v7, ev7, h⟩ := nmS h
    refine v_nmi ev7 ?_
    refine v_istore_n C dX9_nights_33 rfl rfl (by decide) (L' := [(3, .int v7), (2, .int v5), (0, .ref (ad 0)), (1, .int a1)]) rfl ?_
    refine v_aload_n C dX9_nights_34 rfl rfl 2 rfl ?_
    refine v_iload_n C dX9_nights_35 rfl rfl 3 rfl ?_
    refine v_iload_n C dX9_nights_36 rfl rfl 0 rfl ?_
    refine v_icmp_ge C dX9_nights_37 (tgt := 44) (by decide) rfl (fun c8 => ?_) (fun c8 => ?_)
    · have h := ifp c8 h
      refine v_iload_n C dX9_nights_44 rfl rfl 0 rfl ?_
      obtain ⟨K10, e9, h⟩ := bdS h
      refine v_callVv C yv_X9_goesOnMany m_1093 (c_X9_goesOnMany e9) (Sub.whole hD _ _) ⟨_, _, _, _, _, wd_at sr_0, rfl⟩ (As := [.int v7]) rfl rfl (Nat.le_of_ble_eq_true rfl) ⟨Nat.le_of_ble_eq_true rfl, Nat.le_of_ble_eq_true rfl⟩ dX9_nights_45 rfl ?_
      refine v_aload_n C dX9_nights_48 rfl rfl 2 rfl ?_
      refine v_getr C dX9_nights_49 rfl ff_X9_7 sr_0 rfl ?_
      refine v_bipush C dX9_nights_52 rfl bi_7 ?_
      obtain ⟨b11, h⟩ := gdS h
      refine v_iald C dX9_nights_54 rfl sr_1 b11 ?_
      refine v_iload_n C dX9_nights_55 rfl rfl 1 rfl ?_
      refine v_isub C dX9_nights_56 rfl ?_
      obtain rfl := Option.some.inj h
      exact RET _ _ dX9_nights_57
    · have h := ifn c8 h
      refine v_iload_n C dX9_nights_40 rfl rfl 3 rfl ?_
      refine v_goto C dX9_nights_41 (tgt := 45) (by decide) ?_
      obtain ⟨K13, e12, h⟩ := bdS h
      refine v_callVv C yv_X9_goesOnMany m_1093 (c_X9_goesOnMany e12) (Sub.whole hD _ _) ⟨_, _, _, _, _, wd_at sr_0, rfl⟩ (As := [.int a1]) rfl rfl (Nat.le_of_ble_eq_true rfl) ⟨Nat.le_of_ble_eq_true rfl, Nat.le_of_ble_eq_true rfl⟩ dX9_nights_45 rfl ?_
      refine v_aload_n C dX9_nights_48 rfl rfl 2 rfl ?_
      refine v_getr C dX9_nights_49 rfl ff_X9_7 sr_0 rfl ?_
      refine v_bipush C dX9_nights_52 rfl bi_7 ?_
      obtain ⟨b14, h⟩ := gdS h
      refine v_iald C dX9_nights_54 rfl sr_1 b14 ?_
      refine v_iload_n C dX9_nights_55 rfl rfl 1 rfl ?_
      refine v_isub C dX9_nights_56 rfl ?_
      obtain rfl := Option.some.inj h
      exact RET _ _ dX9_nights_57
  · have h := ifp c3 h
    refine v_ldc C dX9_nights_12 rfl m_953 ?_
    obtain rfl := Option.some.inj h
    exact RET _ _ dX9_nights_14
def C_X9_nights (a1 : Int32) (K : Mem) : Option (Int32 × Mem) := F_X9_nights_0 a1 K
set_option maxRecDepth 100000 in
theorem c_X9_nights {l : Launch} {D : va_G} {cA : FieldType → ClassId} {X : Ex} {ad : Nat → Nat} {a1 : Int32} {K : Mem} {r : Int32} {K' : Mem} (h : C_X9_nights a1 K = some (r, K')) : MI l D cA X yX9_nights cX9_nights 4 (some .int) 7 157 [.ref (ad 0), .int a1] (wd cA ad K 0 shsR) (wd cA ad K' 0 shsR) r :=
  mI_of (by decide +kernel) (Nat.le_of_ble_eq_true rfl) (fun G h1 h2 h3 h4 C hD RET => by subst h1 h2 h3 h4; exact wF_X9_nights_0 C (fun K' => wd_D K' hD) RET  h)
def F_X9_lostOfAll_4 (k4 : Int32 → Int32 → Option Int32) (K : Mem) (a1 : Int32) (a2 : Int32) : Option Int32 :=
  gd (inb 0 3058) <|
  if (K 1 (Int32.toNatClampNeg 0)) ≤ a2 then (
    some a1
  ) else (
    bd (C_X9_of K a2 3) fun r4 =>
    bd (C_X9_bits r4) fun r6 =>
    nm (a1 + r6) fun v7 =>
    nm (a2 + 1) fun v8 =>
    k4 v7 v8
  )
def L_X9_lostOfAll_4 (K : Mem) : Nat → Int32 → Int32 → Option Int32
  | 0, _, _ => none
  | n + 1, a1, a2 => F_X9_lostOfAll_4 (fun a1 a2 => L_X9_lostOfAll_4 K n a1 a2) K a1 a2
set_option maxRecDepth 100000 in
set_option maxHeartbeats 4000000 in
theorem wF_X9_lostOfAll_4 {G : Ctx} {ad : Nat → Nat} {K : Mem} {k4 : Int32 → Int32 → Option Int32} (C : Cx G RX9 cX9_lostOfAll 3 1 22) (hD : ∀ K, va_D (gA G) (wd (gC G) ad K 0 shsR)) {res : Int32} (RET : RI G cX9_lostOfAll 3 (wd (gC G) ad K 0 shsR) res) (hk4 : ∀ {a1 : Int32} {a2 : Int32} , k4 a1 a2 = some res → V G 3 (wd (gC G) ad K 0 shsR) 4 [(0, .ref (ad 0)), (1, .int a1), (2, .int a2)] []) {a1 : Int32} {a2 : Int32} (h : F_X9_lostOfAll_4 k4 K a1 a2 = some res) : V G 3 (wd (gC G) ad K 0 shsR) 4 [(0, .ref (ad 0)), (1, .int a1), (2, .int a2)] [] := by
  unfold F_X9_lostOfAll_4 at h
  refine v_iload_n C dX9_lostOfAll_4 rfl rfl 2 rfl ?_
  refine v_aload_n C dX9_lostOfAll_5 rfl rfl 0 rfl ?_
  refine v_getr C dX9_lostOfAll_6 rfl ff_X9_7 sr_0 rfl ?_
  refine v_iconst C dX9_lostOfAll_9 rfl ic_0 ?_
  obtain ⟨b1, h⟩ := gdS h
  refine v_iald C dX9_lostOfAll_10 rfl sr_1 b1 ?_
  refine v_icmp_ge C dX9_lostOfAll_11 (tgt := 32) (by decide) rfl (fun c2 => ?_) (fun c2 => ?_)
  · have h := ifp c2 h
    refine v_iload_n C dX9_lostOfAll_32 rfl rfl 1 rfl ?_
    obtain rfl := Option.some.inj h
    exact RET _ _ dX9_lostOfAll_33
  · have h := ifn c2 h
    refine v_iload_n C dX9_lostOfAll_14 rfl rfl 1 rfl ?_
    refine v_aload_n C dX9_lostOfAll_15 rfl rfl 0 rfl ?_
    refine v_iload_n C dX9_lostOfAll_16 rfl rfl 2 rfl ?_
    refine v_iconst C dX9_lostOfAll_17 rfl ic_3 ?_
    obtain ⟨r4, e3, h⟩ := bdS h
    refine v_callVi C yv_X9_of m_980 (c_X9_of e3) (Sub.whole hD _ _) ⟨_, _, _, _, _, wd_at sr_0, rfl⟩ (As := [.int a2, .int 3]) rfl rfl (Nat.le_of_ble_eq_true rfl) ⟨Nat.le_of_ble_eq_true rfl, Nat.le_of_ble_eq_true rfl⟩ dX9_lostOfAll_18 rfl ?_
    obtain ⟨r6, e5, h⟩ := bdS h
    refine v_callSi C ys_X9_bits m_1122 (c_X9_bits e5) (Sub.whole hD _ _) (As := [.int r4]) rfl rfl (Nat.le_of_ble_eq_true rfl) ⟨Nat.le_of_ble_eq_true rfl, Nat.le_of_ble_eq_true rfl⟩ dX9_lostOfAll_21 rfl ?_
    refine v_iadd C dX9_lostOfAll_24 rfl ?_
    obtain ⟨v7, ev7, h⟩ := nmS h
    refine v_nmi ev7 ?_
    refine v_istore_n C dX9_lostOfAll_25 rfl rfl (by decide) (L' := [(1, .int v7), (0, .ref (ad 0)), (2, .int a2)]) rfl ?_
    obtain ⟨v8, ev8, h⟩ := nmS h
    refine v_iinc C dX9_lostOfAll_26 rfl 2 rfl (v := v8) (by rw [ev8]; rfl) (by decide) (L' := [(2, .int v8), (1, .int v7), (0, .ref (ad 0))]) rfl ?_
    refine v_goto C dX9_lostOfAll_29 (tgt := 4) (by decide) ?_
    refine v_sub [2, 1, 0] rfl ?_
    exact hk4 h
theorem wL_X9_lostOfAll_4 {G : Ctx} {ad : Nat → Nat} {K : Mem} (C : Cx G RX9 cX9_lostOfAll 3 1 22) (hD : ∀ K, va_D (gA G) (wd (gC G) ad K 0 shsR)) {res : Int32} (RET : RI G cX9_lostOfAll 3 (wd (gC G) ad K 0 shsR) res) : ∀ (n : Nat) {a1 : Int32} {a2 : Int32} (h : L_X9_lostOfAll_4 K n a1 a2 = some res), V G 3 (wd (gC G) ad K 0 shsR) 4 [(0, .ref (ad 0)), (1, .int a1), (2, .int a2)] [] := by
  intro n
  induction n with
  | zero =>
    intro a1 a2 h
    cases (show (none : Option Int32) = some res from h)
  | succ n ih =>
    intro a1 a2 h
    exact wF_X9_lostOfAll_4 (k4 := fun a1 a2 => L_X9_lostOfAll_4 K n a1 a2) C hD RET (fun h => ih h) h
def F_X9_lostOfAll_0 (K : Mem) : Option Int32 :=
  L_X9_lostOfAll_4 K FU 0 0
set_option maxRecDepth 100000 in
set_option maxHeartbeats 4000000 in
theorem wF_X9_lostOfAll_0 {G : Ctx} {ad : Nat → Nat} {K : Mem} (C : Cx G RX9 cX9_lostOfAll 3 1 22) (hD : ∀ K, va_D (gA G) (wd (gC G) ad K 0 shsR)) {res : Int32} (RET : RI G cX9_lostOfAll 3 (wd (gC G) ad K 0 shsR) res) (h : F_X9_lostOfAll_0 K = some res) : V G 3 (wd (gC G) ad K 0 shsR) 0 [(0, .ref (ad 0))] [] := by
  unfold F_X9_lostOfAll_0 at h
  refine v_iconst C dX9_lostOfAll_0 rfl ic_0 ?_
  refine v_istore_n C dX9_lostOfAll_1 rfl rfl (by decide) (L' := [(1, .int 0), (0, .ref (ad 0))]) rfl ?_
  refine v_iconst C dX9_lostOfAll_2 rfl ic_0 ?_
  refine v_istore_n C dX9_lostOfAll_3 rfl rfl (by decide) (L' := [(2, .int 0), (1, .int 0), (0, .ref (ad 0))]) rfl ?_
  refine v_sub [2, 1, 0] rfl ?_
  exact wL_X9_lostOfAll_4 C hD RET FU h
def C_X9_lostOfAll (K : Mem) : Option Int32 := F_X9_lostOfAll_0 K
set_option maxRecDepth 100000 in
theorem c_X9_lostOfAll {l : Launch} {D : va_G} {cA : FieldType → ClassId} {X : Ex} {ad : Nat → Nat} {K : Mem} {r : Int32} (h : C_X9_lostOfAll K = some r) : MI l D cA X yX9_lostOfAll cX9_lostOfAll 3 (some .int) 1 22 [.ref (ad 0)] (wd cA ad K 0 shsR) (wd cA ad K 0 shsR) r :=
  mI_of (by decide +kernel) (Nat.le_of_ble_eq_true rfl) (fun G h1 h2 h3 h4 C hD RET => by subst h1 h2 h3 h4; exact wF_X9_lostOfAll_0 C (fun K' => wd_D K' hD) RET  h)
def F_X9_town_0 (a1 : Int32) (K : Mem) : Option (Int32 × Mem) :=
  bd (C_X9_isIn (Int32.toInt64 a1) 0 4) fun r2 =>
  if r2 = 0 then (
    some ((-1000000001), K)
  ) else (
    if 3 ≤ a1 then (
      if a1 = 3 then (
        bd2 (C_X9_holds K) fun r10 K9 =>
        some (r10, K9)
      ) else (
        bd (C_X9_lostOfAll K) fun r7 =>
        some (r7, K)
      )
    ) else (
      gd (inb (6 + a1) 3058) <|
      some (K 1 (Int32.toNatClampNeg (6 + a1)), K)
    )
  )
set_option maxRecDepth 100000 in
set_option maxHeartbeats 4000000 in
theorem wF_X9_town_0 {G : Ctx} {ad : Nat → Nat} (C : Cx G RX9 cX9_town 2 3 69) (hD : ∀ K, va_D (gA G) (wd (gC G) ad K 0 shsR)) {res : (Int32 × Mem)} (RET : RI G cX9_town 2 (wd (gC G) ad res.2 0 shsR) res.1) {a1 : Int32} {K : Mem} (h : F_X9_town_0 a1 K = some res) : V G 2 (wd (gC G) ad K 0 shsR) 0 [(0, .ref (ad 0)), (1, .int a1)] [] := by
  unfold F_X9_town_0 at h
  refine v_iload_n C dX9_town_0 rfl rfl 1 rfl ?_
  refine v_i2l C dX9_town_1 rfl ?_
  refine v_lconst C dX9_town_2 rfl (v := 0) (by decide) ?_
  refine v_ldc2 C dX9_town_3 rfl m_1117 ?_
  obtain ⟨r2, e1, h⟩ := bdS h
  refine v_callSi C ys_X9_isIn m_949 (c_X9_isIn e1) (Sub.whole hD _ _) (As := [.long (Int32.toInt64 a1), .long 0, .long 4]) rfl rfl (Nat.le_of_ble_eq_true rfl) ⟨Nat.le_of_ble_eq_true rfl, Nat.le_of_ble_eq_true rfl⟩ dX9_town_6 rfl ?_
  refine v_if_ne C dX9_town_9 (tgt := 15) (by decide) rfl (fun c3 => ?_) (fun c3 => ?_)
  · have h := ifn c3 h
    refine v_iload_n C dX9_town_15 rfl rfl 1 rfl ?_
    refine v_iconst C dX9_town_16 rfl ic_3 ?_
    refine v_icmp_ge C dX9_town_17 (tgt := 32) (by decide) rfl (fun c4 => ?_) (fun c4 => ?_)
    · have h := ifp c4 h
      refine v_iload_n C dX9_town_32 rfl rfl 1 rfl ?_
      refine v_iconst C dX9_town_33 rfl ic_3 ?_
      refine v_icmp_ne C dX9_town_34 (tgt := 44) (by decide) rfl (fun c5 => ?_) (fun c5 => ?_)
      · have h := ifn c5 h
        refine v_aload_n C dX9_town_44 rfl rfl 0 rfl ?_
        obtain ⟨r7, e6, h⟩ := bdS h
        refine v_callVi C yv_X9_lostOfAll m_1118 (c_X9_lostOfAll e6) (Sub.whole hD _ _) ⟨_, _, _, _, _, wd_at sr_0, rfl⟩ (As := []) rfl rfl (Nat.le_of_ble_eq_true rfl) ⟨Nat.le_of_ble_eq_true rfl, Nat.le_of_ble_eq_true rfl⟩ dX9_town_45 rfl ?_
        obtain rfl := Option.some.inj h
        exact RET _ _ dX9_town_48
      · have h := ifp c5 h
        refine v_aload_n C dX9_town_37 rfl rfl 0 rfl ?_
        obtain ⟨r10, K9, e8, h⟩ := bd2S h
        refine v_callVi C yv_X9_holds m_976 (c_X9_holds e8) (Sub.whole hD _ _) ⟨_, _, _, _, _, wd_at sr_0, rfl⟩ (As := []) rfl rfl (Nat.le_of_ble_eq_true rfl) ⟨Nat.le_of_ble_eq_true rfl, Nat.le_of_ble_eq_true rfl⟩ dX9_town_38 rfl ?_
        refine v_goto C dX9_town_41 (tgt := 48) (by decide) ?_
        obtain rfl := Option.some.inj h
        exact RET _ _ dX9_town_48
    · have h := ifn c4 h
      refine v_aload_n C dX9_town_20 rfl rfl 0 rfl ?_
      refine v_getr C dX9_town_21 rfl ff_X9_7 sr_0 rfl ?_
      refine v_bipush C dX9_town_24 rfl bi_6 ?_
      refine v_iload_n C dX9_town_26 rfl rfl 1 rfl ?_
      refine v_iadd C dX9_town_27 rfl ?_
      obtain ⟨b11, h⟩ := gdS h
      refine v_iald C dX9_town_28 rfl sr_1 b11 ?_
      refine v_goto C dX9_town_29 (tgt := 48) (by decide) ?_
      obtain rfl := Option.some.inj h
      exact RET _ _ dX9_town_48
  · have h := ifp c3 h
    refine v_ldc C dX9_town_12 rfl m_953 ?_
    obtain rfl := Option.some.inj h
    exact RET _ _ dX9_town_14
def C_X9_town (a1 : Int32) (K : Mem) : Option (Int32 × Mem) := F_X9_town_0 a1 K
set_option maxRecDepth 100000 in
theorem c_X9_town {l : Launch} {D : va_G} {cA : FieldType → ClassId} {X : Ex} {ad : Nat → Nat} {a1 : Int32} {K : Mem} {r : Int32} {K' : Mem} (h : C_X9_town a1 K = some (r, K')) : MI l D cA X yX9_town cX9_town 2 (some .int) 3 69 [.ref (ad 0), .int a1] (wd cA ad K 0 shsR) (wd cA ad K' 0 shsR) r :=
  mI_of (by decide +kernel) (Nat.le_of_ble_eq_true rfl) (fun G h1 h2 h3 h4 C hD RET => by subst h1 h2 h3 h4; exact wF_X9_town_0 C (fun K' => wd_D K' hD) RET  h)
def F_X9_isHeld_0 (K : Mem) (a1 : Int32) (a2 : Int32) : Option Int32 :=
  gd (inb a1 12) <|
  bd (C_X9_isAmong (K 12 (Int32.toNatClampNeg a1)) a2) fun r3 =>
  gd (z01 r3) <|
  some r3
set_option maxRecDepth 100000 in
set_option maxHeartbeats 4000000 in
theorem wF_X9_isHeld_0 {G : Ctx} {ad : Nat → Nat} {K : Mem} (C : Cx G RX9 cX9_isHeld 3 1 21) (hD : ∀ K, va_D (gA G) (wd (gC G) ad K 0 shsR)) {res : Int32} (RET : RZ G cX9_isHeld 3 (wd (gC G) ad K 0 shsR) res) {a1 : Int32} {a2 : Int32} (h : F_X9_isHeld_0 K a1 a2 = some res) : V G 3 (wd (gC G) ad K 0 shsR) 0 [(0, .ref (ad 0)), (1, .int a1), (2, .int a2)] [] := by
  unfold F_X9_isHeld_0 at h
  refine v_aload_n C dX9_isHeld_0 rfl rfl 0 rfl ?_
  refine v_getr C dX9_isHeld_1 rfl ff_X9_43 sr_0 rfl ?_
  refine v_iload_n C dX9_isHeld_4 rfl rfl 1 rfl ?_
  obtain ⟨b1, h⟩ := gdS h
  refine v_iald C dX9_isHeld_5 rfl sr_12 b1 ?_
  refine v_iload_n C dX9_isHeld_6 rfl rfl 2 rfl ?_
  obtain ⟨r3, e2, h⟩ := bdS h
  refine v_callSi C ys_X9_isAmong m_984 (c_X9_isAmong e2) (Sub.whole hD _ _) (As := [.int (K 12 (Int32.toNatClampNeg a1)), .int a2]) rfl rfl (Nat.le_of_ble_eq_true rfl) ⟨Nat.le_of_ble_eq_true rfl, Nat.le_of_ble_eq_true rfl⟩ dX9_isHeld_7 rfl ?_
  obtain ⟨b4, h⟩ := gdS h
  obtain rfl := Option.some.inj h
  exact RET _ _ dX9_isHeld_10 (z01S b4)
def C_X9_isHeld (K : Mem) (a1 : Int32) (a2 : Int32) : Option Int32 := F_X9_isHeld_0 K a1 a2
set_option maxRecDepth 100000 in
theorem c_X9_isHeld {l : Launch} {D : va_G} {cA : FieldType → ClassId} {X : Ex} {ad : Nat → Nat} {a1 : Int32} {a2 : Int32} {K : Mem} {r : Int32} (h : C_X9_isHeld K a1 a2 = some r) : MI l D cA X yX9_isHeld cX9_isHeld 3 (some .boolean) 1 21 [.ref (ad 0), .int a1, .int a2] (wd cA ad K 0 shsR) (wd cA ad K 0 shsR) r :=
  mZ_of (by decide +kernel) (Nat.le_of_ble_eq_true rfl) (fun G h1 h2 h3 h4 C hD RET => by subst h1 h2 h3 h4; exact wF_X9_isHeld_0 C (fun K' => wd_D K' hD) RET  h)
def F_X9_comesTo_28 (a1 : Int32) (a2 : Int32) (a3 : Int32) (t0 : Int32) (K : Mem) : Option (Int32 × Mem) :=
  if t0 = 0 then (
    gd (z01 t0) <|
    some (t0, K)
  ) else (
    gd (inb ((8 * a1) + a2) 96) <|
    nm (up K 13 (Int32.toNatClampNeg ((8 * a1) + a2)) a3) fun K9 =>
    gd (z01 t0) <|
    some (t0, K9)
  )
set_option maxRecDepth 100000 in
set_option maxHeartbeats 4000000 in
theorem wF_X9_comesTo_28 {G : Ctx} {ad : Nat → Nat} (C : Cx G RX9 cX9_comesTo 5 2 43) (hD : ∀ K, va_D (gA G) (wd (gC G) ad K 0 shsR)) {res : (Int32 × Mem)} (RET : RZ G cX9_comesTo 5 (wd (gC G) ad res.2 0 shsR) res.1) {a1 : Int32} {a2 : Int32} {a3 : Int32} {t0 : Int32} {K : Mem} (h : F_X9_comesTo_28 a1 a2 a3 t0 K = some res) : V G 5 (wd (gC G) ad K 0 shsR) 28 [(0, .ref (ad 0)), (1, .int a1), (2, .int a2), (3, .int a3)] [.int t0] := by
  unfold F_X9_comesTo_28 at h
  refine v_istore C dX9_comesTo_28 rfl (by decide) (L' := [(4, .int t0), (0, .ref (ad 0)), (1, .int a1), (2, .int a2), (3, .int a3)]) rfl ?_
  refine v_iload C dX9_comesTo_30 rfl 0 rfl ?_
  refine v_if_eq C dX9_comesTo_32 (tgt := 47) (by decide) rfl (fun c6 => ?_) (fun c6 => ?_)
  · have h := ifp c6 h
    refine v_iload C dX9_comesTo_47 rfl 0 rfl ?_
    obtain ⟨b7, h⟩ := gdS h
    obtain rfl := Option.some.inj h
    exact RET _ _ dX9_comesTo_49 (z01S b7)
  · have h := ifn c6 h
    refine v_aload_n C dX9_comesTo_35 rfl rfl 1 rfl ?_
    refine v_getr C dX9_comesTo_36 rfl ff_X9_46 sr_0 rfl ?_
    refine v_bipush C dX9_comesTo_39 rfl bi_8 ?_
    refine v_iload_n C dX9_comesTo_41 rfl rfl 2 rfl ?_
    refine v_imul C dX9_comesTo_42 rfl ?_
    refine v_iload_n C dX9_comesTo_43 rfl rfl 3 rfl ?_
    refine v_iadd C dX9_comesTo_44 rfl ?_
    refine v_iload_n C dX9_comesTo_45 rfl rfl 4 rfl ?_
    obtain ⟨b8, h⟩ := gdS h
    obtain ⟨K9, eK9, h⟩ := nmS h
    refine v_iast C hD dX9_comesTo_46 rfl sr_13 b8 eK9 ?_
    refine v_iload C dX9_comesTo_47 rfl 0 rfl ?_
    obtain ⟨b10, h⟩ := gdS h
    obtain rfl := Option.some.inj h
    exact RET _ _ dX9_comesTo_49 (z01S b10)
def F_X9_comesTo_0 (a1 : Int32) (a2 : Int32) (a3 : Int32) (K : Mem) : Option (Int32 × Mem) :=
  bd (C_X9_isHeld K a1 a2) fun r2 =>
  if r2 = 0 then (
    F_X9_comesTo_28 a1 a2 a3 0 K
  ) else (
    gd (inb ((8 * a1) + a2) 96) <|
    if 0 ≤ (K 13 (Int32.toNatClampNeg ((8 * a1) + a2))) then (
      F_X9_comesTo_28 a1 a2 a3 0 K
    ) else (
      F_X9_comesTo_28 a1 a2 a3 1 K
    )
  )
set_option maxRecDepth 100000 in
set_option maxHeartbeats 4000000 in
theorem wF_X9_comesTo_0 {G : Ctx} {ad : Nat → Nat} (C : Cx G RX9 cX9_comesTo 5 2 43) (hD : ∀ K, va_D (gA G) (wd (gC G) ad K 0 shsR)) {res : (Int32 × Mem)} (RET : RZ G cX9_comesTo 5 (wd (gC G) ad res.2 0 shsR) res.1) {a1 : Int32} {a2 : Int32} {a3 : Int32} {K : Mem} (h : F_X9_comesTo_0 a1 a2 a3 K = some res) : V G 5 (wd (gC G) ad K 0 shsR) 0 [(0, .ref (ad 0)), (1, .int a1), (2, .int a2), (3, .int a3)] [] := by
  unfold F_X9_comesTo_0 at h
  refine v_aload_n C dX9_comesTo_0 rfl rfl 0 rfl ?_
  refine v_iload_n C dX9_comesTo_1 rfl rfl 1 rfl ?_
  refine v_iload_n C dX9_comesTo_2 rfl rfl 2 rfl ?_
  obtain ⟨r2, e1, h⟩ := bdS h
  refine v_callVi C yv_X9_isHeld m_1137 (c_X9_isHeld e1) (Sub.whole hD _ _) ⟨_, _, _, _, _, wd_at sr_0, rfl⟩ (As := [.int a1, .int a2]) rfl rfl (Nat.le_of_ble_eq_true rfl) ⟨Nat.le_of_ble_eq_true rfl, Nat.le_of_ble_eq_true rfl⟩ dX9_comesTo_3 rfl ?_
  refine v_if_eq C dX9_comesTo_6 (tgt := 27) (by decide) rfl (fun c3 => ?_) (fun c3 => ?_)
  · have h := ifp c3 h
    refine v_iconst C dX9_comesTo_27 rfl ic_0 ?_
    exact wF_X9_comesTo_28 C hD RET h
  · have h := ifn c3 h
    refine v_aload_n C dX9_comesTo_9 rfl rfl 0 rfl ?_
    refine v_getr C dX9_comesTo_10 rfl ff_X9_46 sr_0 rfl ?_
    refine v_bipush C dX9_comesTo_13 rfl bi_8 ?_
    refine v_iload_n C dX9_comesTo_15 rfl rfl 1 rfl ?_
    refine v_imul C dX9_comesTo_16 rfl ?_
    refine v_iload_n C dX9_comesTo_17 rfl rfl 2 rfl ?_
    refine v_iadd C dX9_comesTo_18 rfl ?_
    obtain ⟨b4, h⟩ := gdS h
    refine v_iald C dX9_comesTo_19 rfl sr_13 b4 ?_
    refine v_if_ge C dX9_comesTo_20 (tgt := 27) (by decide) rfl (fun c5 => ?_) (fun c5 => ?_)
    · have h := ifp c5 h
      refine v_iconst C dX9_comesTo_27 rfl ic_0 ?_
      exact wF_X9_comesTo_28 C hD RET h
    · have h := ifn c5 h
      refine v_iconst C dX9_comesTo_23 rfl ic_1 ?_
      refine v_goto C dX9_comesTo_24 (tgt := 28) (by decide) ?_
      exact wF_X9_comesTo_28 C hD RET h
def C_X9_comesTo (a1 : Int32) (a2 : Int32) (a3 : Int32) (K : Mem) : Option (Int32 × Mem) := F_X9_comesTo_0 a1 a2 a3 K
set_option maxRecDepth 100000 in
theorem c_X9_comesTo {l : Launch} {D : va_G} {cA : FieldType → ClassId} {X : Ex} {ad : Nat → Nat} {a1 : Int32} {a2 : Int32} {a3 : Int32} {K : Mem} {r : Int32} {K' : Mem} (h : C_X9_comesTo a1 a2 a3 K = some (r, K')) : MI l D cA X yX9_comesTo cX9_comesTo 5 (some .boolean) 2 43 [.ref (ad 0), .int a1, .int a2, .int a3] (wd cA ad K 0 shsR) (wd cA ad K' 0 shsR) r :=
  mZ_of (by decide +kernel) (Nat.le_of_ble_eq_true rfl) (fun G h1 h2 h3 h4 C hD RET => by subst h1 h2 h3 h4; exact wF_X9_comesTo_0 C (fun K' => wd_D K' hD) RET  h)
def F_X9_stepsFrom_94 (k54 : Int32 → Int32 → Int32 → Int32 → Int32 → Mem → Option (Int32 × Mem)) (a1 : Int32) (a2 : Int32) (a3 : Int32) (a4 : Int32) (a5 : Int32) (K : Mem) : Option (Int32 × Mem) :=
  gd (inb 0 3058) <|
  if ((K 1 (Int32.toNatClampNeg 0)) - 1) ≤ a1 then (
    nm (a5 + 1) fun v28 =>
    k54 a1 a2 a3 a4 v28 K
  ) else (
    bd (C_X9_hangs K (a1 + 1) a5) fun r30 =>
    bd (C_X9_isAmong r30 a2) fun r32 =>
    if r32 = 0 then (
      nm (a5 + 1) fun v34 =>
      k54 a1 a2 a3 a4 v34 K
    ) else (
      bd2 (C_X9_comesTo (a1 + 1) a5 a3 K) fun r37 K36 =>
      nm (a4 ||| r37) fun v38 =>
      nm (a5 + 1) fun v39 =>
      k54 a1 a2 a3 v38 v39 K36
    )
  )
set_option maxRecDepth 100000 in
set_option maxHeartbeats 4000000 in
theorem wF_X9_stepsFrom_94 {G : Ctx} {ad : Nat → Nat} {k54 : Int32 → Int32 → Int32 → Int32 → Int32 → Mem → Option (Int32 × Mem)} (C : Cx G RX9 cX9_stepsFrom 6 3 67) (hD : ∀ K, va_D (gA G) (wd (gC G) ad K 0 shsR)) {res : (Int32 × Mem)} (RET : RZ G cX9_stepsFrom 6 (wd (gC G) ad res.2 0 shsR) res.1) (hk54 : ∀ {a1 : Int32} {a2 : Int32} {a3 : Int32} {a4 : Int32} {a5 : Int32} {K : Mem} , k54 a1 a2 a3 a4 a5 K = some res → V G 6 (wd (gC G) ad K 0 shsR) 54 [(0, .ref (ad 0)), (1, .int a1), (2, .int a2), (3, .int a3), (4, .int a4), (5, .int a5)] []) {a1 : Int32} {a2 : Int32} {a3 : Int32} {a4 : Int32} {a5 : Int32} {K : Mem} (h : F_X9_stepsFrom_94 k54 a1 a2 a3 a4 a5 K = some res) : V G 6 (wd (gC G) ad K 0 shsR) 94 [(0, .ref (ad 0)), (1, .int a1), (2, .int a2), (3, .int a3), (4, .int a4), (5, .int a5)] [] := by
  unfold F_X9_stepsFrom_94 at h
  refine v_iload_n C dX9_stepsFrom_94 rfl rfl 1 rfl ?_
  refine v_aload_n C dX9_stepsFrom_95 rfl rfl 0 rfl ?_
  refine v_getr C dX9_stepsFrom_96 rfl ff_X9_7 sr_0 rfl ?_
  refine v_iconst C dX9_stepsFrom_99 rfl ic_0 ?_
  obtain ⟨b26, h⟩ := gdS h
  refine v_iald C dX9_stepsFrom_100 rfl sr_1 b26 ?_
  refine v_iconst C dX9_stepsFrom_101 rfl ic_1 ?_
  refine v_isub C dX9_stepsFrom_102 rfl ?_
  refine v_icmp_ge C dX9_stepsFrom_103 (tgt := 137) (by decide) rfl (fun c27 => ?_) (fun c27 => ?_)
  · have h := ifp c27 h
    obtain ⟨v28, ev28, h⟩ := nmS h
    refine v_iinc C dX9_stepsFrom_137 rfl 5 rfl (v := v28) (by rw [ev28]; rfl) (by decide) (L' := [(5, .int v28), (0, .ref (ad 0)), (1, .int a1), (2, .int a2), (3, .int a3), (4, .int a4)]) rfl ?_
    refine v_goto C dX9_stepsFrom_140 (tgt := 54) (by decide) ?_
    refine v_sub [1, 2, 3, 4, 5, 0] rfl ?_
    exact hk54 h
  · have h := ifn c27 h
    refine v_aload_n C dX9_stepsFrom_106 rfl rfl 0 rfl ?_
    refine v_iload_n C dX9_stepsFrom_107 rfl rfl 1 rfl ?_
    refine v_iconst C dX9_stepsFrom_108 rfl ic_1 ?_
    refine v_iadd C dX9_stepsFrom_109 rfl ?_
    refine v_iload C dX9_stepsFrom_110 rfl 5 rfl ?_
    obtain ⟨r30, e29, h⟩ := bdS h
    refine v_callVi C yv_X9_hangs m_987 (c_X9_hangs e29) (Sub.whole hD _ _) ⟨_, _, _, _, _, wd_at sr_0, rfl⟩ (As := [.int (a1 + 1), .int a5]) rfl rfl (Nat.le_of_ble_eq_true rfl) ⟨Nat.le_of_ble_eq_true rfl, Nat.le_of_ble_eq_true rfl⟩ dX9_stepsFrom_112 rfl ?_
    refine v_iload_n C dX9_stepsFrom_115 rfl rfl 2 rfl ?_
    obtain ⟨r32, e31, h⟩ := bdS h
    refine v_callSi C ys_X9_isAmong m_984 (c_X9_isAmong e31) (Sub.whole hD _ _) (As := [.int r30, .int a2]) rfl rfl (Nat.le_of_ble_eq_true rfl) ⟨Nat.le_of_ble_eq_true rfl, Nat.le_of_ble_eq_true rfl⟩ dX9_stepsFrom_116 rfl ?_
    refine v_if_eq C dX9_stepsFrom_119 (tgt := 137) (by decide) rfl (fun c33 => ?_) (fun c33 => ?_)
    · have h := ifp c33 h
      obtain ⟨v34, ev34, h⟩ := nmS h
      refine v_iinc C dX9_stepsFrom_137 rfl 5 rfl (v := v34) (by rw [ev34]; rfl) (by decide) (L' := [(5, .int v34), (0, .ref (ad 0)), (1, .int a1), (2, .int a2), (3, .int a3), (4, .int a4)]) rfl ?_
      refine v_goto C dX9_stepsFrom_140 (tgt := 54) (by decide) ?_
      refine v_sub [1, 2, 3, 4, 5, 0] rfl ?_
      exact hk54 h
    · have h := ifn c33 h
      refine v_iload C dX9_stepsFrom_122 rfl 4 rfl ?_
      refine v_aload_n C dX9_stepsFrom_124 rfl rfl 0 rfl ?_
      refine v_iload_n C dX9_stepsFrom_125 rfl rfl 1 rfl ?_
      refine v_iconst C dX9_stepsFrom_126 rfl ic_1 ?_
      refine v_iadd C dX9_stepsFrom_127 rfl ?_
      refine v_iload C dX9_stepsFrom_128 rfl 5 rfl ?_
      refine v_iload_n C dX9_stepsFrom_130 rfl rfl 3 rfl ?_
      obtain ⟨r37, K36, e35, h⟩ := bd2S h
      refine v_callVi C yv_X9_comesTo m_1133 (c_X9_comesTo e35) (Sub.whole hD _ _) ⟨_, _, _, _, _, wd_at sr_0, rfl⟩ (As := [.int (a1 + 1), .int a5, .int a3]) rfl rfl (Nat.le_of_ble_eq_true rfl) ⟨Nat.le_of_ble_eq_true rfl, Nat.le_of_ble_eq_true rfl⟩ dX9_stepsFrom_131 rfl ?_
      refine v_ior C dX9_stepsFrom_134 rfl ?_
      obtain ⟨v38, ev38, h⟩ := nmS h
      refine v_nmi ev38 ?_
      refine v_istore C dX9_stepsFrom_135 rfl (by decide) (L' := [(4, .int v38), (0, .ref (ad 0)), (1, .int a1), (2, .int a2), (3, .int a3), (5, .int a5)]) rfl ?_
      obtain ⟨v39, ev39, h⟩ := nmS h
      refine v_iinc C dX9_stepsFrom_137 rfl 5 rfl (v := v39) (by rw [ev39]; rfl) (by decide) (L' := [(5, .int v39), (4, .int v38), (0, .ref (ad 0)), (1, .int a1), (2, .int a2), (3, .int a3)]) rfl ?_
      refine v_goto C dX9_stepsFrom_140 (tgt := 54) (by decide) ?_
      refine v_sub [2, 3, 4, 5, 1, 0] rfl ?_
      exact hk54 h
def F_X9_stepsFrom_54 (k54 : Int32 → Int32 → Int32 → Int32 → Int32 → Mem → Option (Int32 × Mem)) (a1 : Int32) (a2 : Int32) (a3 : Int32) (a4 : Int32) (a5 : Int32) (K : Mem) : Option (Int32 × Mem) :=
  if 8 ≤ a5 then (
    gd (z01 a4) <|
    some (a4, K)
  ) else (
    if a1 ≤ 0 then (
      F_X9_stepsFrom_94 k54 a1 a2 a3 a4 a5 K
    ) else (
      bd (C_X9_hangs K a1 a2) fun r18 =>
      bd (C_X9_isAmong r18 a5) fun r20 =>
      if r20 = 0 then (
        F_X9_stepsFrom_94 k54 a1 a2 a3 a4 a5 K
      ) else (
        bd2 (C_X9_comesTo (a1 - 1) a5 a3 K) fun r24 K23 =>
        nm (a4 ||| r24) fun v25 =>
        F_X9_stepsFrom_94 k54 a1 a2 a3 v25 a5 K23
      )
    )
  )
def L_X9_stepsFrom_54 : Nat → Int32 → Int32 → Int32 → Int32 → Int32 → Mem → Option (Int32 × Mem)
  | 0, _, _, _, _, _, _ => none
  | n + 1, a1, a2, a3, a4, a5, K => F_X9_stepsFrom_54 (fun a1 a2 a3 a4 a5 K => L_X9_stepsFrom_54 n a1 a2 a3 a4 a5 K) a1 a2 a3 a4 a5 K
set_option maxRecDepth 100000 in
set_option maxHeartbeats 4000000 in
theorem wF_X9_stepsFrom_54 {G : Ctx} {ad : Nat → Nat} {k54 : Int32 → Int32 → Int32 → Int32 → Int32 → Mem → Option (Int32 × Mem)} (C : Cx G RX9 cX9_stepsFrom 6 3 67) (hD : ∀ K, va_D (gA G) (wd (gC G) ad K 0 shsR)) {res : (Int32 × Mem)} (RET : RZ G cX9_stepsFrom 6 (wd (gC G) ad res.2 0 shsR) res.1) (hk54 : ∀ {a1 : Int32} {a2 : Int32} {a3 : Int32} {a4 : Int32} {a5 : Int32} {K : Mem} , k54 a1 a2 a3 a4 a5 K = some res → V G 6 (wd (gC G) ad K 0 shsR) 54 [(0, .ref (ad 0)), (1, .int a1), (2, .int a2), (3, .int a3), (4, .int a4), (5, .int a5)] []) {a1 : Int32} {a2 : Int32} {a3 : Int32} {a4 : Int32} {a5 : Int32} {K : Mem} (h : F_X9_stepsFrom_54 k54 a1 a2 a3 a4 a5 K = some res) : V G 6 (wd (gC G) ad K 0 shsR) 54 [(0, .ref (ad 0)), (1, .int a1), (2, .int a2), (3, .int a3), (4, .int a4), (5, .int a5)] [] := by
  unfold F_X9_stepsFrom_54 at h
  refine v_iload C dX9_stepsFrom_54 rfl 5 rfl ?_
  refine v_bipush C dX9_stepsFrom_56 rfl bi_8 ?_
  refine v_icmp_ge C dX9_stepsFrom_58 (tgt := 143) (by decide) rfl (fun c14 => ?_) (fun c14 => ?_)
  · have h := ifp c14 h
    refine v_iload C dX9_stepsFrom_143 rfl 4 rfl ?_
    obtain ⟨b15, h⟩ := gdS h
    obtain rfl := Option.some.inj h
    exact RET _ _ dX9_stepsFrom_145 (z01S b15)
  · have h := ifn c14 h
    refine v_iload_n C dX9_stepsFrom_61 rfl rfl 1 rfl ?_
    refine v_if_le C dX9_stepsFrom_62 (tgt := 94) (by decide) rfl (fun c16 => ?_) (fun c16 => ?_)
    · have h := ifp c16 h
      exact wF_X9_stepsFrom_94 C hD RET hk54 h
    · have h := ifn c16 h
      refine v_aload_n C dX9_stepsFrom_65 rfl rfl 0 rfl ?_
      refine v_iload_n C dX9_stepsFrom_66 rfl rfl 1 rfl ?_
      refine v_iload_n C dX9_stepsFrom_67 rfl rfl 2 rfl ?_
      obtain ⟨r18, e17, h⟩ := bdS h
      refine v_callVi C yv_X9_hangs m_987 (c_X9_hangs e17) (Sub.whole hD _ _) ⟨_, _, _, _, _, wd_at sr_0, rfl⟩ (As := [.int a1, .int a2]) rfl rfl (Nat.le_of_ble_eq_true rfl) ⟨Nat.le_of_ble_eq_true rfl, Nat.le_of_ble_eq_true rfl⟩ dX9_stepsFrom_68 rfl ?_
      refine v_iload C dX9_stepsFrom_71 rfl 5 rfl ?_
      obtain ⟨r20, e19, h⟩ := bdS h
      refine v_callSi C ys_X9_isAmong m_984 (c_X9_isAmong e19) (Sub.whole hD _ _) (As := [.int r18, .int a5]) rfl rfl (Nat.le_of_ble_eq_true rfl) ⟨Nat.le_of_ble_eq_true rfl, Nat.le_of_ble_eq_true rfl⟩ dX9_stepsFrom_73 rfl ?_
      refine v_if_eq C dX9_stepsFrom_76 (tgt := 94) (by decide) rfl (fun c21 => ?_) (fun c21 => ?_)
      · have h := ifp c21 h
        exact wF_X9_stepsFrom_94 C hD RET hk54 h
      · have h := ifn c21 h
        refine v_iload C dX9_stepsFrom_79 rfl 4 rfl ?_
        refine v_aload_n C dX9_stepsFrom_81 rfl rfl 0 rfl ?_
        refine v_iload_n C dX9_stepsFrom_82 rfl rfl 1 rfl ?_
        refine v_iconst C dX9_stepsFrom_83 rfl ic_1 ?_
        refine v_isub C dX9_stepsFrom_84 rfl ?_
        refine v_iload C dX9_stepsFrom_85 rfl 5 rfl ?_
        refine v_iload_n C dX9_stepsFrom_87 rfl rfl 3 rfl ?_
        obtain ⟨r24, K23, e22, h⟩ := bd2S h
        refine v_callVi C yv_X9_comesTo m_1133 (c_X9_comesTo e22) (Sub.whole hD _ _) ⟨_, _, _, _, _, wd_at sr_0, rfl⟩ (As := [.int (a1 - 1), .int a5, .int a3]) rfl rfl (Nat.le_of_ble_eq_true rfl) ⟨Nat.le_of_ble_eq_true rfl, Nat.le_of_ble_eq_true rfl⟩ dX9_stepsFrom_88 rfl ?_
        refine v_ior C dX9_stepsFrom_91 rfl ?_
        obtain ⟨v25, ev25, h⟩ := nmS h
        refine v_nmi ev25 ?_
        refine v_istore C dX9_stepsFrom_92 rfl (by decide) (L' := [(4, .int v25), (0, .ref (ad 0)), (1, .int a1), (2, .int a2), (3, .int a3), (5, .int a5)]) rfl ?_
        refine v_sub [1, 2, 3, 4, 0, 5] rfl ?_
        exact wF_X9_stepsFrom_94 C hD RET hk54 h
theorem wL_X9_stepsFrom_54 {G : Ctx} {ad : Nat → Nat} (C : Cx G RX9 cX9_stepsFrom 6 3 67) (hD : ∀ K, va_D (gA G) (wd (gC G) ad K 0 shsR)) {res : (Int32 × Mem)} (RET : RZ G cX9_stepsFrom 6 (wd (gC G) ad res.2 0 shsR) res.1) : ∀ (n : Nat) {a1 : Int32} {a2 : Int32} {a3 : Int32} {a4 : Int32} {a5 : Int32} {K : Mem} (h : L_X9_stepsFrom_54 n a1 a2 a3 a4 a5 K = some res), V G 6 (wd (gC G) ad K 0 shsR) 54 [(0, .ref (ad 0)), (1, .int a1), (2, .int a2), (3, .int a3), (4, .int a4), (5, .int a5)] [] := by
  intro n
  induction n with
  | zero =>
    intro a1 a2 a3 a4 a5 K h
    cases (show (none : Option (Int32 × Mem)) = some res from h)
  | succ n ih =>
    intro a1 a2 a3 a4 a5 K h
    exact wF_X9_stepsFrom_54 (k54 := fun a1 a2 a3 a4 a5 K => L_X9_stepsFrom_54  n a1 a2 a3 a4 a5 K) C hD RET (fun h => ih h) h
def F_X9_stepsFrom_21 (a1 : Int32) (a2 : Int32) (a3 : Int32) (t0 : Int32) (K : Mem) : Option (Int32 × Mem) :=
  if 7 ≤ a2 then (
    nm (t0 ||| 0) fun v7 =>
    L_X9_stepsFrom_54 FU a1 a2 a3 v7 0 K
  ) else (
    bd2 (C_X9_comesTo a1 (a2 + 1) a3 K) fun r10 K9 =>
    if r10 = 0 then (
      nm (t0 ||| 0) fun v12 =>
      L_X9_stepsFrom_54 FU a1 a2 a3 v12 0 K9
    ) else (
      nm (t0 ||| 1) fun v13 =>
      L_X9_stepsFrom_54 FU a1 a2 a3 v13 0 K9
    )
  )
set_option maxRecDepth 100000 in
set_option maxHeartbeats 4000000 in
theorem wF_X9_stepsFrom_21 {G : Ctx} {ad : Nat → Nat} (C : Cx G RX9 cX9_stepsFrom 6 3 67) (hD : ∀ K, va_D (gA G) (wd (gC G) ad K 0 shsR)) {res : (Int32 × Mem)} (RET : RZ G cX9_stepsFrom 6 (wd (gC G) ad res.2 0 shsR) res.1) {a1 : Int32} {a2 : Int32} {a3 : Int32} {t0 : Int32} {K : Mem} (h : F_X9_stepsFrom_21 a1 a2 a3 t0 K = some res) : V G 6 (wd (gC G) ad K 0 shsR) 21 [(0, .ref (ad 0)), (1, .int a1), (2, .int a2), (3, .int a3)] [.int t0] := by
  unfold F_X9_stepsFrom_21 at h
  refine v_istore C dX9_stepsFrom_21 rfl (by decide) (L' := [(4, .int t0), (0, .ref (ad 0)), (1, .int a1), (2, .int a2), (3, .int a3)]) rfl ?_
  refine v_iload C dX9_stepsFrom_23 rfl 0 rfl ?_
  refine v_iload_n C dX9_stepsFrom_25 rfl rfl 3 rfl ?_
  refine v_bipush C dX9_stepsFrom_26 rfl bi_7 ?_
  refine v_icmp_ge C dX9_stepsFrom_28 (tgt := 47) (by decide) rfl (fun c6 => ?_) (fun c6 => ?_)
  · have h := ifp c6 h
    refine v_iconst C dX9_stepsFrom_47 rfl ic_0 ?_
    refine v_ior C dX9_stepsFrom_48 rfl ?_
    obtain ⟨v7, ev7, h⟩ := nmS h
    refine v_nmi ev7 ?_
    refine v_istore C dX9_stepsFrom_49 rfl (by decide) (L' := [(4, .int v7), (0, .ref (ad 0)), (1, .int a1), (2, .int a2), (3, .int a3)]) rfl ?_
    refine v_iconst C dX9_stepsFrom_51 rfl ic_0 ?_
    refine v_istore C dX9_stepsFrom_52 rfl (by decide) (L' := [(5, .int 0), (4, .int v7), (0, .ref (ad 0)), (1, .int a1), (2, .int a2), (3, .int a3)]) rfl ?_
    refine v_sub [2, 3, 4, 5, 1, 0] rfl ?_
    exact wL_X9_stepsFrom_54 C hD RET FU h
  · have h := ifn c6 h
    refine v_aload_n C dX9_stepsFrom_31 rfl rfl 1 rfl ?_
    refine v_iload_n C dX9_stepsFrom_32 rfl rfl 2 rfl ?_
    refine v_iload_n C dX9_stepsFrom_33 rfl rfl 3 rfl ?_
    refine v_iconst C dX9_stepsFrom_34 rfl ic_1 ?_
    refine v_iadd C dX9_stepsFrom_35 rfl ?_
    refine v_iload_n C dX9_stepsFrom_36 rfl rfl 4 rfl ?_
    obtain ⟨r10, K9, e8, h⟩ := bd2S h
    refine v_callVi C yv_X9_comesTo m_1133 (c_X9_comesTo e8) (Sub.whole hD _ _) ⟨_, _, _, _, _, wd_at sr_0, rfl⟩ (As := [.int a1, .int (a2 + 1), .int a3]) rfl rfl (Nat.le_of_ble_eq_true rfl) ⟨Nat.le_of_ble_eq_true rfl, Nat.le_of_ble_eq_true rfl⟩ dX9_stepsFrom_37 rfl ?_
    refine v_if_eq C dX9_stepsFrom_40 (tgt := 47) (by decide) rfl (fun c11 => ?_) (fun c11 => ?_)
    · have h := ifp c11 h
      refine v_iconst C dX9_stepsFrom_47 rfl ic_0 ?_
      refine v_ior C dX9_stepsFrom_48 rfl ?_
      obtain ⟨v12, ev12, h⟩ := nmS h
      refine v_nmi ev12 ?_
      refine v_istore C dX9_stepsFrom_49 rfl (by decide) (L' := [(4, .int v12), (0, .ref (ad 0)), (1, .int a1), (2, .int a2), (3, .int a3)]) rfl ?_
      refine v_iconst C dX9_stepsFrom_51 rfl ic_0 ?_
      refine v_istore C dX9_stepsFrom_52 rfl (by decide) (L' := [(5, .int 0), (4, .int v12), (0, .ref (ad 0)), (1, .int a1), (2, .int a2), (3, .int a3)]) rfl ?_
      refine v_sub [2, 3, 4, 5, 1, 0] rfl ?_
      exact wL_X9_stepsFrom_54 C hD RET FU h
    · have h := ifn c11 h
      refine v_iconst C dX9_stepsFrom_43 rfl ic_1 ?_
      refine v_goto C dX9_stepsFrom_44 (tgt := 48) (by decide) ?_
      refine v_ior C dX9_stepsFrom_48 rfl ?_
      obtain ⟨v13, ev13, h⟩ := nmS h
      refine v_nmi ev13 ?_
      refine v_istore C dX9_stepsFrom_49 rfl (by decide) (L' := [(4, .int v13), (0, .ref (ad 0)), (1, .int a1), (2, .int a2), (3, .int a3)]) rfl ?_
      refine v_iconst C dX9_stepsFrom_51 rfl ic_0 ?_
      refine v_istore C dX9_stepsFrom_52 rfl (by decide) (L' := [(5, .int 0), (4, .int v13), (0, .ref (ad 0)), (1, .int a1), (2, .int a2), (3, .int a3)]) rfl ?_
      refine v_sub [2, 3, 4, 5, 1, 0] rfl ?_
      exact wL_X9_stepsFrom_54 C hD RET FU h
def F_X9_stepsFrom_0 (a1 : Int32) (a2 : Int32) (a3 : Int32) (K : Mem) : Option (Int32 × Mem) :=
  if a2 ≤ 0 then (
    F_X9_stepsFrom_21 a1 a2 a3 0 K
  ) else (
    bd2 (C_X9_comesTo a1 (a2 - 1) a3 K) fun r4 K3 =>
    if r4 = 0 then (
      F_X9_stepsFrom_21 a1 a2 a3 0 K3
    ) else (
      F_X9_stepsFrom_21 a1 a2 a3 1 K3
    )
  )
set_option maxRecDepth 100000 in
set_option maxHeartbeats 4000000 in
theorem wF_X9_stepsFrom_0 {G : Ctx} {ad : Nat → Nat} (C : Cx G RX9 cX9_stepsFrom 6 3 67) (hD : ∀ K, va_D (gA G) (wd (gC G) ad K 0 shsR)) {res : (Int32 × Mem)} (RET : RZ G cX9_stepsFrom 6 (wd (gC G) ad res.2 0 shsR) res.1) {a1 : Int32} {a2 : Int32} {a3 : Int32} {K : Mem} (h : F_X9_stepsFrom_0 a1 a2 a3 K = some res) : V G 6 (wd (gC G) ad K 0 shsR) 0 [(0, .ref (ad 0)), (1, .int a1), (2, .int a2), (3, .int a3)] [] := by
  unfold F_X9_stepsFrom_0 at h
  refine v_iload_n C dX9_stepsFrom_0 rfl rfl 2 rfl ?_
  refine v_if_le C dX9_stepsFrom_1 (tgt := 20) (by decide) rfl (fun c1 => ?_) (fun c1 => ?_)
  · have h := ifp c1 h
    refine v_iconst C dX9_stepsFrom_20 rfl ic_0 ?_
    exact wF_X9_stepsFrom_21 C hD RET h
  · have h := ifn c1 h
    refine v_aload_n C dX9_stepsFrom_4 rfl rfl 0 rfl ?_
    refine v_iload_n C dX9_stepsFrom_5 rfl rfl 1 rfl ?_
    refine v_iload_n C dX9_stepsFrom_6 rfl rfl 2 rfl ?_
    refine v_iconst C dX9_stepsFrom_7 rfl ic_1 ?_
    refine v_isub C dX9_stepsFrom_8 rfl ?_
    refine v_iload_n C dX9_stepsFrom_9 rfl rfl 3 rfl ?_
    obtain ⟨r4, K3, e2, h⟩ := bd2S h
    refine v_callVi C yv_X9_comesTo m_1133 (c_X9_comesTo e2) (Sub.whole hD _ _) ⟨_, _, _, _, _, wd_at sr_0, rfl⟩ (As := [.int a1, .int (a2 - 1), .int a3]) rfl rfl (Nat.le_of_ble_eq_true rfl) ⟨Nat.le_of_ble_eq_true rfl, Nat.le_of_ble_eq_true rfl⟩ dX9_stepsFrom_10 rfl ?_
    refine v_if_eq C dX9_stepsFrom_13 (tgt := 20) (by decide) rfl (fun c5 => ?_) (fun c5 => ?_)
    · have h := ifp c5 h
      refine v_iconst C dX9_stepsFrom_20 rfl ic_0 ?_
      exact wF_X9_stepsFrom_21 C hD RET h
    · have h := ifn c5 h
      refine v_iconst C dX9_stepsFrom_16 rfl ic_1 ?_
      refine v_goto C dX9_stepsFrom_17 (tgt := 21) (by decide) ?_
      exact wF_X9_stepsFrom_21 C hD RET h
def C_X9_stepsFrom (a1 : Int32) (a2 : Int32) (a3 : Int32) (K : Mem) : Option (Int32 × Mem) := F_X9_stepsFrom_0 a1 a2 a3 K
set_option maxRecDepth 100000 in
theorem c_X9_stepsFrom {l : Launch} {D : va_G} {cA : FieldType → ClassId} {X : Ex} {ad : Nat → Nat} {a1 : Int32} {a2 : Int32} {a3 : Int32} {K : Mem} {r : Int32} {K' : Mem} (h : C_X9_stepsFrom a1 a2 a3 K = some (r, K')) : MI l D cA X yX9_stepsFrom cX9_stepsFrom 6 (some .boolean) 3 67 [.ref (ad 0), .int a1, .int a2, .int a3] (wd cA ad K 0 shsR) (wd cA ad K' 0 shsR) r :=
  mZ_of (by decide +kernel) (Nat.le_of_ble_eq_true rfl) (fun G h1 h2 h3 h4 C hD RET => by subst h1 h2 h3 h4; exact wF_X9_stepsFrom_0 C (fun K' => wd_D K' hD) RET  h)
def F_X9_findsWays_64 (k53 : Int32 → Int32 → Mem → Option (Int32 × Mem)) (k64 : Int32 → Int32 → Int32 → Mem → Option (Int32 × Mem)) (a4 : Int32) (a5 : Int32) (a6 : Int32) (K : Mem) : Option (Int32 × Mem) :=
  gd (inb 0 3058) <|
  if (8 * (K 1 (Int32.toNatClampNeg 0))) ≤ a6 then (
    nm (a5 + 1) fun v23 =>
    k53 a4 v23 K
  ) else (
    gd (inb a6 96) <|
    if (K 13 (Int32.toNatClampNeg a6)) = a5 then (
      bd2 (C_X9_stepsFrom (a6 / 8) (jrem a6 8) (a5 + 1) K) fun r29 K28 =>
      nm (a4 ||| r29) fun v30 =>
      nm (a6 + 1) fun v31 =>
      k64 v30 a5 v31 K28
    ) else (
      nm (a6 + 1) fun v26 =>
      k64 a4 a5 v26 K
    )
  )
def L_X9_findsWays_64 (k53 : Int32 → Int32 → Mem → Option (Int32 × Mem)) : Nat → Int32 → Int32 → Int32 → Mem → Option (Int32 × Mem)
  | 0, _, _, _, _ => none
  | n + 1, a4, a5, a6, K => F_X9_findsWays_64 k53 (fun a4 a5 a6 K => L_X9_findsWays_64 k53 n a4 a5 a6 K) a4 a5 a6 K
set_option maxRecDepth 100000 in
set_option maxHeartbeats 4000000 in
theorem wF_X9_findsWays_64 {G : Ctx} {ad : Nat → Nat} {k53 : Int32 → Int32 → Mem → Option (Int32 × Mem)} {k64 : Int32 → Int32 → Int32 → Mem → Option (Int32 × Mem)} (C : Cx G RX9 cX9_findsWays 7 4 92) (hD : ∀ K, va_D (gA G) (wd (gC G) ad K 0 shsR)) {res : (Int32 × Mem)} (RET : RI G cX9_findsWays 7 (wd (gC G) ad res.2 0 shsR) res.1) (hk53 : ∀ {a4 : Int32} {a5 : Int32} {K : Mem} , k53 a4 a5 K = some res → V G 7 (wd (gC G) ad K 0 shsR) 53 [(0, .ref (ad 0)), (4, .int a4), (5, .int a5)] []) (hk64 : ∀ {a4 : Int32} {a5 : Int32} {a6 : Int32} {K : Mem} , k64 a4 a5 a6 K = some res → V G 7 (wd (gC G) ad K 0 shsR) 64 [(0, .ref (ad 0)), (4, .int a4), (5, .int a5), (6, .int a6)] []) {a4 : Int32} {a5 : Int32} {a6 : Int32} {K : Mem} (h : F_X9_findsWays_64 k53 k64 a4 a5 a6 K = some res) : V G 7 (wd (gC G) ad K 0 shsR) 64 [(0, .ref (ad 0)), (4, .int a4), (5, .int a5), (6, .int a6)] [] := by
  unfold F_X9_findsWays_64 at h
  refine v_iload C dX9_findsWays_64 rfl 3 rfl ?_
  refine v_bipush C dX9_findsWays_66 rfl bi_8 ?_
  refine v_aload_n C dX9_findsWays_68 rfl rfl 0 rfl ?_
  refine v_getr C dX9_findsWays_69 rfl ff_X9_7 sr_0 rfl ?_
  refine v_iconst C dX9_findsWays_72 rfl ic_0 ?_
  obtain ⟨b21, h⟩ := gdS h
  refine v_iald C dX9_findsWays_73 rfl sr_1 b21 ?_
  refine v_imul C dX9_findsWays_74 rfl ?_
  refine v_icmp_ge C dX9_findsWays_75 (tgt := 119) (by decide) rfl (fun c22 => ?_) (fun c22 => ?_)
  · have h := ifp c22 h
    obtain ⟨v23, ev23, h⟩ := nmS h
    refine v_iinc C dX9_findsWays_119 rfl 2 rfl (v := v23) (by rw [ev23]; rfl) (by decide) (L' := [(5, .int v23), (0, .ref (ad 0)), (4, .int a4), (6, .int a6)]) rfl ?_
    refine v_goto C dX9_findsWays_122 (tgt := 53) (by decide) ?_
    refine v_sub [1, 2, 0] rfl ?_
    exact hk53 h
  · have h := ifn c22 h
    refine v_aload_n C dX9_findsWays_78 rfl rfl 0 rfl ?_
    refine v_getr C dX9_findsWays_79 rfl ff_X9_46 sr_0 rfl ?_
    refine v_iload C dX9_findsWays_82 rfl 3 rfl ?_
    obtain ⟨b24, h⟩ := gdS h
    refine v_iald C dX9_findsWays_84 rfl sr_13 b24 ?_
    refine v_iload C dX9_findsWays_85 rfl 2 rfl ?_
    refine v_icmp_ne C dX9_findsWays_87 (tgt := 113) (by decide) rfl (fun c25 => ?_) (fun c25 => ?_)
    · have h := ifn c25 h
      obtain ⟨v26, ev26, h⟩ := nmS h
      refine v_iinc C dX9_findsWays_113 rfl 3 rfl (v := v26) (by rw [ev26]; rfl) (by decide) (L' := [(6, .int v26), (0, .ref (ad 0)), (4, .int a4), (5, .int a5)]) rfl ?_
      refine v_goto C dX9_findsWays_116 (tgt := 64) (by decide) ?_
      refine v_sub [1, 2, 3, 0] rfl ?_
      exact hk64 h
    · have h := ifp c25 h
      refine v_iload C dX9_findsWays_90 rfl 1 rfl ?_
      refine v_aload_n C dX9_findsWays_92 rfl rfl 0 rfl ?_
      refine v_iload C dX9_findsWays_93 rfl 3 rfl ?_
      refine v_bipush C dX9_findsWays_95 rfl bi_8 ?_
      refine v_idiv C dX9_findsWays_97 rfl (by decide) ?_
      refine v_iload C dX9_findsWays_98 rfl 3 rfl ?_
      refine v_bipush C dX9_findsWays_100 rfl bi_8 ?_
      refine v_irem C dX9_findsWays_102 rfl (by decide) ?_
      refine v_iload C dX9_findsWays_103 rfl 2 rfl ?_
      refine v_iconst C dX9_findsWays_105 rfl ic_1 ?_
      refine v_iadd C dX9_findsWays_106 rfl ?_
      obtain ⟨r29, K28, e27, h⟩ := bd2S h
      refine v_callVi C yv_X9_stepsFrom m_1141 (c_X9_stepsFrom e27) (Sub.whole hD _ _) ⟨_, _, _, _, _, wd_at sr_0, rfl⟩ (As := [.int (a6 / 8), .int (jrem a6 8), .int (a5 + 1)]) rfl rfl (Nat.le_of_ble_eq_true rfl) ⟨Nat.le_of_ble_eq_true rfl, Nat.le_of_ble_eq_true rfl⟩ dX9_findsWays_107 rfl ?_
      refine v_ior C dX9_findsWays_110 rfl ?_
      obtain ⟨v30, ev30, h⟩ := nmS h
      refine v_nmi ev30 ?_
      refine v_istore C dX9_findsWays_111 rfl (by decide) (L' := [(4, .int v30), (0, .ref (ad 0)), (5, .int a5), (6, .int a6)]) rfl ?_
      obtain ⟨v31, ev31, h⟩ := nmS h
      refine v_iinc C dX9_findsWays_113 rfl 3 rfl (v := v31) (by rw [ev31]; rfl) (by decide) (L' := [(6, .int v31), (4, .int v30), (0, .ref (ad 0)), (5, .int a5)]) rfl ?_
      refine v_goto C dX9_findsWays_116 (tgt := 64) (by decide) ?_
      refine v_sub [2, 1, 3, 0] rfl ?_
      exact hk64 h
theorem wL_X9_findsWays_64 {G : Ctx} {ad : Nat → Nat} {k53 : Int32 → Int32 → Mem → Option (Int32 × Mem)} (C : Cx G RX9 cX9_findsWays 7 4 92) (hD : ∀ K, va_D (gA G) (wd (gC G) ad K 0 shsR)) {res : (Int32 × Mem)} (RET : RI G cX9_findsWays 7 (wd (gC G) ad res.2 0 shsR) res.1) (hk53 : ∀ {a4 : Int32} {a5 : Int32} {K : Mem} , k53 a4 a5 K = some res → V G 7 (wd (gC G) ad K 0 shsR) 53 [(0, .ref (ad 0)), (4, .int a4), (5, .int a5)] []) : ∀ (n : Nat) {a4 : Int32} {a5 : Int32} {a6 : Int32} {K : Mem} (h : L_X9_findsWays_64 k53 n a4 a5 a6 K = some res), V G 7 (wd (gC G) ad K 0 shsR) 64 [(0, .ref (ad 0)), (4, .int a4), (5, .int a5), (6, .int a6)] [] := by
  intro n
  induction n with
  | zero =>
    intro a4 a5 a6 K h
    cases (show (none : Option (Int32 × Mem)) = some res from h)
  | succ n ih =>
    intro a4 a5 a6 K h
    exact wF_X9_findsWays_64 (k64 := fun a4 a5 a6 K => L_X9_findsWays_64 k53 n a4 a5 a6 K) C hD RET hk53 (fun h => ih h) h
def F_X9_findsWays_130 (k130 : Int32 → Int32 → Mem → Option (Int32 × Mem)) (a3 : Int32) (a5 : Int32) (K : Mem) : Option (Int32 × Mem) :=
  if 96 ≤ a5 then (
    some (a3, K)
  ) else (
    gd (inb a5 96) <|
    if 0 ≤ (K 13 (Int32.toNatClampNeg a5)) then (
      nm (a3 + 1) fun v17 =>
      nm (a5 + 1) fun v18 =>
      k130 v17 v18 K
    ) else (
      nm (a3 + 0) fun v19 =>
      nm (a5 + 1) fun v20 =>
      k130 v19 v20 K
    )
  )
def L_X9_findsWays_130 : Nat → Int32 → Int32 → Mem → Option (Int32 × Mem)
  | 0, _, _, _ => none
  | n + 1, a3, a5, K => F_X9_findsWays_130 (fun a3 a5 K => L_X9_findsWays_130 n a3 a5 K) a3 a5 K
set_option maxRecDepth 100000 in
set_option maxHeartbeats 4000000 in
theorem wF_X9_findsWays_130 {G : Ctx} {ad : Nat → Nat} {k130 : Int32 → Int32 → Mem → Option (Int32 × Mem)} (C : Cx G RX9 cX9_findsWays 7 4 92) (hD : ∀ K, va_D (gA G) (wd (gC G) ad K 0 shsR)) {res : (Int32 × Mem)} (RET : RI G cX9_findsWays 7 (wd (gC G) ad res.2 0 shsR) res.1) (hk130 : ∀ {a3 : Int32} {a5 : Int32} {K : Mem} , k130 a3 a5 K = some res → V G 7 (wd (gC G) ad K 0 shsR) 130 [(0, .ref (ad 0)), (3, .int a3), (5, .int a5)] []) {a3 : Int32} {a5 : Int32} {K : Mem} (h : F_X9_findsWays_130 k130 a3 a5 K = some res) : V G 7 (wd (gC G) ad K 0 shsR) 130 [(0, .ref (ad 0)), (3, .int a3), (5, .int a5)] [] := by
  unfold F_X9_findsWays_130 at h
  refine v_iload C dX9_findsWays_130 rfl 2 rfl ?_
  refine v_bipush C dX9_findsWays_132 rfl bi_96 ?_
  refine v_icmp_ge C dX9_findsWays_134 (tgt := 161) (by decide) rfl (fun c14 => ?_) (fun c14 => ?_)
  · have h := ifp c14 h
    refine v_iload_n C dX9_findsWays_161 rfl rfl 1 rfl ?_
    obtain rfl := Option.some.inj h
    exact RET _ _ dX9_findsWays_162
  · have h := ifn c14 h
    refine v_iload_n C dX9_findsWays_137 rfl rfl 1 rfl ?_
    refine v_aload_n C dX9_findsWays_138 rfl rfl 0 rfl ?_
    refine v_getr C dX9_findsWays_139 rfl ff_X9_46 sr_0 rfl ?_
    refine v_iload C dX9_findsWays_142 rfl 2 rfl ?_
    obtain ⟨b15, h⟩ := gdS h
    refine v_iald C dX9_findsWays_144 rfl sr_13 b15 ?_
    refine v_if_ge C dX9_findsWays_145 (tgt := 152) (by decide) rfl (fun c16 => ?_) (fun c16 => ?_)
    · have h := ifp c16 h
      refine v_iconst C dX9_findsWays_152 rfl ic_1 ?_
      refine v_iadd C dX9_findsWays_153 rfl ?_
      obtain ⟨v17, ev17, h⟩ := nmS h
      refine v_nmi ev17 ?_
      refine v_istore_n C dX9_findsWays_154 rfl rfl (by decide) (L' := [(3, .int v17), (0, .ref (ad 0)), (5, .int a5)]) rfl ?_
      obtain ⟨v18, ev18, h⟩ := nmS h
      refine v_iinc C dX9_findsWays_155 rfl 2 rfl (v := v18) (by rw [ev18]; rfl) (by decide) (L' := [(5, .int v18), (3, .int v17), (0, .ref (ad 0))]) rfl ?_
      refine v_goto C dX9_findsWays_158 (tgt := 130) (by decide) ?_
      refine v_sub [2, 1, 0] rfl ?_
      exact hk130 h
    · have h := ifn c16 h
      refine v_iconst C dX9_findsWays_148 rfl ic_0 ?_
      refine v_goto C dX9_findsWays_149 (tgt := 153) (by decide) ?_
      refine v_iadd C dX9_findsWays_153 rfl ?_
      obtain ⟨v19, ev19, h⟩ := nmS h
      refine v_nmi ev19 ?_
      refine v_istore_n C dX9_findsWays_154 rfl rfl (by decide) (L' := [(3, .int v19), (0, .ref (ad 0)), (5, .int a5)]) rfl ?_
      obtain ⟨v20, ev20, h⟩ := nmS h
      refine v_iinc C dX9_findsWays_155 rfl 2 rfl (v := v20) (by rw [ev20]; rfl) (by decide) (L' := [(5, .int v20), (3, .int v19), (0, .ref (ad 0))]) rfl ?_
      refine v_goto C dX9_findsWays_158 (tgt := 130) (by decide) ?_
      refine v_sub [2, 1, 0] rfl ?_
      exact hk130 h
theorem wL_X9_findsWays_130 {G : Ctx} {ad : Nat → Nat} (C : Cx G RX9 cX9_findsWays 7 4 92) (hD : ∀ K, va_D (gA G) (wd (gC G) ad K 0 shsR)) {res : (Int32 × Mem)} (RET : RI G cX9_findsWays 7 (wd (gC G) ad res.2 0 shsR) res.1) : ∀ (n : Nat) {a3 : Int32} {a5 : Int32} {K : Mem} (h : L_X9_findsWays_130 n a3 a5 K = some res), V G 7 (wd (gC G) ad K 0 shsR) 130 [(0, .ref (ad 0)), (3, .int a3), (5, .int a5)] [] := by
  intro n
  induction n with
  | zero =>
    intro a3 a5 K h
    cases (show (none : Option (Int32 × Mem)) = some res from h)
  | succ n ih =>
    intro a3 a5 K h
    exact wF_X9_findsWays_130 (k130 := fun a3 a5 K => L_X9_findsWays_130  n a3 a5 K) C hD RET (fun h => ih h) h
def F_X9_findsWays_53 (k53 : Int32 → Int32 → Mem → Option (Int32 × Mem)) (a4 : Int32) (a5 : Int32) (K : Mem) : Option (Int32 × Mem) :=
  if a4 = 0 then (
    L_X9_findsWays_130 FU 0 0 K
  ) else (
    L_X9_findsWays_64 k53 FU 0 a5 0 K
  )
def L_X9_findsWays_53 : Nat → Int32 → Int32 → Mem → Option (Int32 × Mem)
  | 0, _, _, _ => none
  | n + 1, a4, a5, K => F_X9_findsWays_53 (fun a4 a5 K => L_X9_findsWays_53 n a4 a5 K) a4 a5 K
set_option maxRecDepth 100000 in
set_option maxHeartbeats 4000000 in
theorem wF_X9_findsWays_53 {G : Ctx} {ad : Nat → Nat} {k53 : Int32 → Int32 → Mem → Option (Int32 × Mem)} (C : Cx G RX9 cX9_findsWays 7 4 92) (hD : ∀ K, va_D (gA G) (wd (gC G) ad K 0 shsR)) {res : (Int32 × Mem)} (RET : RI G cX9_findsWays 7 (wd (gC G) ad res.2 0 shsR) res.1) (hk53 : ∀ {a4 : Int32} {a5 : Int32} {K : Mem} , k53 a4 a5 K = some res → V G 7 (wd (gC G) ad K 0 shsR) 53 [(0, .ref (ad 0)), (4, .int a4), (5, .int a5)] []) {a4 : Int32} {a5 : Int32} {K : Mem} (h : F_X9_findsWays_53 k53 a4 a5 K = some res) : V G 7 (wd (gC G) ad K 0 shsR) 53 [(0, .ref (ad 0)), (4, .int a4), (5, .int a5)] [] := by
  unfold F_X9_findsWays_53 at h
  refine v_iload C dX9_findsWays_53 rfl 1 rfl ?_
  refine v_if_eq C dX9_findsWays_55 (tgt := 125) (by decide) rfl (fun c13 => ?_) (fun c13 => ?_)
  · have h := ifp c13 h
    refine v_iconst C dX9_findsWays_125 rfl ic_0 ?_
    refine v_istore_n C dX9_findsWays_126 rfl rfl (by decide) (L' := [(3, .int 0), (0, .ref (ad 0)), (4, .int a4), (5, .int a5)]) rfl ?_
    refine v_iconst C dX9_findsWays_127 rfl ic_0 ?_
    refine v_istore C dX9_findsWays_128 rfl (by decide) (L' := [(5, .int 0), (3, .int 0), (0, .ref (ad 0)), (4, .int a4)]) rfl ?_
    refine v_sub [2, 1, 0] rfl ?_
    exact wL_X9_findsWays_130 C hD RET FU h
  · have h := ifn c13 h
    refine v_iconst C dX9_findsWays_58 rfl ic_0 ?_
    refine v_istore C dX9_findsWays_59 rfl (by decide) (L' := [(4, .int 0), (0, .ref (ad 0)), (5, .int a5)]) rfl ?_
    refine v_iconst C dX9_findsWays_61 rfl ic_0 ?_
    refine v_istore C dX9_findsWays_62 rfl (by decide) (L' := [(6, .int 0), (4, .int 0), (0, .ref (ad 0)), (5, .int a5)]) rfl ?_
    refine v_sub [2, 1, 3, 0] rfl ?_
    exact wL_X9_findsWays_64 C hD RET hk53 FU h
theorem wL_X9_findsWays_53 {G : Ctx} {ad : Nat → Nat} (C : Cx G RX9 cX9_findsWays 7 4 92) (hD : ∀ K, va_D (gA G) (wd (gC G) ad K 0 shsR)) {res : (Int32 × Mem)} (RET : RI G cX9_findsWays 7 (wd (gC G) ad res.2 0 shsR) res.1) : ∀ (n : Nat) {a4 : Int32} {a5 : Int32} {K : Mem} (h : L_X9_findsWays_53 n a4 a5 K = some res), V G 7 (wd (gC G) ad K 0 shsR) 53 [(0, .ref (ad 0)), (4, .int a4), (5, .int a5)] [] := by
  intro n
  induction n with
  | zero =>
    intro a4 a5 K h
    cases (show (none : Option (Int32 × Mem)) = some res from h)
  | succ n ih =>
    intro a4 a5 K h
    exact wF_X9_findsWays_53 (k53 := fun a4 a5 K => L_X9_findsWays_53  n a4 a5 K) C hD RET (fun h => ih h) h
def F_X9_findsWays_8 (k8 : Int32 → Int32 → Int32 → Int32 → Mem → Option (Int32 × Mem)) (a1 : Int32) (a2 : Int32) (a3 : Int32) (a4 : Int32) (K : Mem) : Option (Int32 × Mem) :=
  if 96 ≤ a4 then (
    if a3 ≤ 0 then (
      L_X9_findsWays_53 FU 0 0 K
    ) else (
      bd2 (C_X9_comesTo a1 a2 0 K) fun r8 K7 =>
      if r8 = 0 then (
        L_X9_findsWays_53 FU 0 0 K7
      ) else (
        L_X9_findsWays_53 FU 1 0 K7
      )
    )
  ) else (
    gd (inb a4 96) <|
    nm (up K 13 (Int32.toNatClampNeg a4) (-1)) fun K11 =>
    nm (a4 + 1) fun v12 =>
    k8 a1 a2 a3 v12 K11
  )
def L_X9_findsWays_8 : Nat → Int32 → Int32 → Int32 → Int32 → Mem → Option (Int32 × Mem)
  | 0, _, _, _, _, _ => none
  | n + 1, a1, a2, a3, a4, K => F_X9_findsWays_8 (fun a1 a2 a3 a4 K => L_X9_findsWays_8 n a1 a2 a3 a4 K) a1 a2 a3 a4 K
set_option maxRecDepth 100000 in
set_option maxHeartbeats 4000000 in
theorem wF_X9_findsWays_8 {G : Ctx} {ad : Nat → Nat} {k8 : Int32 → Int32 → Int32 → Int32 → Mem → Option (Int32 × Mem)} (C : Cx G RX9 cX9_findsWays 7 4 92) (hD : ∀ K, va_D (gA G) (wd (gC G) ad K 0 shsR)) {res : (Int32 × Mem)} (RET : RI G cX9_findsWays 7 (wd (gC G) ad res.2 0 shsR) res.1) (hk8 : ∀ {a1 : Int32} {a2 : Int32} {a3 : Int32} {a4 : Int32} {K : Mem} , k8 a1 a2 a3 a4 K = some res → V G 7 (wd (gC G) ad K 0 shsR) 8 [(0, .ref (ad 0)), (1, .int a1), (2, .int a2), (3, .int a3), (4, .int a4)] []) {a1 : Int32} {a2 : Int32} {a3 : Int32} {a4 : Int32} {K : Mem} (h : F_X9_findsWays_8 k8 a1 a2 a3 a4 K = some res) : V G 7 (wd (gC G) ad K 0 shsR) 8 [(0, .ref (ad 0)), (1, .int a1), (2, .int a2), (3, .int a3), (4, .int a4)] [] := by
  unfold F_X9_findsWays_8 at h
  refine v_iload C dX9_findsWays_8 rfl 4 rfl ?_
  refine v_bipush C dX9_findsWays_10 rfl bi_96 ?_
  refine v_icmp_ge C dX9_findsWays_12 (tgt := 29) (by decide) rfl (fun c4 => ?_) (fun c4 => ?_)
  · have h := ifp c4 h
    refine v_iload_n C dX9_findsWays_29 rfl rfl 3 rfl ?_
    refine v_if_le C dX9_findsWays_30 (tgt := 47) (by decide) rfl (fun c5 => ?_) (fun c5 => ?_)
    · have h := ifp c5 h
      refine v_iconst C dX9_findsWays_47 rfl ic_0 ?_
      refine v_istore C dX9_findsWays_48 rfl (by decide) (L' := [(4, .int 0), (0, .ref (ad 0)), (1, .int a1), (2, .int a2), (3, .int a3)]) rfl ?_
      refine v_iconst C dX9_findsWays_50 rfl ic_0 ?_
      refine v_istore C dX9_findsWays_51 rfl (by decide) (L' := [(5, .int 0), (4, .int 0), (0, .ref (ad 0)), (1, .int a1), (2, .int a2), (3, .int a3)]) rfl ?_
      refine v_sub [2, 1, 0] rfl ?_
      exact wL_X9_findsWays_53 C hD RET FU h
    · have h := ifn c5 h
      refine v_aload_n C dX9_findsWays_33 rfl rfl 0 rfl ?_
      refine v_iload_n C dX9_findsWays_34 rfl rfl 1 rfl ?_
      refine v_iload_n C dX9_findsWays_35 rfl rfl 2 rfl ?_
      refine v_iconst C dX9_findsWays_36 rfl ic_0 ?_
      obtain ⟨r8, K7, e6, h⟩ := bd2S h
      refine v_callVi C yv_X9_comesTo m_1133 (c_X9_comesTo e6) (Sub.whole hD _ _) ⟨_, _, _, _, _, wd_at sr_0, rfl⟩ (As := [.int a1, .int a2, .int 0]) rfl rfl (Nat.le_of_ble_eq_true rfl) ⟨Nat.le_of_ble_eq_true rfl, Nat.le_of_ble_eq_true rfl⟩ dX9_findsWays_37 rfl ?_
      refine v_if_eq C dX9_findsWays_40 (tgt := 47) (by decide) rfl (fun c9 => ?_) (fun c9 => ?_)
      · have h := ifp c9 h
        refine v_iconst C dX9_findsWays_47 rfl ic_0 ?_
        refine v_istore C dX9_findsWays_48 rfl (by decide) (L' := [(4, .int 0), (0, .ref (ad 0)), (1, .int a1), (2, .int a2), (3, .int a3)]) rfl ?_
        refine v_iconst C dX9_findsWays_50 rfl ic_0 ?_
        refine v_istore C dX9_findsWays_51 rfl (by decide) (L' := [(5, .int 0), (4, .int 0), (0, .ref (ad 0)), (1, .int a1), (2, .int a2), (3, .int a3)]) rfl ?_
        refine v_sub [2, 1, 0] rfl ?_
        exact wL_X9_findsWays_53 C hD RET FU h
      · have h := ifn c9 h
        refine v_iconst C dX9_findsWays_43 rfl ic_1 ?_
        refine v_goto C dX9_findsWays_44 (tgt := 48) (by decide) ?_
        refine v_istore C dX9_findsWays_48 rfl (by decide) (L' := [(4, .int 1), (0, .ref (ad 0)), (1, .int a1), (2, .int a2), (3, .int a3)]) rfl ?_
        refine v_iconst C dX9_findsWays_50 rfl ic_0 ?_
        refine v_istore C dX9_findsWays_51 rfl (by decide) (L' := [(5, .int 0), (4, .int 1), (0, .ref (ad 0)), (1, .int a1), (2, .int a2), (3, .int a3)]) rfl ?_
        refine v_sub [2, 1, 0] rfl ?_
        exact wL_X9_findsWays_53 C hD RET FU h
  · have h := ifn c4 h
    refine v_aload_n C dX9_findsWays_15 rfl rfl 0 rfl ?_
    refine v_getr C dX9_findsWays_16 rfl ff_X9_46 sr_0 rfl ?_
    refine v_iload C dX9_findsWays_19 rfl 4 rfl ?_
    refine v_iconst C dX9_findsWays_21 rfl ic_n1 ?_
    obtain ⟨b10, h⟩ := gdS h
    obtain ⟨K11, eK11, h⟩ := nmS h
    refine v_iast C hD dX9_findsWays_22 rfl sr_13 b10 eK11 ?_
    obtain ⟨v12, ev12, h⟩ := nmS h
    refine v_iinc C dX9_findsWays_23 rfl 4 rfl (v := v12) (by rw [ev12]; rfl) (by decide) (L' := [(4, .int v12), (0, .ref (ad 0)), (1, .int a1), (2, .int a2), (3, .int a3)]) rfl ?_
    refine v_goto C dX9_findsWays_26 (tgt := 8) (by decide) ?_
    refine v_sub [1, 2, 3, 4, 0] rfl ?_
    exact hk8 h
theorem wL_X9_findsWays_8 {G : Ctx} {ad : Nat → Nat} (C : Cx G RX9 cX9_findsWays 7 4 92) (hD : ∀ K, va_D (gA G) (wd (gC G) ad K 0 shsR)) {res : (Int32 × Mem)} (RET : RI G cX9_findsWays 7 (wd (gC G) ad res.2 0 shsR) res.1) : ∀ (n : Nat) {a1 : Int32} {a2 : Int32} {a3 : Int32} {a4 : Int32} {K : Mem} (h : L_X9_findsWays_8 n a1 a2 a3 a4 K = some res), V G 7 (wd (gC G) ad K 0 shsR) 8 [(0, .ref (ad 0)), (1, .int a1), (2, .int a2), (3, .int a3), (4, .int a4)] [] := by
  intro n
  induction n with
  | zero =>
    intro a1 a2 a3 a4 K h
    cases (show (none : Option (Int32 × Mem)) = some res from h)
  | succ n ih =>
    intro a1 a2 a3 a4 K h
    exact wF_X9_findsWays_8 (k8 := fun a1 a2 a3 a4 K => L_X9_findsWays_8  n a1 a2 a3 a4 K) C hD RET (fun h => ih h) h
def F_X9_findsWays_0 (a1 : Int32) (a2 : Int32) (K : Mem) : Option (Int32 × Mem) :=
  bd2 (C_X9_holds K) fun r3 K2 =>
  L_X9_findsWays_8 FU a1 a2 r3 0 K2
set_option maxRecDepth 100000 in
set_option maxHeartbeats 4000000 in
theorem wF_X9_findsWays_0 {G : Ctx} {ad : Nat → Nat} (C : Cx G RX9 cX9_findsWays 7 4 92) (hD : ∀ K, va_D (gA G) (wd (gC G) ad K 0 shsR)) {res : (Int32 × Mem)} (RET : RI G cX9_findsWays 7 (wd (gC G) ad res.2 0 shsR) res.1) {a1 : Int32} {a2 : Int32} {K : Mem} (h : F_X9_findsWays_0 a1 a2 K = some res) : V G 7 (wd (gC G) ad K 0 shsR) 0 [(0, .ref (ad 0)), (1, .int a1), (2, .int a2)] [] := by
  unfold F_X9_findsWays_0 at h
  refine v_aload_n C dX9_findsWays_0 rfl rfl 0 rfl ?_
  obtain ⟨r3, K2, e1, h⟩ := bd2S h
  refine v_callVi C yv_X9_holds m_976 (c_X9_holds e1) (Sub.whole hD _ _) ⟨_, _, _, _, _, wd_at sr_0, rfl⟩ (As := []) rfl rfl (Nat.le_of_ble_eq_true rfl) ⟨Nat.le_of_ble_eq_true rfl, Nat.le_of_ble_eq_true rfl⟩ dX9_findsWays_1 rfl ?_
  refine v_istore_n C dX9_findsWays_4 rfl rfl (by decide) (L' := [(3, .int r3), (0, .ref (ad 0)), (1, .int a1), (2, .int a2)]) rfl ?_
  refine v_iconst C dX9_findsWays_5 rfl ic_0 ?_
  refine v_istore C dX9_findsWays_6 rfl (by decide) (L' := [(4, .int 0), (3, .int r3), (0, .ref (ad 0)), (1, .int a1), (2, .int a2)]) rfl ?_
  refine v_sub [2, 3, 4, 1, 0] rfl ?_
  exact wL_X9_findsWays_8 C hD RET FU h
def C_X9_findsWays (a1 : Int32) (a2 : Int32) (K : Mem) : Option (Int32 × Mem) := F_X9_findsWays_0 a1 a2 K
set_option maxRecDepth 100000 in
theorem c_X9_findsWays {l : Launch} {D : va_G} {cA : FieldType → ClassId} {X : Ex} {ad : Nat → Nat} {a1 : Int32} {a2 : Int32} {K : Mem} {r : Int32} {K' : Mem} (h : C_X9_findsWays a1 a2 K = some (r, K')) : MI l D cA X yX9_findsWays cX9_findsWays 7 (some .int) 4 92 [.ref (ad 0), .int a1, .int a2] (wd cA ad K 0 shsR) (wd cA ad K' 0 shsR) r :=
  mI_of (by decide +kernel) (Nat.le_of_ble_eq_true rfl) (fun G h1 h2 h3 h4 C hD RET => by subst h1 h2 h3 h4; exact wF_X9_findsWays_0 C (fun K' => wd_D K' hD) RET  h)
def F_X9_way_0 (a1 : Int32) (a2 : Int32) (a3 : Int32) (a4 : Int32) (K : Mem) : Option (Int32 × Mem) :=
  bd (C_X9_isCourse K a1) fun r2 =>
  bd (C_X9_isThere r2 a2) fun r4 =>
  if r4 = 0 then (
    some ((-1000000001), K)
  ) else (
    bd (C_X9_isCourse K a3) fun r7 =>
    bd (C_X9_isThere r7 a4) fun r9 =>
    if r9 = 0 then (
      some ((-1000000001), K)
    ) else (
      bd2 (C_X9_findsWays a1 a2 K) fun r13 K12 =>
      if r13 = 0 then (
        some ((-1000000005), K12)
      ) else (
        gd (inb ((8 * a3) + a4) 96) <|
        bd (C_X9_orNone (K12 13 (Int32.toNatClampNeg ((8 * a3) + a4)))) fun r17 =>
        some (r17, K12)
      )
    )
  )
set_option maxRecDepth 100000 in
set_option maxHeartbeats 4000000 in
theorem wF_X9_way_0 {G : Ctx} {ad : Nat → Nat} (C : Cx G RX9 cX9_way 6 5 118) (hD : ∀ K, va_D (gA G) (wd (gC G) ad K 0 shsR)) {res : (Int32 × Mem)} (RET : RI G cX9_way 6 (wd (gC G) ad res.2 0 shsR) res.1) {a1 : Int32} {a2 : Int32} {a3 : Int32} {a4 : Int32} {K : Mem} (h : F_X9_way_0 a1 a2 a3 a4 K = some res) : V G 6 (wd (gC G) ad K 0 shsR) 0 [(0, .ref (ad 0)), (1, .int a1), (2, .int a2), (3, .int a3), (4, .int a4)] [] := by
  unfold F_X9_way_0 at h
  refine v_aload_n C dX9_way_0 rfl rfl 0 rfl ?_
  refine v_iload_n C dX9_way_1 rfl rfl 1 rfl ?_
  obtain ⟨r2, e1, h⟩ := bdS h
  refine v_callVi C yv_X9_isCourse m_967 (c_X9_isCourse e1) (Sub.whole hD _ _) ⟨_, _, _, _, _, wd_at sr_0, rfl⟩ (As := [.int a1]) rfl rfl (Nat.le_of_ble_eq_true rfl) ⟨Nat.le_of_ble_eq_true rfl, Nat.le_of_ble_eq_true rfl⟩ dX9_way_2 rfl ?_
  refine v_iload_n C dX9_way_5 rfl rfl 2 rfl ?_
  obtain ⟨r4, e3, h⟩ := bdS h
  refine v_callSi C ys_X9_isThere m_1051 (c_X9_isThere e3) (Sub.whole hD _ _) (As := [.int r2, .int a2]) rfl rfl (Nat.le_of_ble_eq_true rfl) ⟨Nat.le_of_ble_eq_true rfl, Nat.le_of_ble_eq_true rfl⟩ dX9_way_6 rfl ?_
  refine v_if_eq C dX9_way_9 (tgt := 25) (by decide) rfl (fun c5 => ?_) (fun c5 => ?_)
  · have h := ifp c5 h
    refine v_ldc C dX9_way_25 rfl m_953 ?_
    obtain rfl := Option.some.inj h
    exact RET _ _ dX9_way_27
  · have h := ifn c5 h
    refine v_aload_n C dX9_way_12 rfl rfl 0 rfl ?_
    refine v_iload_n C dX9_way_13 rfl rfl 3 rfl ?_
    obtain ⟨r7, e6, h⟩ := bdS h
    refine v_callVi C yv_X9_isCourse m_967 (c_X9_isCourse e6) (Sub.whole hD _ _) ⟨_, _, _, _, _, wd_at sr_0, rfl⟩ (As := [.int a3]) rfl rfl (Nat.le_of_ble_eq_true rfl) ⟨Nat.le_of_ble_eq_true rfl, Nat.le_of_ble_eq_true rfl⟩ dX9_way_14 rfl ?_
    refine v_iload C dX9_way_17 rfl 4 rfl ?_
    obtain ⟨r9, e8, h⟩ := bdS h
    refine v_callSi C ys_X9_isThere m_1051 (c_X9_isThere e8) (Sub.whole hD _ _) (As := [.int r7, .int a4]) rfl rfl (Nat.le_of_ble_eq_true rfl) ⟨Nat.le_of_ble_eq_true rfl, Nat.le_of_ble_eq_true rfl⟩ dX9_way_19 rfl ?_
    refine v_if_ne C dX9_way_22 (tgt := 28) (by decide) rfl (fun c10 => ?_) (fun c10 => ?_)
    · have h := ifn c10 h
      refine v_aload_n C dX9_way_28 rfl rfl 0 rfl ?_
      refine v_iload_n C dX9_way_29 rfl rfl 1 rfl ?_
      refine v_iload_n C dX9_way_30 rfl rfl 2 rfl ?_
      obtain ⟨r13, K12, e11, h⟩ := bd2S h
      refine v_callVi C yv_X9_findsWays m_1129 (c_X9_findsWays e11) (Sub.whole hD _ _) ⟨_, _, _, _, _, wd_at sr_0, rfl⟩ (As := [.int a1, .int a2]) rfl rfl (Nat.le_of_ble_eq_true rfl) ⟨Nat.le_of_ble_eq_true rfl, Nat.le_of_ble_eq_true rfl⟩ dX9_way_31 rfl ?_
      refine v_istore C dX9_way_34 rfl (by decide) (L' := [(5, .int r13), (0, .ref (ad 0)), (1, .int a1), (2, .int a2), (3, .int a3), (4, .int a4)]) rfl ?_
      refine v_iload C dX9_way_36 rfl 0 rfl ?_
      refine v_if_ne C dX9_way_38 (tgt := 46) (by decide) rfl (fun c14 => ?_) (fun c14 => ?_)
      · have h := ifn c14 h
        refine v_aload_n C dX9_way_46 rfl rfl 1 rfl ?_
        refine v_getr C dX9_way_47 rfl ff_X9_46 sr_0 rfl ?_
        refine v_bipush C dX9_way_50 rfl bi_8 ?_
        refine v_iload_n C dX9_way_52 rfl rfl 4 rfl ?_
        refine v_imul C dX9_way_53 rfl ?_
        refine v_iload C dX9_way_54 rfl 5 rfl ?_
        refine v_iadd C dX9_way_56 rfl ?_
        obtain ⟨b15, h⟩ := gdS h
        refine v_iald C dX9_way_57 rfl sr_13 b15 ?_
        obtain ⟨r17, e16, h⟩ := bdS h
        refine v_callSi C ys_X9_orNone m_1146 (c_X9_orNone e16) (Sub.whole hD _ _) (As := [.int (K12 13 (Int32.toNatClampNeg ((8 * a3) + a4)))]) rfl rfl (Nat.le_of_ble_eq_true rfl) ⟨Nat.le_of_ble_eq_true rfl, Nat.le_of_ble_eq_true rfl⟩ dX9_way_58 rfl ?_
        obtain rfl := Option.some.inj h
        exact RET _ _ dX9_way_61
      · have h := ifp c14 h
        refine v_ldc C dX9_way_41 rfl m_1145 ?_
        refine v_goto C dX9_way_43 (tgt := 61) (by decide) ?_
        obtain rfl := Option.some.inj h
        exact RET _ _ dX9_way_61
    · have h := ifp c10 h
      refine v_ldc C dX9_way_25 rfl m_953 ?_
      obtain rfl := Option.some.inj h
      exact RET _ _ dX9_way_27
def C_X9_way (a1 : Int32) (a2 : Int32) (a3 : Int32) (a4 : Int32) (K : Mem) : Option (Int32 × Mem) := F_X9_way_0 a1 a2 a3 a4 K
set_option maxRecDepth 100000 in
theorem c_X9_way {l : Launch} {D : va_G} {cA : FieldType → ClassId} {X : Ex} {ad : Nat → Nat} {a1 : Int32} {a2 : Int32} {a3 : Int32} {a4 : Int32} {K : Mem} {r : Int32} {K' : Mem} (h : C_X9_way a1 a2 a3 a4 K = some (r, K')) : MI l D cA X yX9_way cX9_way 6 (some .int) 5 118 [.ref (ad 0), .int a1, .int a2, .int a3, .int a4] (wd cA ad K 0 shsR) (wd cA ad K' 0 shsR) r :=
  mI_of (by decide +kernel) (Nat.le_of_ble_eq_true rfl) (fun G h1 h2 h3 h4 C hD RET => by subst h1 h2 h3 h4; exact wF_X9_way_0 C (fun K' => wd_D K' hD) RET  h)
def F_X9_reach_0 (a1 : Int32) (a2 : Int32) (K : Mem) : Option (Int32 × Mem) :=
  bd (C_X9_isCourse K a1) fun r2 =>
  bd (C_X9_isThere r2 a2) fun r4 =>
  if r4 = 0 then (
    some ((-1000000001), K)
  ) else (
    bd2 (C_X9_findsWays a1 a2 K) fun r8 K7 =>
    some (r8, K7)
  )
set_option maxRecDepth 100000 in
set_option maxHeartbeats 4000000 in
theorem wF_X9_reach_0 {G : Ctx} {ad : Nat → Nat} (C : Cx G RX9 cX9_reach 3 5 118) (hD : ∀ K, va_D (gA G) (wd (gC G) ad K 0 shsR)) {res : (Int32 × Mem)} (RET : RI G cX9_reach 3 (wd (gC G) ad res.2 0 shsR) res.1) {a1 : Int32} {a2 : Int32} {K : Mem} (h : F_X9_reach_0 a1 a2 K = some res) : V G 3 (wd (gC G) ad K 0 shsR) 0 [(0, .ref (ad 0)), (1, .int a1), (2, .int a2)] [] := by
  unfold F_X9_reach_0 at h
  refine v_aload_n C dX9_reach_0 rfl rfl 0 rfl ?_
  refine v_iload_n C dX9_reach_1 rfl rfl 1 rfl ?_
  obtain ⟨r2, e1, h⟩ := bdS h
  refine v_callVi C yv_X9_isCourse m_967 (c_X9_isCourse e1) (Sub.whole hD _ _) ⟨_, _, _, _, _, wd_at sr_0, rfl⟩ (As := [.int a1]) rfl rfl (Nat.le_of_ble_eq_true rfl) ⟨Nat.le_of_ble_eq_true rfl, Nat.le_of_ble_eq_true rfl⟩ dX9_reach_2 rfl ?_
  refine v_iload_n C dX9_reach_5 rfl rfl 2 rfl ?_
  obtain ⟨r4, e3, h⟩ := bdS h
  refine v_callSi C ys_X9_isThere m_1051 (c_X9_isThere e3) (Sub.whole hD _ _) (As := [.int r2, .int a2]) rfl rfl (Nat.le_of_ble_eq_true rfl) ⟨Nat.le_of_ble_eq_true rfl, Nat.le_of_ble_eq_true rfl⟩ dX9_reach_6 rfl ?_
  refine v_if_eq C dX9_reach_9 (tgt := 21) (by decide) rfl (fun c5 => ?_) (fun c5 => ?_)
  · have h := ifp c5 h
    refine v_ldc C dX9_reach_21 rfl m_953 ?_
    obtain rfl := Option.some.inj h
    exact RET _ _ dX9_reach_23
  · have h := ifn c5 h
    refine v_aload_n C dX9_reach_12 rfl rfl 0 rfl ?_
    refine v_iload_n C dX9_reach_13 rfl rfl 1 rfl ?_
    refine v_iload_n C dX9_reach_14 rfl rfl 2 rfl ?_
    obtain ⟨r8, K7, e6, h⟩ := bd2S h
    refine v_callVi C yv_X9_findsWays m_1129 (c_X9_findsWays e6) (Sub.whole hD _ _) ⟨_, _, _, _, _, wd_at sr_0, rfl⟩ (As := [.int a1, .int a2]) rfl rfl (Nat.le_of_ble_eq_true rfl) ⟨Nat.le_of_ble_eq_true rfl, Nat.le_of_ble_eq_true rfl⟩ dX9_reach_15 rfl ?_
    refine v_goto C dX9_reach_18 (tgt := 23) (by decide) ?_
    obtain rfl := Option.some.inj h
    exact RET _ _ dX9_reach_23
def C_X9_reach (a1 : Int32) (a2 : Int32) (K : Mem) : Option (Int32 × Mem) := F_X9_reach_0 a1 a2 K
set_option maxRecDepth 100000 in
theorem c_X9_reach {l : Launch} {D : va_G} {cA : FieldType → ClassId} {X : Ex} {ad : Nat → Nat} {a1 : Int32} {a2 : Int32} {K : Mem} {r : Int32} {K' : Mem} (h : C_X9_reach a1 a2 K = some (r, K')) : MI l D cA X yX9_reach cX9_reach 3 (some .int) 5 118 [.ref (ad 0), .int a1, .int a2] (wd cA ad K 0 shsR) (wd cA ad K' 0 shsR) r :=
  mI_of (by decide +kernel) (Nat.le_of_ble_eq_true rfl) (fun G h1 h2 h3 h4 C hD RET => by subst h1 h2 h3 h4; exact wF_X9_reach_0 C (fun K' => wd_D K' hD) RET  h)
def F_X9_pulledWith_0 (a1 : Int32) (a2 : Int32) (K : Mem) : Option (Int32 × Mem) :=
  bd (C_X9_isLost K a1 a2) fun r2 =>
  if r2 = 0 then (
    bd2 (C_X9_holds K) fun r6 K5 =>
    bd (C_X9_losesOrNot a1 a2 K5) fun K8 =>
    bd2 (C_X9_holds K8) fun r11 K10 =>
    nm (r6 - r11) fun v12 =>
    bd (C_X9_losesOrNot a1 a2 K10) fun K14 =>
    some (v12, K14)
  ) else (
    some (0, K)
  )
set_option maxRecDepth 100000 in
set_option maxHeartbeats 4000000 in
theorem wF_X9_pulledWith_0 {G : Ctx} {ad : Nat → Nat} (C : Cx G RX9 cX9_pulledWith 5 3 69) (hD : ∀ K, va_D (gA G) (wd (gC G) ad K 0 shsR)) {res : (Int32 × Mem)} (RET : RI G cX9_pulledWith 5 (wd (gC G) ad res.2 0 shsR) res.1) {a1 : Int32} {a2 : Int32} {K : Mem} (h : F_X9_pulledWith_0 a1 a2 K = some res) : V G 5 (wd (gC G) ad K 0 shsR) 0 [(0, .ref (ad 0)), (1, .int a1), (2, .int a2)] [] := by
  unfold F_X9_pulledWith_0 at h
  refine v_aload_n C dX9_pulledWith_0 rfl rfl 0 rfl ?_
  refine v_iload_n C dX9_pulledWith_1 rfl rfl 1 rfl ?_
  refine v_iload_n C dX9_pulledWith_2 rfl rfl 2 rfl ?_
  obtain ⟨r2, e1, h⟩ := bdS h
  refine v_callVi C yv_X9_isLost m_1057 (c_X9_isLost e1) (Sub.whole hD _ _) ⟨_, _, _, _, _, wd_at sr_0, rfl⟩ (As := [.int a1, .int a2]) rfl rfl (Nat.le_of_ble_eq_true rfl) ⟨Nat.le_of_ble_eq_true rfl, Nat.le_of_ble_eq_true rfl⟩ dX9_pulledWith_3 rfl ?_
  refine v_if_eq C dX9_pulledWith_6 (tgt := 11) (by decide) rfl (fun c3 => ?_) (fun c3 => ?_)
  · have h := ifp c3 h
    refine v_aload_n C dX9_pulledWith_11 rfl rfl 0 rfl ?_
    obtain ⟨r6, K5, e4, h⟩ := bd2S h
    refine v_callVi C yv_X9_holds m_976 (c_X9_holds e4) (Sub.whole hD _ _) ⟨_, _, _, _, _, wd_at sr_0, rfl⟩ (As := []) rfl rfl (Nat.le_of_ble_eq_true rfl) ⟨Nat.le_of_ble_eq_true rfl, Nat.le_of_ble_eq_true rfl⟩ dX9_pulledWith_12 rfl ?_
    refine v_istore_n C dX9_pulledWith_15 rfl rfl (by decide) (L' := [(3, .int r6), (0, .ref (ad 0)), (1, .int a1), (2, .int a2)]) rfl ?_
    refine v_aload_n C dX9_pulledWith_16 rfl rfl 1 rfl ?_
    refine v_iload_n C dX9_pulledWith_17 rfl rfl 2 rfl ?_
    refine v_iload_n C dX9_pulledWith_18 rfl rfl 3 rfl ?_
    obtain ⟨K8, e7, h⟩ := bdS h
    refine v_callVv C yv_X9_losesOrNot m_1062 (c_X9_losesOrNot e7) (Sub.whole hD _ _) ⟨_, _, _, _, _, wd_at sr_0, rfl⟩ (As := [.int a1, .int a2]) rfl rfl (Nat.le_of_ble_eq_true rfl) ⟨Nat.le_of_ble_eq_true rfl, Nat.le_of_ble_eq_true rfl⟩ dX9_pulledWith_19 rfl ?_
    refine v_iload_n C dX9_pulledWith_22 rfl rfl 0 rfl ?_
    refine v_aload_n C dX9_pulledWith_23 rfl rfl 1 rfl ?_
    obtain ⟨r11, K10, e9, h⟩ := bd2S h
    refine v_callVi C yv_X9_holds m_976 (c_X9_holds e9) (Sub.whole hD _ _) ⟨_, _, _, _, _, wd_at sr_0, rfl⟩ (As := []) rfl rfl (Nat.le_of_ble_eq_true rfl) ⟨Nat.le_of_ble_eq_true rfl, Nat.le_of_ble_eq_true rfl⟩ dX9_pulledWith_24 rfl ?_
    refine v_isub C dX9_pulledWith_27 rfl ?_
    obtain ⟨v12, ev12, h⟩ := nmS h
    refine v_nmi ev12 ?_
    refine v_istore C dX9_pulledWith_28 rfl (by decide) (L' := [(4, .int v12), (3, .int r6), (0, .ref (ad 0)), (1, .int a1), (2, .int a2)]) rfl ?_
    refine v_aload_n C dX9_pulledWith_30 rfl rfl 2 rfl ?_
    refine v_iload_n C dX9_pulledWith_31 rfl rfl 3 rfl ?_
    refine v_iload_n C dX9_pulledWith_32 rfl rfl 4 rfl ?_
    obtain ⟨K14, e13, h⟩ := bdS h
    refine v_callVv C yv_X9_losesOrNot m_1062 (c_X9_losesOrNot e13) (Sub.whole hD _ _) ⟨_, _, _, _, _, wd_at sr_0, rfl⟩ (As := [.int a1, .int a2]) rfl rfl (Nat.le_of_ble_eq_true rfl) ⟨Nat.le_of_ble_eq_true rfl, Nat.le_of_ble_eq_true rfl⟩ dX9_pulledWith_33 rfl ?_
    refine v_iload C dX9_pulledWith_36 rfl 0 rfl ?_
    obtain rfl := Option.some.inj h
    exact RET _ _ dX9_pulledWith_38
  · have h := ifn c3 h
    refine v_iconst C dX9_pulledWith_9 rfl ic_0 ?_
    obtain rfl := Option.some.inj h
    exact RET _ _ dX9_pulledWith_10
def C_X9_pulledWith (a1 : Int32) (a2 : Int32) (K : Mem) : Option (Int32 × Mem) := F_X9_pulledWith_0 a1 a2 K
set_option maxRecDepth 100000 in
theorem c_X9_pulledWith {l : Launch} {D : va_G} {cA : FieldType → ClassId} {X : Ex} {ad : Nat → Nat} {a1 : Int32} {a2 : Int32} {K : Mem} {r : Int32} {K' : Mem} (h : C_X9_pulledWith a1 a2 K = some (r, K')) : MI l D cA X yX9_pulledWith cX9_pulledWith 5 (some .int) 3 69 [.ref (ad 0), .int a1, .int a2] (wd cA ad K 0 shsR) (wd cA ad K' 0 shsR) r :=
  mI_of (by decide +kernel) (Nat.le_of_ble_eq_true rfl) (fun G h1 h2 h3 h4 C hD RET => by subst h1 h2 h3 h4; exact wF_X9_pulledWith_0 C (fun K' => wd_D K' hD) RET  h)
def F_X9_pulled_0 (a1 : Int32) (a2 : Int32) (K : Mem) : Option (Int32 × Mem) :=
  bd (C_X9_isCourse K a1) fun r2 =>
  bd (C_X9_isThere r2 a2) fun r4 =>
  if r4 = 0 then (
    some ((-1000000001), K)
  ) else (
    bd2 (C_X9_pulledWith a1 a2 K) fun r8 K7 =>
    some (r8, K7)
  )
set_option maxRecDepth 100000 in
set_option maxHeartbeats 4000000 in
theorem wF_X9_pulled_0 {G : Ctx} {ad : Nat → Nat} (C : Cx G RX9 cX9_pulled 3 4 93) (hD : ∀ K, va_D (gA G) (wd (gC G) ad K 0 shsR)) {res : (Int32 × Mem)} (RET : RI G cX9_pulled 3 (wd (gC G) ad res.2 0 shsR) res.1) {a1 : Int32} {a2 : Int32} {K : Mem} (h : F_X9_pulled_0 a1 a2 K = some res) : V G 3 (wd (gC G) ad K 0 shsR) 0 [(0, .ref (ad 0)), (1, .int a1), (2, .int a2)] [] := by
  unfold F_X9_pulled_0 at h
  refine v_aload_n C dX9_pulled_0 rfl rfl 0 rfl ?_
  refine v_iload_n C dX9_pulled_1 rfl rfl 1 rfl ?_
  obtain ⟨r2, e1, h⟩ := bdS h
  refine v_callVi C yv_X9_isCourse m_967 (c_X9_isCourse e1) (Sub.whole hD _ _) ⟨_, _, _, _, _, wd_at sr_0, rfl⟩ (As := [.int a1]) rfl rfl (Nat.le_of_ble_eq_true rfl) ⟨Nat.le_of_ble_eq_true rfl, Nat.le_of_ble_eq_true rfl⟩ dX9_pulled_2 rfl ?_
  refine v_iload_n C dX9_pulled_5 rfl rfl 2 rfl ?_
  obtain ⟨r4, e3, h⟩ := bdS h
  refine v_callSi C ys_X9_isThere m_1051 (c_X9_isThere e3) (Sub.whole hD _ _) (As := [.int r2, .int a2]) rfl rfl (Nat.le_of_ble_eq_true rfl) ⟨Nat.le_of_ble_eq_true rfl, Nat.le_of_ble_eq_true rfl⟩ dX9_pulled_6 rfl ?_
  refine v_if_eq C dX9_pulled_9 (tgt := 21) (by decide) rfl (fun c5 => ?_) (fun c5 => ?_)
  · have h := ifp c5 h
    refine v_ldc C dX9_pulled_21 rfl m_953 ?_
    obtain rfl := Option.some.inj h
    exact RET _ _ dX9_pulled_23
  · have h := ifn c5 h
    refine v_aload_n C dX9_pulled_12 rfl rfl 0 rfl ?_
    refine v_iload_n C dX9_pulled_13 rfl rfl 1 rfl ?_
    refine v_iload_n C dX9_pulled_14 rfl rfl 2 rfl ?_
    obtain ⟨r8, K7, e6, h⟩ := bd2S h
    refine v_callVi C yv_X9_pulledWith m_1157 (c_X9_pulledWith e6) (Sub.whole hD _ _) ⟨_, _, _, _, _, wd_at sr_0, rfl⟩ (As := [.int a1, .int a2]) rfl rfl (Nat.le_of_ble_eq_true rfl) ⟨Nat.le_of_ble_eq_true rfl, Nat.le_of_ble_eq_true rfl⟩ dX9_pulled_15 rfl ?_
    refine v_goto C dX9_pulled_18 (tgt := 23) (by decide) ?_
    obtain rfl := Option.some.inj h
    exact RET _ _ dX9_pulled_23
def C_X9_pulled (a1 : Int32) (a2 : Int32) (K : Mem) : Option (Int32 × Mem) := F_X9_pulled_0 a1 a2 K
set_option maxRecDepth 100000 in
theorem c_X9_pulled {l : Launch} {D : va_G} {cA : FieldType → ClassId} {X : Ex} {ad : Nat → Nat} {a1 : Int32} {a2 : Int32} {K : Mem} {r : Int32} {K' : Mem} (h : C_X9_pulled a1 a2 K = some (r, K')) : MI l D cA X yX9_pulled cX9_pulled 3 (some .int) 4 93 [.ref (ad 0), .int a1, .int a2] (wd cA ad K 0 shsR) (wd cA ad K' 0 shsR) r :=
  mI_of (by decide +kernel) (Nat.le_of_ble_eq_true rfl) (fun G h1 h2 h3 h4 C hD RET => by subst h1 h2 h3 h4; exact wF_X9_pulled_0 C (fun K' => wd_D K' hD) RET  h)
def F_X9_worst_64 (k22 : Int32 → Int32 → Int32 → Int32 → Mem → Option (Int32 × Mem)) (a1 : Int32) (a3 : Int32) (a4 : Int32) (a5 : Int32) (t0 : Int32) (K : Mem) : Option (Int32 × Mem) :=
  if a5 ≤ a3 then (
    nm (a4 + 1) fun v14 =>
    k22 a1 t0 a3 v14 K
  ) else (
    nm (a4 + 1) fun v15 =>
    k22 a1 t0 a5 v15 K
  )
set_option maxRecDepth 100000 in
set_option maxHeartbeats 4000000 in
theorem wF_X9_worst_64 {G : Ctx} {ad : Nat → Nat} {k22 : Int32 → Int32 → Int32 → Int32 → Mem → Option (Int32 × Mem)} (C : Cx G RX9 cX9_worst 6 4 93) (hD : ∀ K, va_D (gA G) (wd (gC G) ad K 0 shsR)) {res : (Int32 × Mem)} (RET : RI G cX9_worst 6 (wd (gC G) ad res.2 0 shsR) res.1) (hk22 : ∀ {a1 : Int32} {a2 : Int32} {a3 : Int32} {a4 : Int32} {K : Mem} , k22 a1 a2 a3 a4 K = some res → V G 6 (wd (gC G) ad K 0 shsR) 22 [(0, .ref (ad 0)), (1, .int a1), (2, .int a2), (3, .int a3), (4, .int a4)] []) {a1 : Int32} {a3 : Int32} {a4 : Int32} {a5 : Int32} {t0 : Int32} {K : Mem} (h : F_X9_worst_64 k22 a1 a3 a4 a5 t0 K = some res) : V G 6 (wd (gC G) ad K 0 shsR) 64 [(0, .ref (ad 0)), (1, .int a1), (3, .int a3), (4, .int a4), (5, .int a5)] [.int t0] := by
  unfold F_X9_worst_64 at h
  refine v_istore_n C dX9_worst_64 rfl rfl (by decide) (L' := [(2, .int t0), (0, .ref (ad 0)), (1, .int a1), (3, .int a3), (4, .int a4), (5, .int a5)]) rfl ?_
  refine v_iload C dX9_worst_65 rfl 5 rfl ?_
  refine v_iload_n C dX9_worst_67 rfl rfl 3 rfl ?_
  refine v_icmp_le C dX9_worst_68 (tgt := 76) (by decide) rfl (fun c13 => ?_) (fun c13 => ?_)
  · have h := ifp c13 h
    refine v_iload_n C dX9_worst_76 rfl rfl 3 rfl ?_
    refine v_istore_n C dX9_worst_77 rfl rfl (by decide) (L' := [(3, .int a3), (2, .int t0), (0, .ref (ad 0)), (1, .int a1), (4, .int a4), (5, .int a5)]) rfl ?_
    obtain ⟨v14, ev14, h⟩ := nmS h
    refine v_iinc C dX9_worst_78 rfl 4 rfl (v := v14) (by rw [ev14]; rfl) (by decide) (L' := [(4, .int v14), (3, .int a3), (2, .int t0), (0, .ref (ad 0)), (1, .int a1), (5, .int a5)]) rfl ?_
    refine v_goto C dX9_worst_81 (tgt := 22) (by decide) ?_
    refine v_sub [3, 4, 2, 1, 0] rfl ?_
    exact hk22 h
  · have h := ifn c13 h
    refine v_iload C dX9_worst_71 rfl 5 rfl ?_
    refine v_goto C dX9_worst_73 (tgt := 77) (by decide) ?_
    refine v_istore_n C dX9_worst_77 rfl rfl (by decide) (L' := [(3, .int a5), (2, .int t0), (0, .ref (ad 0)), (1, .int a1), (4, .int a4), (5, .int a5)]) rfl ?_
    obtain ⟨v15, ev15, h⟩ := nmS h
    refine v_iinc C dX9_worst_78 rfl 4 rfl (v := v15) (by rw [ev15]; rfl) (by decide) (L' := [(4, .int v15), (3, .int a5), (2, .int t0), (0, .ref (ad 0)), (1, .int a1), (5, .int a5)]) rfl ?_
    refine v_goto C dX9_worst_81 (tgt := 22) (by decide) ?_
    refine v_sub [3, 4, 2, 1, 0] rfl ?_
    exact hk22 h
def F_X9_worst_22 (k22 : Int32 → Int32 → Int32 → Int32 → Mem → Option (Int32 × Mem)) (a1 : Int32) (a2 : Int32) (a3 : Int32) (a4 : Int32) (K : Mem) : Option (Int32 × Mem) :=
  gd (inb 0 3058) <|
  if (8 * (K 1 (Int32.toNatClampNeg 0))) ≤ a4 then (
    if 0 ≤ a2 then (
      if a1 = 0 then (
        some (a2 / 8, K)
      ) else (
        if a1 = 1 then (
          some (jrem a2 8, K)
        ) else (
          some (a3, K)
        )
      )
    ) else (
      some ((-1000000005), K)
    )
  ) else (
    bd2 (C_X9_pulledWith (a4 / 8) (jrem a4 8) K) fun r11 K10 =>
    if r11 ≤ a3 then (
      F_X9_worst_64 k22 a1 a3 a4 r11 a2 K10
    ) else (
      F_X9_worst_64 k22 a1 a3 a4 r11 a4 K10
    )
  )
def L_X9_worst_22 : Nat → Int32 → Int32 → Int32 → Int32 → Mem → Option (Int32 × Mem)
  | 0, _, _, _, _, _ => none
  | n + 1, a1, a2, a3, a4, K => F_X9_worst_22 (fun a1 a2 a3 a4 K => L_X9_worst_22 n a1 a2 a3 a4 K) a1 a2 a3 a4 K
set_option maxRecDepth 100000 in
set_option maxHeartbeats 4000000 in
theorem wF_X9_worst_22 {G : Ctx} {ad : Nat → Nat} {k22 : Int32 → Int32 → Int32 → Int32 → Mem → Option (Int32 × Mem)} (C : Cx G RX9 cX9_worst 6 4 93) (hD : ∀ K, va_D (gA G) (wd (gC G) ad K 0 shsR)) {res : (Int32 × Mem)} (RET : RI G cX9_worst 6 (wd (gC G) ad res.2 0 shsR) res.1) (hk22 : ∀ {a1 : Int32} {a2 : Int32} {a3 : Int32} {a4 : Int32} {K : Mem} , k22 a1 a2 a3 a4 K = some res → V G 6 (wd (gC G) ad K 0 shsR) 22 [(0, .ref (ad 0)), (1, .int a1), (2, .int a2), (3, .int a3), (4, .int a4)] []) {a1 : Int32} {a2 : Int32} {a3 : Int32} {a4 : Int32} {K : Mem} (h : F_X9_worst_22 k22 a1 a2 a3 a4 K = some res) : V G 6 (wd (gC G) ad K 0 shsR) 22 [(0, .ref (ad 0)), (1, .int a1), (2, .int a2), (3, .int a3), (4, .int a4)] [] := by
  unfold F_X9_worst_22 at h
  refine v_iload C dX9_worst_22 rfl 4 rfl ?_
  refine v_bipush C dX9_worst_24 rfl bi_8 ?_
  refine v_aload_n C dX9_worst_26 rfl rfl 0 rfl ?_
  refine v_getr C dX9_worst_27 rfl ff_X9_7 sr_0 rfl ?_
  refine v_iconst C dX9_worst_30 rfl ic_0 ?_
  obtain ⟨b4, h⟩ := gdS h
  refine v_iald C dX9_worst_31 rfl sr_1 b4 ?_
  refine v_imul C dX9_worst_32 rfl ?_
  refine v_icmp_ge C dX9_worst_33 (tgt := 84) (by decide) rfl (fun c5 => ?_) (fun c5 => ?_)
  · have h := ifp c5 h
    refine v_iload_n C dX9_worst_84 rfl rfl 2 rfl ?_
    refine v_if_ge C dX9_worst_85 (tgt := 93) (by decide) rfl (fun c6 => ?_) (fun c6 => ?_)
    · have h := ifp c6 h
      refine v_iload_n C dX9_worst_93 rfl rfl 1 rfl ?_
      refine v_if_ne C dX9_worst_94 (tgt := 104) (by decide) rfl (fun c7 => ?_) (fun c7 => ?_)
      · have h := ifn c7 h
        refine v_iload_n C dX9_worst_104 rfl rfl 1 rfl ?_
        refine v_iconst C dX9_worst_105 rfl ic_1 ?_
        refine v_icmp_ne C dX9_worst_106 (tgt := 116) (by decide) rfl (fun c8 => ?_) (fun c8 => ?_)
        · have h := ifn c8 h
          refine v_iload_n C dX9_worst_116 rfl rfl 3 rfl ?_
          obtain rfl := Option.some.inj h
          exact RET _ _ dX9_worst_117
        · have h := ifp c8 h
          refine v_iload_n C dX9_worst_109 rfl rfl 2 rfl ?_
          refine v_bipush C dX9_worst_110 rfl bi_8 ?_
          refine v_irem C dX9_worst_112 rfl (by decide) ?_
          refine v_goto C dX9_worst_113 (tgt := 117) (by decide) ?_
          obtain rfl := Option.some.inj h
          exact RET _ _ dX9_worst_117
      · have h := ifp c7 h
        refine v_iload_n C dX9_worst_97 rfl rfl 2 rfl ?_
        refine v_bipush C dX9_worst_98 rfl bi_8 ?_
        refine v_idiv C dX9_worst_100 rfl (by decide) ?_
        refine v_goto C dX9_worst_101 (tgt := 117) (by decide) ?_
        obtain rfl := Option.some.inj h
        exact RET _ _ dX9_worst_117
    · have h := ifn c6 h
      refine v_ldc C dX9_worst_88 rfl m_1145 ?_
      refine v_goto C dX9_worst_90 (tgt := 117) (by decide) ?_
      obtain rfl := Option.some.inj h
      exact RET _ _ dX9_worst_117
  · have h := ifn c5 h
    refine v_aload_n C dX9_worst_36 rfl rfl 0 rfl ?_
    refine v_iload C dX9_worst_37 rfl 4 rfl ?_
    refine v_bipush C dX9_worst_39 rfl bi_8 ?_
    refine v_idiv C dX9_worst_41 rfl (by decide) ?_
    refine v_iload C dX9_worst_42 rfl 4 rfl ?_
    refine v_bipush C dX9_worst_44 rfl bi_8 ?_
    refine v_irem C dX9_worst_46 rfl (by decide) ?_
    obtain ⟨r11, K10, e9, h⟩ := bd2S h
    refine v_callVi C yv_X9_pulledWith m_1157 (c_X9_pulledWith e9) (Sub.whole hD _ _) ⟨_, _, _, _, _, wd_at sr_0, rfl⟩ (As := [.int (a4 / 8), .int (jrem a4 8)]) rfl rfl (Nat.le_of_ble_eq_true rfl) ⟨Nat.le_of_ble_eq_true rfl, Nat.le_of_ble_eq_true rfl⟩ dX9_worst_47 rfl ?_
    refine v_istore C dX9_worst_50 rfl (by decide) (L' := [(5, .int r11), (0, .ref (ad 0)), (1, .int a1), (2, .int a2), (3, .int a3), (4, .int a4)]) rfl ?_
    refine v_iload C dX9_worst_52 rfl 0 rfl ?_
    refine v_iload_n C dX9_worst_54 rfl rfl 4 rfl ?_
    refine v_icmp_le C dX9_worst_55 (tgt := 63) (by decide) rfl (fun c12 => ?_) (fun c12 => ?_)
    · have h := ifp c12 h
      refine v_iload_n C dX9_worst_63 rfl rfl 3 rfl ?_
      refine v_sub [1, 2, 4, 5, 0] rfl ?_
      exact wF_X9_worst_64 C hD RET hk22 h
    · have h := ifn c12 h
      refine v_iload C dX9_worst_58 rfl 5 rfl ?_
      refine v_goto C dX9_worst_60 (tgt := 64) (by decide) ?_
      refine v_sub [1, 2, 4, 5, 0] rfl ?_
      exact wF_X9_worst_64 C hD RET hk22 h
theorem wL_X9_worst_22 {G : Ctx} {ad : Nat → Nat} (C : Cx G RX9 cX9_worst 6 4 93) (hD : ∀ K, va_D (gA G) (wd (gC G) ad K 0 shsR)) {res : (Int32 × Mem)} (RET : RI G cX9_worst 6 (wd (gC G) ad res.2 0 shsR) res.1) : ∀ (n : Nat) {a1 : Int32} {a2 : Int32} {a3 : Int32} {a4 : Int32} {K : Mem} (h : L_X9_worst_22 n a1 a2 a3 a4 K = some res), V G 6 (wd (gC G) ad K 0 shsR) 22 [(0, .ref (ad 0)), (1, .int a1), (2, .int a2), (3, .int a3), (4, .int a4)] [] := by
  intro n
  induction n with
  | zero =>
    intro a1 a2 a3 a4 K h
    cases (show (none : Option (Int32 × Mem)) = some res from h)
  | succ n ih =>
    intro a1 a2 a3 a4 K h
    exact wF_X9_worst_22 (k22 := fun a1 a2 a3 a4 K => L_X9_worst_22  n a1 a2 a3 a4 K) C hD RET (fun h => ih h) h
def F_X9_worst_0 (a1 : Int32) (K : Mem) : Option (Int32 × Mem) :=
  bd (C_X9_isIn (Int32.toInt64 a1) 0 2) fun r2 =>
  if r2 = 0 then (
    some ((-1000000001), K)
  ) else (
    L_X9_worst_22 FU a1 (-1) (-1) 0 K
  )
set_option maxRecDepth 100000 in
set_option maxHeartbeats 4000000 in
theorem wF_X9_worst_0 {G : Ctx} {ad : Nat → Nat} (C : Cx G RX9 cX9_worst 6 4 93) (hD : ∀ K, va_D (gA G) (wd (gC G) ad K 0 shsR)) {res : (Int32 × Mem)} (RET : RI G cX9_worst 6 (wd (gC G) ad res.2 0 shsR) res.1) {a1 : Int32} {K : Mem} (h : F_X9_worst_0 a1 K = some res) : V G 6 (wd (gC G) ad K 0 shsR) 0 [(0, .ref (ad 0)), (1, .int a1)] [] := by
  unfold F_X9_worst_0 at h
  refine v_iload_n C dX9_worst_0 rfl rfl 1 rfl ?_
  refine v_i2l C dX9_worst_1 rfl ?_
  refine v_lconst C dX9_worst_2 rfl (v := 0) (by decide) ?_
  refine v_ldc2 C dX9_worst_3 rfl m_1045 ?_
  obtain ⟨r2, e1, h⟩ := bdS h
  refine v_callSi C ys_X9_isIn m_949 (c_X9_isIn e1) (Sub.whole hD _ _) (As := [.long (Int32.toInt64 a1), .long 0, .long 2]) rfl rfl (Nat.le_of_ble_eq_true rfl) ⟨Nat.le_of_ble_eq_true rfl, Nat.le_of_ble_eq_true rfl⟩ dX9_worst_6 rfl ?_
  refine v_if_ne C dX9_worst_9 (tgt := 15) (by decide) rfl (fun c3 => ?_) (fun c3 => ?_)
  · have h := ifn c3 h
    refine v_iconst C dX9_worst_15 rfl ic_n1 ?_
    refine v_istore_n C dX9_worst_16 rfl rfl (by decide) (L' := [(2, .int (-1)), (0, .ref (ad 0)), (1, .int a1)]) rfl ?_
    refine v_iconst C dX9_worst_17 rfl ic_n1 ?_
    refine v_istore_n C dX9_worst_18 rfl rfl (by decide) (L' := [(3, .int (-1)), (2, .int (-1)), (0, .ref (ad 0)), (1, .int a1)]) rfl ?_
    refine v_iconst C dX9_worst_19 rfl ic_0 ?_
    refine v_istore C dX9_worst_20 rfl (by decide) (L' := [(4, .int 0), (3, .int (-1)), (2, .int (-1)), (0, .ref (ad 0)), (1, .int a1)]) rfl ?_
    refine v_sub [3, 4, 2, 1, 0] rfl ?_
    exact wL_X9_worst_22 C hD RET FU h
  · have h := ifp c3 h
    refine v_ldc C dX9_worst_12 rfl m_953 ?_
    obtain rfl := Option.some.inj h
    exact RET _ _ dX9_worst_14
def C_X9_worst (a1 : Int32) (K : Mem) : Option (Int32 × Mem) := F_X9_worst_0 a1 K
set_option maxRecDepth 100000 in
theorem c_X9_worst {l : Launch} {D : va_G} {cA : FieldType → ClassId} {X : Ex} {ad : Nat → Nat} {a1 : Int32} {K : Mem} {r : Int32} {K' : Mem} (h : C_X9_worst a1 K = some (r, K')) : MI l D cA X yX9_worst cX9_worst 6 (some .int) 4 93 [.ref (ad 0), .int a1] (wd cA ad K 0 shsR) (wd cA ad K' 0 shsR) r :=
  mI_of (by decide +kernel) (Nat.le_of_ble_eq_true rfl) (fun G h1 h2 h3 h4 C hD RET => by subst h1 h2 h3 h4; exact wF_X9_worst_0 C (fun K' => wd_D K' hD) RET  h)
def F_X9_needs_52 (k25 : Int32 → Int32 → Int32 → Option Int32) (k52 : Int32 → Int32 → Int32 → Int32 → Int32 → Option Int32) (K : Mem) (a3 : Int32) (a4 : Int32) (a5 : Int32) (a6 : Int32) (a7 : Int32) : Option Int32 :=
  if 8 ≤ a7 then (
    nm (a5 + (-1)) fun v14 =>
    k25 a3 a6 v14
  ) else (
    bd (C_X9_isAmong a4 a7) fun r16 =>
    if r16 = 0 then (
      nm (a6 ||| 0) fun v18 =>
      nm (a7 + 1) fun v19 =>
      k52 a3 a4 a5 v18 v19
    ) else (
      bd (C_X9_hangs K a5 a7) fun r21 =>
      nm (a6 ||| r21) fun v22 =>
      nm (a7 + 1) fun v23 =>
      k52 a3 a4 a5 v22 v23
    )
  )
def L_X9_needs_52 (k25 : Int32 → Int32 → Int32 → Option Int32) (K : Mem) : Nat → Int32 → Int32 → Int32 → Int32 → Int32 → Option Int32
  | 0, _, _, _, _, _ => none
  | n + 1, a3, a4, a5, a6, a7 => F_X9_needs_52 k25 (fun a3 a4 a5 a6 a7 => L_X9_needs_52 k25 K n a3 a4 a5 a6 a7) K a3 a4 a5 a6 a7
set_option maxRecDepth 100000 in
set_option maxHeartbeats 4000000 in
theorem wF_X9_needs_52 {G : Ctx} {ad : Nat → Nat} {K : Mem} {k25 : Int32 → Int32 → Int32 → Option Int32} {k52 : Int32 → Int32 → Int32 → Int32 → Int32 → Option Int32} (C : Cx G RX9 cX9_needs 8 3 66) (hD : ∀ K, va_D (gA G) (wd (gC G) ad K 0 shsR)) {res : Int32} (RET : RI G cX9_needs 8 (wd (gC G) ad K 0 shsR) res) (hk25 : ∀ {a3 : Int32} {a4 : Int32} {a5 : Int32} , k25 a3 a4 a5 = some res → V G 8 (wd (gC G) ad K 0 shsR) 25 [(0, .ref (ad 0)), (3, .int a3), (4, .int a4), (5, .int a5)] []) (hk52 : ∀ {a3 : Int32} {a4 : Int32} {a5 : Int32} {a6 : Int32} {a7 : Int32} , k52 a3 a4 a5 a6 a7 = some res → V G 8 (wd (gC G) ad K 0 shsR) 52 [(0, .ref (ad 0)), (3, .int a3), (4, .int a4), (5, .int a5), (6, .int a6), (7, .int a7)] []) {a3 : Int32} {a4 : Int32} {a5 : Int32} {a6 : Int32} {a7 : Int32} (h : F_X9_needs_52 k25 k52 K a3 a4 a5 a6 a7 = some res) : V G 8 (wd (gC G) ad K 0 shsR) 52 [(0, .ref (ad 0)), (3, .int a3), (4, .int a4), (5, .int a5), (6, .int a6), (7, .int a7)] [] := by
  unfold F_X9_needs_52 at h
  refine v_iload C dX9_needs_52 rfl 5 rfl ?_
  refine v_bipush C dX9_needs_54 rfl bi_8 ?_
  refine v_icmp_ge C dX9_needs_56 (tgt := 92) (by decide) rfl (fun c13 => ?_) (fun c13 => ?_)
  · have h := ifp c13 h
    refine v_iload C dX9_needs_92 rfl 4 rfl ?_
    refine v_istore C dX9_needs_94 rfl (by decide) (L' := [(4, .int a6), (0, .ref (ad 0)), (3, .int a3), (5, .int a5), (6, .int a6), (7, .int a7)]) rfl ?_
    obtain ⟨v14, ev14, h⟩ := nmS h
    refine v_iinc C dX9_needs_96 rfl 3 rfl (v := v14) (by rw [ev14]; rfl) (by decide) (L' := [(5, .int v14), (4, .int a6), (0, .ref (ad 0)), (3, .int a3), (6, .int a6), (7, .int a7)]) rfl ?_
    refine v_goto C dX9_needs_99 (tgt := 25) (by decide) ?_
    refine v_sub [2, 3, 1, 0] rfl ?_
    exact hk25 h
  · have h := ifn c13 h
    refine v_iload C dX9_needs_59 rfl 4 rfl ?_
    refine v_iload C dX9_needs_61 rfl 2 rfl ?_
    refine v_iload C dX9_needs_63 rfl 5 rfl ?_
    obtain ⟨r16, e15, h⟩ := bdS h
    refine v_callSi C ys_X9_isAmong m_984 (c_X9_isAmong e15) (Sub.whole hD _ _) (As := [.int a4, .int a7]) rfl rfl (Nat.le_of_ble_eq_true rfl) ⟨Nat.le_of_ble_eq_true rfl, Nat.le_of_ble_eq_true rfl⟩ dX9_needs_65 rfl ?_
    refine v_if_eq C dX9_needs_68 (tgt := 82) (by decide) rfl (fun c17 => ?_) (fun c17 => ?_)
    · have h := ifp c17 h
      refine v_iconst C dX9_needs_82 rfl ic_0 ?_
      refine v_ior C dX9_needs_83 rfl ?_
      obtain ⟨v18, ev18, h⟩ := nmS h
      refine v_nmi ev18 ?_
      refine v_istore C dX9_needs_84 rfl (by decide) (L' := [(6, .int v18), (0, .ref (ad 0)), (3, .int a3), (4, .int a4), (5, .int a5), (7, .int a7)]) rfl ?_
      obtain ⟨v19, ev19, h⟩ := nmS h
      refine v_iinc C dX9_needs_86 rfl 5 rfl (v := v19) (by rw [ev19]; rfl) (by decide) (L' := [(7, .int v19), (6, .int v18), (0, .ref (ad 0)), (3, .int a3), (4, .int a4), (5, .int a5)]) rfl ?_
      refine v_goto C dX9_needs_89 (tgt := 52) (by decide) ?_
      refine v_sub [2, 3, 4, 5, 1, 0] rfl ?_
      exact hk52 h
    · have h := ifn c17 h
      refine v_aload_n C dX9_needs_71 rfl rfl 0 rfl ?_
      refine v_iload C dX9_needs_72 rfl 3 rfl ?_
      refine v_iload C dX9_needs_74 rfl 5 rfl ?_
      obtain ⟨r21, e20, h⟩ := bdS h
      refine v_callVi C yv_X9_hangs m_987 (c_X9_hangs e20) (Sub.whole hD _ _) ⟨_, _, _, _, _, wd_at sr_0, rfl⟩ (As := [.int a5, .int a7]) rfl rfl (Nat.le_of_ble_eq_true rfl) ⟨Nat.le_of_ble_eq_true rfl, Nat.le_of_ble_eq_true rfl⟩ dX9_needs_76 rfl ?_
      refine v_goto C dX9_needs_79 (tgt := 83) (by decide) ?_
      refine v_ior C dX9_needs_83 rfl ?_
      obtain ⟨v22, ev22, h⟩ := nmS h
      refine v_nmi ev22 ?_
      refine v_istore C dX9_needs_84 rfl (by decide) (L' := [(6, .int v22), (0, .ref (ad 0)), (3, .int a3), (4, .int a4), (5, .int a5), (7, .int a7)]) rfl ?_
      obtain ⟨v23, ev23, h⟩ := nmS h
      refine v_iinc C dX9_needs_86 rfl 5 rfl (v := v23) (by rw [ev23]; rfl) (by decide) (L' := [(7, .int v23), (6, .int v22), (0, .ref (ad 0)), (3, .int a3), (4, .int a4), (5, .int a5)]) rfl ?_
      refine v_goto C dX9_needs_89 (tgt := 52) (by decide) ?_
      refine v_sub [2, 3, 4, 5, 1, 0] rfl ?_
      exact hk52 h
theorem wL_X9_needs_52 {G : Ctx} {ad : Nat → Nat} {K : Mem} {k25 : Int32 → Int32 → Int32 → Option Int32} (C : Cx G RX9 cX9_needs 8 3 66) (hD : ∀ K, va_D (gA G) (wd (gC G) ad K 0 shsR)) {res : Int32} (RET : RI G cX9_needs 8 (wd (gC G) ad K 0 shsR) res) (hk25 : ∀ {a3 : Int32} {a4 : Int32} {a5 : Int32} , k25 a3 a4 a5 = some res → V G 8 (wd (gC G) ad K 0 shsR) 25 [(0, .ref (ad 0)), (3, .int a3), (4, .int a4), (5, .int a5)] []) : ∀ (n : Nat) {a3 : Int32} {a4 : Int32} {a5 : Int32} {a6 : Int32} {a7 : Int32} (h : L_X9_needs_52 k25 K n a3 a4 a5 a6 a7 = some res), V G 8 (wd (gC G) ad K 0 shsR) 52 [(0, .ref (ad 0)), (3, .int a3), (4, .int a4), (5, .int a5), (6, .int a6), (7, .int a7)] [] := by
  intro n
  induction n with
  | zero =>
    intro a3 a4 a5 a6 a7 h
    cases (show (none : Option Int32) = some res from h)
  | succ n ih =>
    intro a3 a4 a5 a6 a7 h
    exact wF_X9_needs_52 (k52 := fun a3 a4 a5 a6 a7 => L_X9_needs_52 k25 K n a3 a4 a5 a6 a7) C hD RET hk25 (fun h => ih h) h
def F_X9_needs_25 (k25 : Int32 → Int32 → Int32 → Option Int32) (K : Mem) (a3 : Int32) (a4 : Int32) (a5 : Int32) : Option Int32 :=
  if a5 < 0 then (
    some a3
  ) else (
    bd (C_X9_of K a5 3) fun r9 =>
    bd (C_X9_bits (a4 &&& r9)) fun r11 =>
    nm (a3 + r11) fun v12 =>
    L_X9_needs_52 k25 K FU v12 a4 a5 0 0
  )
def L_X9_needs_25 (K : Mem) : Nat → Int32 → Int32 → Int32 → Option Int32
  | 0, _, _, _ => none
  | n + 1, a3, a4, a5 => F_X9_needs_25 (fun a3 a4 a5 => L_X9_needs_25 K n a3 a4 a5) K a3 a4 a5
set_option maxRecDepth 100000 in
set_option maxHeartbeats 4000000 in
theorem wF_X9_needs_25 {G : Ctx} {ad : Nat → Nat} {K : Mem} {k25 : Int32 → Int32 → Int32 → Option Int32} (C : Cx G RX9 cX9_needs 8 3 66) (hD : ∀ K, va_D (gA G) (wd (gC G) ad K 0 shsR)) {res : Int32} (RET : RI G cX9_needs 8 (wd (gC G) ad K 0 shsR) res) (hk25 : ∀ {a3 : Int32} {a4 : Int32} {a5 : Int32} , k25 a3 a4 a5 = some res → V G 8 (wd (gC G) ad K 0 shsR) 25 [(0, .ref (ad 0)), (3, .int a3), (4, .int a4), (5, .int a5)] []) {a3 : Int32} {a4 : Int32} {a5 : Int32} (h : F_X9_needs_25 k25 K a3 a4 a5 = some res) : V G 8 (wd (gC G) ad K 0 shsR) 25 [(0, .ref (ad 0)), (3, .int a3), (4, .int a4), (5, .int a5)] [] := by
  unfold F_X9_needs_25 at h
  refine v_iload C dX9_needs_25 rfl 3 rfl ?_
  refine v_if_lt C dX9_needs_27 (tgt := 102) (by decide) rfl (fun c7 => ?_) (fun c7 => ?_)
  · have h := ifp c7 h
    refine v_iload_n C dX9_needs_102 rfl rfl 1 rfl ?_
    obtain rfl := Option.some.inj h
    exact RET _ _ dX9_needs_103
  · have h := ifn c7 h
    refine v_iload_n C dX9_needs_30 rfl rfl 1 rfl ?_
    refine v_iload C dX9_needs_31 rfl 2 rfl ?_
    refine v_aload_n C dX9_needs_33 rfl rfl 0 rfl ?_
    refine v_iload C dX9_needs_34 rfl 3 rfl ?_
    refine v_iconst C dX9_needs_36 rfl ic_3 ?_
    obtain ⟨r9, e8, h⟩ := bdS h
    refine v_callVi C yv_X9_of m_980 (c_X9_of e8) (Sub.whole hD _ _) ⟨_, _, _, _, _, wd_at sr_0, rfl⟩ (As := [.int a5, .int 3]) rfl rfl (Nat.le_of_ble_eq_true rfl) ⟨Nat.le_of_ble_eq_true rfl, Nat.le_of_ble_eq_true rfl⟩ dX9_needs_37 rfl ?_
    refine v_iand C dX9_needs_40 rfl ?_
    obtain ⟨r11, e10, h⟩ := bdS h
    refine v_callSi C ys_X9_bits m_1122 (c_X9_bits e10) (Sub.whole hD _ _) (As := [.int (a4 &&& r9)]) rfl rfl (Nat.le_of_ble_eq_true rfl) ⟨Nat.le_of_ble_eq_true rfl, Nat.le_of_ble_eq_true rfl⟩ dX9_needs_41 rfl ?_
    refine v_iadd C dX9_needs_44 rfl ?_
    obtain ⟨v12, ev12, h⟩ := nmS h
    refine v_nmi ev12 ?_
    refine v_istore_n C dX9_needs_45 rfl rfl (by decide) (L' := [(3, .int v12), (0, .ref (ad 0)), (4, .int a4), (5, .int a5)]) rfl ?_
    refine v_iconst C dX9_needs_46 rfl ic_0 ?_
    refine v_istore C dX9_needs_47 rfl (by decide) (L' := [(6, .int 0), (3, .int v12), (0, .ref (ad 0)), (4, .int a4), (5, .int a5)]) rfl ?_
    refine v_iconst C dX9_needs_49 rfl ic_0 ?_
    refine v_istore C dX9_needs_50 rfl (by decide) (L' := [(7, .int 0), (6, .int 0), (3, .int v12), (0, .ref (ad 0)), (4, .int a4), (5, .int a5)]) rfl ?_
    refine v_sub [3, 2, 4, 5, 1, 0] rfl ?_
    exact wL_X9_needs_52 C hD RET hk25 FU h
theorem wL_X9_needs_25 {G : Ctx} {ad : Nat → Nat} {K : Mem} (C : Cx G RX9 cX9_needs 8 3 66) (hD : ∀ K, va_D (gA G) (wd (gC G) ad K 0 shsR)) {res : Int32} (RET : RI G cX9_needs 8 (wd (gC G) ad K 0 shsR) res) : ∀ (n : Nat) {a3 : Int32} {a4 : Int32} {a5 : Int32} (h : L_X9_needs_25 K n a3 a4 a5 = some res), V G 8 (wd (gC G) ad K 0 shsR) 25 [(0, .ref (ad 0)), (3, .int a3), (4, .int a4), (5, .int a5)] [] := by
  intro n
  induction n with
  | zero =>
    intro a3 a4 a5 h
    cases (show (none : Option Int32) = some res from h)
  | succ n ih =>
    intro a3 a4 a5 h
    exact wF_X9_needs_25 (k25 := fun a3 a4 a5 => L_X9_needs_25 K n a3 a4 a5) C hD RET (fun h => ih h) h
def F_X9_needs_0 (K : Mem) (a1 : Int32) (a2 : Int32) : Option Int32 :=
  bd (C_X9_isCourse K a1) fun r2 =>
  bd (C_X9_isThere r2 a2) fun r4 =>
  if r4 = 0 then (
    some (-1000000001)
  ) else (
    nm (jshl 1 a2) fun v6 =>
    L_X9_needs_25 K FU 0 v6 a1
  )
set_option maxRecDepth 100000 in
set_option maxHeartbeats 4000000 in
theorem wF_X9_needs_0 {G : Ctx} {ad : Nat → Nat} {K : Mem} (C : Cx G RX9 cX9_needs 8 3 66) (hD : ∀ K, va_D (gA G) (wd (gC G) ad K 0 shsR)) {res : Int32} (RET : RI G cX9_needs 8 (wd (gC G) ad K 0 shsR) res) {a1 : Int32} {a2 : Int32} (h : F_X9_needs_0 K a1 a2 = some res) : V G 8 (wd (gC G) ad K 0 shsR) 0 [(0, .ref (ad 0)), (1, .int a1), (2, .int a2)] [] := by
  unfold F_X9_needs_0 at h
  refine v_aload_n C dX9_needs_0 rfl rfl 0 rfl ?_
  refine v_iload_n C dX9_needs_1 rfl rfl 1 rfl ?_
  obtain ⟨r2, e1, h⟩ := bdS h
  refine v_callVi C yv_X9_isCourse m_967 (c_X9_isCourse e1) (Sub.whole hD _ _) ⟨_, _, _, _, _, wd_at sr_0, rfl⟩ (As := [.int a1]) rfl rfl (Nat.le_of_ble_eq_true rfl) ⟨Nat.le_of_ble_eq_true rfl, Nat.le_of_ble_eq_true rfl⟩ dX9_needs_2 rfl ?_
  refine v_iload_n C dX9_needs_5 rfl rfl 2 rfl ?_
  obtain ⟨r4, e3, h⟩ := bdS h
  refine v_callSi C ys_X9_isThere m_1051 (c_X9_isThere e3) (Sub.whole hD _ _) (As := [.int r2, .int a2]) rfl rfl (Nat.le_of_ble_eq_true rfl) ⟨Nat.le_of_ble_eq_true rfl, Nat.le_of_ble_eq_true rfl⟩ dX9_needs_6 rfl ?_
  refine v_if_ne C dX9_needs_9 (tgt := 15) (by decide) rfl (fun c5 => ?_) (fun c5 => ?_)
  · have h := ifn c5 h
    refine v_iconst C dX9_needs_15 rfl ic_0 ?_
    refine v_istore_n C dX9_needs_16 rfl rfl (by decide) (L' := [(3, .int 0), (0, .ref (ad 0)), (1, .int a1), (2, .int a2)]) rfl ?_
    refine v_iconst C dX9_needs_17 rfl ic_1 ?_
    refine v_iload_n C dX9_needs_18 rfl rfl 3 rfl ?_
    refine v_ishl C dX9_needs_19 rfl ?_
    obtain ⟨v6, ev6, h⟩ := nmS h
    refine v_nmi ev6 ?_
    refine v_istore C dX9_needs_20 rfl (by decide) (L' := [(4, .int v6), (3, .int 0), (0, .ref (ad 0)), (1, .int a1), (2, .int a2)]) rfl ?_
    refine v_iload_n C dX9_needs_22 rfl rfl 3 rfl ?_
    refine v_istore C dX9_needs_23 rfl (by decide) (L' := [(5, .int a1), (4, .int v6), (3, .int 0), (0, .ref (ad 0)), (1, .int a1), (2, .int a2)]) rfl ?_
    refine v_sub [3, 2, 1, 0] rfl ?_
    exact wL_X9_needs_25 C hD RET FU h
  · have h := ifp c5 h
    refine v_ldc C dX9_needs_12 rfl m_953 ?_
    obtain rfl := Option.some.inj h
    exact RET _ _ dX9_needs_14
def C_X9_needs (K : Mem) (a1 : Int32) (a2 : Int32) : Option Int32 := F_X9_needs_0 K a1 a2
set_option maxRecDepth 100000 in
theorem c_X9_needs {l : Launch} {D : va_G} {cA : FieldType → ClassId} {X : Ex} {ad : Nat → Nat} {a1 : Int32} {a2 : Int32} {K : Mem} {r : Int32} (h : C_X9_needs K a1 a2 = some r) : MI l D cA X yX9_needs cX9_needs 8 (some .int) 3 66 [.ref (ad 0), .int a1, .int a2] (wd cA ad K 0 shsR) (wd cA ad K 0 shsR) r :=
  mI_of (by decide +kernel) (Nat.le_of_ble_eq_true rfl) (fun G h1 h2 h3 h4 C hD RET => by subst h1 h2 h3 h4; exact wF_X9_needs_0 C (fun K' => wd_D K' hD) RET  h)
def F_X9_laysBy_2 (k2 : Int32 → Mem → Option Mem) (a1 : Int32) (K : Mem) : Option Mem :=
  if 58 ≤ a1 then (
    some K
  ) else (
    gd (inb a1 3058) <|
    gd (inb a1 58) <|
    nm (up K 14 (Int32.toNatClampNeg a1) (K 1 (Int32.toNatClampNeg a1))) fun K4 =>
    nm (a1 + 1) fun v5 =>
    k2 v5 K4
  )
def L_X9_laysBy_2 : Nat → Int32 → Mem → Option Mem
  | 0, _, _ => none
  | n + 1, a1, K => F_X9_laysBy_2 (fun a1 K => L_X9_laysBy_2 n a1 K) a1 K
set_option maxRecDepth 100000 in
set_option maxHeartbeats 4000000 in
theorem wF_X9_laysBy_2 {G : Ctx} {ad : Nat → Nat} {k2 : Int32 → Mem → Option Mem} (C : Cx G RX9 cX9_laysBy 2 0 0) (hD : ∀ K, va_D (gA G) (wd (gC G) ad K 0 shsR)) {res : Mem} (RET : RV G cX9_laysBy 2 (wd (gC G) ad res 0 shsR)) (hk2 : ∀ {a1 : Int32} {K : Mem} , k2 a1 K = some res → V G 2 (wd (gC G) ad K 0 shsR) 2 [(0, .ref (ad 0)), (1, .int a1)] []) {a1 : Int32} {K : Mem} (h : F_X9_laysBy_2 k2 a1 K = some res) : V G 2 (wd (gC G) ad K 0 shsR) 2 [(0, .ref (ad 0)), (1, .int a1)] [] := by
  unfold F_X9_laysBy_2 at h
  refine v_iload_n C dX9_laysBy_2 rfl rfl 1 rfl ?_
  refine v_bipush C dX9_laysBy_3 rfl bi_58 ?_
  refine v_icmp_ge C dX9_laysBy_5 (tgt := 26) (by decide) rfl (fun c1 => ?_) (fun c1 => ?_)
  · have h := ifp c1 h
    obtain rfl := Option.some.inj h
    exact RET _ _ dX9_laysBy_26
  · have h := ifn c1 h
    refine v_aload_n C dX9_laysBy_8 rfl rfl 0 rfl ?_
    refine v_getr C dX9_laysBy_9 rfl ff_X9_49 sr_0 rfl ?_
    refine v_iload_n C dX9_laysBy_12 rfl rfl 1 rfl ?_
    refine v_aload_n C dX9_laysBy_13 rfl rfl 0 rfl ?_
    refine v_getr C dX9_laysBy_14 rfl ff_X9_7 sr_0 rfl ?_
    refine v_iload_n C dX9_laysBy_17 rfl rfl 1 rfl ?_
    obtain ⟨b2, h⟩ := gdS h
    refine v_iald C dX9_laysBy_18 rfl sr_1 b2 ?_
    obtain ⟨b3, h⟩ := gdS h
    obtain ⟨K4, eK4, h⟩ := nmS h
    refine v_iast C hD dX9_laysBy_19 rfl sr_14 b3 eK4 ?_
    obtain ⟨v5, ev5, h⟩ := nmS h
    refine v_iinc C dX9_laysBy_20 rfl 1 rfl (v := v5) (by rw [ev5]; rfl) (by decide) (L' := [(1, .int v5), (0, .ref (ad 0))]) rfl ?_
    refine v_goto C dX9_laysBy_23 (tgt := 2) (by decide) ?_
    refine v_sub [1, 0] rfl ?_
    exact hk2 h
theorem wL_X9_laysBy_2 {G : Ctx} {ad : Nat → Nat} (C : Cx G RX9 cX9_laysBy 2 0 0) (hD : ∀ K, va_D (gA G) (wd (gC G) ad K 0 shsR)) {res : Mem} (RET : RV G cX9_laysBy 2 (wd (gC G) ad res 0 shsR)) : ∀ (n : Nat) {a1 : Int32} {K : Mem} (h : L_X9_laysBy_2 n a1 K = some res), V G 2 (wd (gC G) ad K 0 shsR) 2 [(0, .ref (ad 0)), (1, .int a1)] [] := by
  intro n
  induction n with
  | zero =>
    intro a1 K h
    cases (show (none : Option Mem) = some res from h)
  | succ n ih =>
    intro a1 K h
    exact wF_X9_laysBy_2 (k2 := fun a1 K => L_X9_laysBy_2  n a1 K) C hD RET (fun h => ih h) h
def F_X9_laysBy_0 (K : Mem) : Option Mem :=
  L_X9_laysBy_2 FU 0 K
set_option maxRecDepth 100000 in
set_option maxHeartbeats 4000000 in
theorem wF_X9_laysBy_0 {G : Ctx} {ad : Nat → Nat} (C : Cx G RX9 cX9_laysBy 2 0 0) (hD : ∀ K, va_D (gA G) (wd (gC G) ad K 0 shsR)) {res : Mem} (RET : RV G cX9_laysBy 2 (wd (gC G) ad res 0 shsR)) {K : Mem} (h : F_X9_laysBy_0 K = some res) : V G 2 (wd (gC G) ad K 0 shsR) 0 [(0, .ref (ad 0))] [] := by
  unfold F_X9_laysBy_0 at h
  refine v_iconst C dX9_laysBy_0 rfl ic_0 ?_
  refine v_istore_n C dX9_laysBy_1 rfl rfl (by decide) (L' := [(1, .int 0), (0, .ref (ad 0))]) rfl ?_
  refine v_sub [1, 0] rfl ?_
  exact wL_X9_laysBy_2 C hD RET FU h
def C_X9_laysBy (K : Mem) : Option Mem := F_X9_laysBy_0 K
set_option maxRecDepth 100000 in
theorem c_X9_laysBy {l : Launch} {D : va_G} {cA : FieldType → ClassId} {X : Ex} {ad : Nat → Nat} {K : Mem} {K' : Mem} (h : C_X9_laysBy K = some K') : MV l D cA X yX9_laysBy cX9_laysBy 2 0 0 [.ref (ad 0)] (wd cA ad K 0 shsR) (wd cA ad K' 0 shsR) :=
  mV_of (by decide +kernel) (Nat.le_of_ble_eq_true rfl) (fun G h1 h2 h3 h4 C hD RET => by subst h1 h2 h3 h4; exact wF_X9_laysBy_0 C (fun K' => wd_D K' hD) RET  h)
def F_X9_laysBack_2 (k2 : Int32 → Mem → Option Mem) (a1 : Int32) (K : Mem) : Option Mem :=
  if 58 ≤ a1 then (
    some K
  ) else (
    gd (inb a1 58) <|
    gd (inb a1 3058) <|
    nm (up K 1 (Int32.toNatClampNeg a1) (K 14 (Int32.toNatClampNeg a1))) fun K4 =>
    nm (a1 + 1) fun v5 =>
    k2 v5 K4
  )
def L_X9_laysBack_2 : Nat → Int32 → Mem → Option Mem
  | 0, _, _ => none
  | n + 1, a1, K => F_X9_laysBack_2 (fun a1 K => L_X9_laysBack_2 n a1 K) a1 K
set_option maxRecDepth 100000 in
set_option maxHeartbeats 4000000 in
theorem wF_X9_laysBack_2 {G : Ctx} {ad : Nat → Nat} {k2 : Int32 → Mem → Option Mem} (C : Cx G RX9 cX9_laysBack 2 0 0) (hD : ∀ K, va_D (gA G) (wd (gC G) ad K 0 shsR)) {res : Mem} (RET : RV G cX9_laysBack 2 (wd (gC G) ad res 0 shsR)) (hk2 : ∀ {a1 : Int32} {K : Mem} , k2 a1 K = some res → V G 2 (wd (gC G) ad K 0 shsR) 2 [(0, .ref (ad 0)), (1, .int a1)] []) {a1 : Int32} {K : Mem} (h : F_X9_laysBack_2 k2 a1 K = some res) : V G 2 (wd (gC G) ad K 0 shsR) 2 [(0, .ref (ad 0)), (1, .int a1)] [] := by
  unfold F_X9_laysBack_2 at h
  refine v_iload_n C dX9_laysBack_2 rfl rfl 1 rfl ?_
  refine v_bipush C dX9_laysBack_3 rfl bi_58 ?_
  refine v_icmp_ge C dX9_laysBack_5 (tgt := 26) (by decide) rfl (fun c1 => ?_) (fun c1 => ?_)
  · have h := ifp c1 h
    obtain rfl := Option.some.inj h
    exact RET _ _ dX9_laysBack_26
  · have h := ifn c1 h
    refine v_aload_n C dX9_laysBack_8 rfl rfl 0 rfl ?_
    refine v_getr C dX9_laysBack_9 rfl ff_X9_7 sr_0 rfl ?_
    refine v_iload_n C dX9_laysBack_12 rfl rfl 1 rfl ?_
    refine v_aload_n C dX9_laysBack_13 rfl rfl 0 rfl ?_
    refine v_getr C dX9_laysBack_14 rfl ff_X9_49 sr_0 rfl ?_
    refine v_iload_n C dX9_laysBack_17 rfl rfl 1 rfl ?_
    obtain ⟨b2, h⟩ := gdS h
    refine v_iald C dX9_laysBack_18 rfl sr_14 b2 ?_
    obtain ⟨b3, h⟩ := gdS h
    obtain ⟨K4, eK4, h⟩ := nmS h
    refine v_iast C hD dX9_laysBack_19 rfl sr_1 b3 eK4 ?_
    obtain ⟨v5, ev5, h⟩ := nmS h
    refine v_iinc C dX9_laysBack_20 rfl 1 rfl (v := v5) (by rw [ev5]; rfl) (by decide) (L' := [(1, .int v5), (0, .ref (ad 0))]) rfl ?_
    refine v_goto C dX9_laysBack_23 (tgt := 2) (by decide) ?_
    refine v_sub [1, 0] rfl ?_
    exact hk2 h
theorem wL_X9_laysBack_2 {G : Ctx} {ad : Nat → Nat} (C : Cx G RX9 cX9_laysBack 2 0 0) (hD : ∀ K, va_D (gA G) (wd (gC G) ad K 0 shsR)) {res : Mem} (RET : RV G cX9_laysBack 2 (wd (gC G) ad res 0 shsR)) : ∀ (n : Nat) {a1 : Int32} {K : Mem} (h : L_X9_laysBack_2 n a1 K = some res), V G 2 (wd (gC G) ad K 0 shsR) 2 [(0, .ref (ad 0)), (1, .int a1)] [] := by
  intro n
  induction n with
  | zero =>
    intro a1 K h
    cases (show (none : Option Mem) = some res from h)
  | succ n ih =>
    intro a1 K h
    exact wF_X9_laysBack_2 (k2 := fun a1 K => L_X9_laysBack_2  n a1 K) C hD RET (fun h => ih h) h
def F_X9_laysBack_0 (K : Mem) : Option Mem :=
  L_X9_laysBack_2 FU 0 K
set_option maxRecDepth 100000 in
set_option maxHeartbeats 4000000 in
theorem wF_X9_laysBack_0 {G : Ctx} {ad : Nat → Nat} (C : Cx G RX9 cX9_laysBack 2 0 0) (hD : ∀ K, va_D (gA G) (wd (gC G) ad K 0 shsR)) {res : Mem} (RET : RV G cX9_laysBack 2 (wd (gC G) ad res 0 shsR)) {K : Mem} (h : F_X9_laysBack_0 K = some res) : V G 2 (wd (gC G) ad K 0 shsR) 0 [(0, .ref (ad 0))] [] := by
  unfold F_X9_laysBack_0 at h
  refine v_iconst C dX9_laysBack_0 rfl ic_0 ?_
  refine v_istore_n C dX9_laysBack_1 rfl rfl (by decide) (L' := [(1, .int 0), (0, .ref (ad 0))]) rfl ?_
  refine v_sub [1, 0] rfl ?_
  exact wL_X9_laysBack_2 C hD RET FU h
def C_X9_laysBack (K : Mem) : Option Mem := F_X9_laysBack_0 K
set_option maxRecDepth 100000 in
theorem c_X9_laysBack {l : Launch} {D : va_G} {cA : FieldType → ClassId} {X : Ex} {ad : Nat → Nat} {K : Mem} {K' : Mem} (h : C_X9_laysBack K = some K') : MV l D cA X yX9_laysBack cX9_laysBack 2 0 0 [.ref (ad 0)] (wd cA ad K 0 shsR) (wd cA ad K' 0 shsR) :=
  mV_of (by decide +kernel) (Nat.le_of_ble_eq_true rfl) (fun G h1 h2 h3 h4 C hD RET => by subst h1 h2 h3 h4; exact wF_X9_laysBack_0 C (fun K' => wd_D K' hD) RET  h)
def F_X9_behind_34 (a1 : Int32) (a2 : Int32) (K : Mem) : Option (Int32 × Mem) :=
  bd (C_X9_laysBy K) fun K10 =>
  bd (C_X9_goesOnMany a1 K10) fun K12 =>
  if 3 ≤ a2 then (
    if a2 = 3 then (
      bd2 (C_X9_holds K12) fun r22 K21 =>
      bd (C_X9_laysBack K21) fun K24 =>
      some (r22, K24)
    ) else (
      bd2 (C_X9_holding (a2 - 4) K12) fun r17 K16 =>
      bd (C_X9_laysBack K16) fun K19 =>
      some (r17, K19)
    )
  ) else (
    gd (inb (6 + a2) 3058) <|
    nm (K12 1 (Int32.toNatClampNeg (6 + a2))) fun v26 =>
    bd (C_X9_laysBack K12) fun K28 =>
    some (v26, K28)
  )
set_option maxRecDepth 100000 in
set_option maxHeartbeats 4000000 in
theorem wF_X9_behind_34 {G : Ctx} {ad : Nat → Nat} (C : Cx G RX9 cX9_behind 4 7 157) (hD : ∀ K, va_D (gA G) (wd (gC G) ad K 0 shsR)) {res : (Int32 × Mem)} (RET : RI G cX9_behind 4 (wd (gC G) ad res.2 0 shsR) res.1) {a1 : Int32} {a2 : Int32} {K : Mem} (h : F_X9_behind_34 a1 a2 K = some res) : V G 4 (wd (gC G) ad K 0 shsR) 34 [(0, .ref (ad 0)), (1, .int a1), (2, .int a2)] [] := by
  unfold F_X9_behind_34 at h
  refine v_aload_n C dX9_behind_34 rfl rfl 0 rfl ?_
  obtain ⟨K10, e9, h⟩ := bdS h
  refine v_callVv C yv_X9_laysBy m_1173 (c_X9_laysBy e9) (Sub.whole hD _ _) ⟨_, _, _, _, _, wd_at sr_0, rfl⟩ (As := []) rfl rfl (Nat.le_of_ble_eq_true rfl) ⟨Nat.le_of_ble_eq_true rfl, Nat.le_of_ble_eq_true rfl⟩ dX9_behind_35 rfl ?_
  refine v_aload_n C dX9_behind_38 rfl rfl 0 rfl ?_
  refine v_iload_n C dX9_behind_39 rfl rfl 1 rfl ?_
  obtain ⟨K12, e11, h⟩ := bdS h
  refine v_callVv C yv_X9_goesOnMany m_1093 (c_X9_goesOnMany e11) (Sub.whole hD _ _) ⟨_, _, _, _, _, wd_at sr_0, rfl⟩ (As := [.int a1]) rfl rfl (Nat.le_of_ble_eq_true rfl) ⟨Nat.le_of_ble_eq_true rfl, Nat.le_of_ble_eq_true rfl⟩ dX9_behind_40 rfl ?_
  refine v_iload_n C dX9_behind_43 rfl rfl 2 rfl ?_
  refine v_iconst C dX9_behind_44 rfl ic_3 ?_
  refine v_icmp_ge C dX9_behind_45 (tgt := 60) (by decide) rfl (fun c13 => ?_) (fun c13 => ?_)
  · have h := ifp c13 h
    refine v_iload_n C dX9_behind_60 rfl rfl 2 rfl ?_
    refine v_iconst C dX9_behind_61 rfl ic_3 ?_
    refine v_icmp_ne C dX9_behind_62 (tgt := 72) (by decide) rfl (fun c14 => ?_) (fun c14 => ?_)
    · have h := ifn c14 h
      refine v_aload_n C dX9_behind_72 rfl rfl 0 rfl ?_
      refine v_iload_n C dX9_behind_73 rfl rfl 2 rfl ?_
      refine v_iconst C dX9_behind_74 rfl ic_4 ?_
      refine v_isub C dX9_behind_75 rfl ?_
      obtain ⟨r17, K16, e15, h⟩ := bd2S h
      refine v_callVi C yv_X9_holding m_972 (c_X9_holding e15) (Sub.whole hD _ _) ⟨_, _, _, _, _, wd_at sr_0, rfl⟩ (As := [.int (a2 - 4)]) rfl rfl (Nat.le_of_ble_eq_true rfl) ⟨Nat.le_of_ble_eq_true rfl, Nat.le_of_ble_eq_true rfl⟩ dX9_behind_76 rfl ?_
      refine v_istore_n C dX9_behind_79 rfl rfl (by decide) (L' := [(3, .int r17), (0, .ref (ad 0)), (1, .int a1), (2, .int a2)]) rfl ?_
      refine v_aload_n C dX9_behind_80 rfl rfl 1 rfl ?_
      obtain ⟨K19, e18, h⟩ := bdS h
      refine v_callVv C yv_X9_laysBack m_1177 (c_X9_laysBack e18) (Sub.whole hD _ _) ⟨_, _, _, _, _, wd_at sr_0, rfl⟩ (As := []) rfl rfl (Nat.le_of_ble_eq_true rfl) ⟨Nat.le_of_ble_eq_true rfl, Nat.le_of_ble_eq_true rfl⟩ dX9_behind_81 rfl ?_
      refine v_iload_n C dX9_behind_84 rfl rfl 0 rfl ?_
      obtain rfl := Option.some.inj h
      exact RET _ _ dX9_behind_85
    · have h := ifp c14 h
      refine v_aload_n C dX9_behind_65 rfl rfl 0 rfl ?_
      obtain ⟨r22, K21, e20, h⟩ := bd2S h
      refine v_callVi C yv_X9_holds m_976 (c_X9_holds e20) (Sub.whole hD _ _) ⟨_, _, _, _, _, wd_at sr_0, rfl⟩ (As := []) rfl rfl (Nat.le_of_ble_eq_true rfl) ⟨Nat.le_of_ble_eq_true rfl, Nat.le_of_ble_eq_true rfl⟩ dX9_behind_66 rfl ?_
      refine v_goto C dX9_behind_69 (tgt := 79) (by decide) ?_
      refine v_istore_n C dX9_behind_79 rfl rfl (by decide) (L' := [(3, .int r22), (0, .ref (ad 0)), (1, .int a1), (2, .int a2)]) rfl ?_
      refine v_aload_n C dX9_behind_80 rfl rfl 1 rfl ?_
      obtain ⟨K24, e23, h⟩ := bdS h
      refine v_callVv C yv_X9_laysBack m_1177 (c_X9_laysBack e23) (Sub.whole hD _ _) ⟨_, _, _, _, _, wd_at sr_0, rfl⟩ (As := []) rfl rfl (Nat.le_of_ble_eq_true rfl) ⟨Nat.le_of_ble_eq_true rfl, Nat.le_of_ble_eq_true rfl⟩ dX9_behind_81 rfl ?_
      refine v_iload_n C dX9_behind_84 rfl rfl 0 rfl ?_
      obtain rfl := Option.some.inj h
      exact RET _ _ dX9_behind_85
  · have h := ifn c13 h
    refine v_aload_n C dX9_behind_48 rfl rfl 0 rfl ?_
    refine v_getr C dX9_behind_49 rfl ff_X9_7 sr_0 rfl ?_
    refine v_bipush C dX9_behind_52 rfl bi_6 ?_
    refine v_iload_n C dX9_behind_54 rfl rfl 2 rfl ?_
    refine v_iadd C dX9_behind_55 rfl ?_
    obtain ⟨b25, h⟩ := gdS h
    refine v_iald C dX9_behind_56 rfl sr_1 b25 ?_
    refine v_goto C dX9_behind_57 (tgt := 79) (by decide) ?_
    obtain ⟨v26, ev26, h⟩ := nmS h
    refine v_nmi ev26 ?_
    refine v_istore_n C dX9_behind_79 rfl rfl (by decide) (L' := [(3, .int v26), (0, .ref (ad 0)), (1, .int a1), (2, .int a2)]) rfl ?_
    refine v_aload_n C dX9_behind_80 rfl rfl 1 rfl ?_
    obtain ⟨K28, e27, h⟩ := bdS h
    refine v_callVv C yv_X9_laysBack m_1177 (c_X9_laysBack e27) (Sub.whole hD _ _) ⟨_, _, _, _, _, wd_at sr_0, rfl⟩ (As := []) rfl rfl (Nat.le_of_ble_eq_true rfl) ⟨Nat.le_of_ble_eq_true rfl, Nat.le_of_ble_eq_true rfl⟩ dX9_behind_81 rfl ?_
    refine v_iload_n C dX9_behind_84 rfl rfl 0 rfl ?_
    obtain rfl := Option.some.inj h
    exact RET _ _ dX9_behind_85
def F_X9_behind_0 (a1 : Int32) (a2 : Int32) (K : Mem) : Option (Int32 × Mem) :=
  bd (C_X9_isIn (Int32.toInt64 a1) 0 100) fun r2 =>
  if r2 = 0 then (
    some ((-1000000001), K)
  ) else (
    if a2 < 0 then (
      some ((-1000000001), K)
    ) else (
      if a2 ≤ 3 then (
        F_X9_behind_34 a1 a2 K
      ) else (
        bd (C_X9_isCourse K (a2 - 4)) fun r7 =>
        if r7 = 0 then (
          some ((-1000000001), K)
        ) else (
          F_X9_behind_34 a1 a2 K
        )
      )
    )
  )
set_option maxRecDepth 100000 in
set_option maxHeartbeats 4000000 in
theorem wF_X9_behind_0 {G : Ctx} {ad : Nat → Nat} (C : Cx G RX9 cX9_behind 4 7 157) (hD : ∀ K, va_D (gA G) (wd (gC G) ad K 0 shsR)) {res : (Int32 × Mem)} (RET : RI G cX9_behind 4 (wd (gC G) ad res.2 0 shsR) res.1) {a1 : Int32} {a2 : Int32} {K : Mem} (h : F_X9_behind_0 a1 a2 K = some res) : V G 4 (wd (gC G) ad K 0 shsR) 0 [(0, .ref (ad 0)), (1, .int a1), (2, .int a2)] [] := by
  unfold F_X9_behind_0 at h
  refine v_iload_n C dX9_behind_0 rfl rfl 1 rfl ?_
  refine v_i2l C dX9_behind_1 rfl ?_
  refine v_lconst C dX9_behind_2 rfl (v := 0) (by decide) ?_
  refine v_ldc2 C dX9_behind_3 rfl m_1074 ?_
  obtain ⟨r2, e1, h⟩ := bdS h
  refine v_callSi C ys_X9_isIn m_949 (c_X9_isIn e1) (Sub.whole hD _ _) (As := [.long (Int32.toInt64 a1), .long 0, .long 100]) rfl rfl (Nat.le_of_ble_eq_true rfl) ⟨Nat.le_of_ble_eq_true rfl, Nat.le_of_ble_eq_true rfl⟩ dX9_behind_6 rfl ?_
  refine v_if_eq C dX9_behind_9 (tgt := 31) (by decide) rfl (fun c3 => ?_) (fun c3 => ?_)
  · have h := ifp c3 h
    refine v_ldc C dX9_behind_31 rfl m_953 ?_
    obtain rfl := Option.some.inj h
    exact RET _ _ dX9_behind_33
  · have h := ifn c3 h
    refine v_iload_n C dX9_behind_12 rfl rfl 2 rfl ?_
    refine v_if_lt C dX9_behind_13 (tgt := 31) (by decide) rfl (fun c4 => ?_) (fun c4 => ?_)
    · have h := ifp c4 h
      refine v_ldc C dX9_behind_31 rfl m_953 ?_
      obtain rfl := Option.some.inj h
      exact RET _ _ dX9_behind_33
    · have h := ifn c4 h
      refine v_iload_n C dX9_behind_16 rfl rfl 2 rfl ?_
      refine v_iconst C dX9_behind_17 rfl ic_3 ?_
      refine v_icmp_le C dX9_behind_18 (tgt := 34) (by decide) rfl (fun c5 => ?_) (fun c5 => ?_)
      · have h := ifp c5 h
        exact wF_X9_behind_34 C hD RET h
      · have h := ifn c5 h
        refine v_aload_n C dX9_behind_21 rfl rfl 0 rfl ?_
        refine v_iload_n C dX9_behind_22 rfl rfl 2 rfl ?_
        refine v_iconst C dX9_behind_23 rfl ic_4 ?_
        refine v_isub C dX9_behind_24 rfl ?_
        obtain ⟨r7, e6, h⟩ := bdS h
        refine v_callVi C yv_X9_isCourse m_967 (c_X9_isCourse e6) (Sub.whole hD _ _) ⟨_, _, _, _, _, wd_at sr_0, rfl⟩ (As := [.int (a2 - 4)]) rfl rfl (Nat.le_of_ble_eq_true rfl) ⟨Nat.le_of_ble_eq_true rfl, Nat.le_of_ble_eq_true rfl⟩ dX9_behind_25 rfl ?_
        refine v_if_ne C dX9_behind_28 (tgt := 34) (by decide) rfl (fun c8 => ?_) (fun c8 => ?_)
        · have h := ifn c8 h
          exact wF_X9_behind_34 C hD RET h
        · have h := ifp c8 h
          refine v_ldc C dX9_behind_31 rfl m_953 ?_
          obtain rfl := Option.some.inj h
          exact RET _ _ dX9_behind_33
def C_X9_behind (a1 : Int32) (a2 : Int32) (K : Mem) : Option (Int32 × Mem) := F_X9_behind_0 a1 a2 K
set_option maxRecDepth 100000 in
theorem c_X9_behind {l : Launch} {D : va_G} {cA : FieldType → ClassId} {X : Ex} {ad : Nat → Nat} {a1 : Int32} {a2 : Int32} {K : Mem} {r : Int32} {K' : Mem} (h : C_X9_behind a1 a2 K = some (r, K')) : MI l D cA X yX9_behind cX9_behind 4 (some .int) 7 157 [.ref (ad 0), .int a1, .int a2] (wd cA ad K 0 shsR) (wd cA ad K' 0 shsR) r :=
  mI_of (by decide +kernel) (Nat.le_of_ble_eq_true rfl) (fun G h1 h2 h3 h4 C hD RET => by subst h1 h2 h3 h4; exact wF_X9_behind_0 C (fun K' => wd_D K' hD) RET  h)
def F_X9_gone_21 (k21 : Int32 → Int32 → Int32 → Mem → Option (Int32 × Mem)) (a1 : Int32) (a2 : Int32) (a3 : Int32) (K : Mem) : Option (Int32 × Mem) :=
  if 200 < a3 then (
    bd (C_X9_laysBack K) fun K10 =>
    if 200 < a3 then (
      some ((-1000000005), K10)
    ) else (
      some (a3, K10)
    )
  ) else (
    bd2 (C_X9_holding a1 K) fun r14 K13 =>
    bd (C_X9_isAmong r14 a2) fun r16 =>
    if r16 = 0 then (
      bd (C_X9_laysBack K13) fun K19 =>
      if 200 < a3 then (
        some ((-1000000005), K19)
      ) else (
        some (a3, K19)
      )
    ) else (
      bd (C_X9_goesOn K13) fun K22 =>
      nm (a3 + 1) fun v23 =>
      k21 a1 a2 v23 K22
    )
  )
def L_X9_gone_21 : Nat → Int32 → Int32 → Int32 → Mem → Option (Int32 × Mem)
  | 0, _, _, _, _ => none
  | n + 1, a1, a2, a3, K => F_X9_gone_21 (fun a1 a2 a3 K => L_X9_gone_21 n a1 a2 a3 K) a1 a2 a3 K
set_option maxRecDepth 100000 in
set_option maxHeartbeats 4000000 in
theorem wF_X9_gone_21 {G : Ctx} {ad : Nat → Nat} {k21 : Int32 → Int32 → Int32 → Mem → Option (Int32 × Mem)} (C : Cx G RX9 cX9_gone 4 6 135) (hD : ∀ K, va_D (gA G) (wd (gC G) ad K 0 shsR)) {res : (Int32 × Mem)} (RET : RI G cX9_gone 4 (wd (gC G) ad res.2 0 shsR) res.1) (hk21 : ∀ {a1 : Int32} {a2 : Int32} {a3 : Int32} {K : Mem} , k21 a1 a2 a3 K = some res → V G 4 (wd (gC G) ad K 0 shsR) 21 [(0, .ref (ad 0)), (1, .int a1), (2, .int a2), (3, .int a3)] []) {a1 : Int32} {a2 : Int32} {a3 : Int32} {K : Mem} (h : F_X9_gone_21 k21 a1 a2 a3 K = some res) : V G 4 (wd (gC G) ad K 0 shsR) 21 [(0, .ref (ad 0)), (1, .int a1), (2, .int a2), (3, .int a3)] [] := by
  unfold F_X9_gone_21 at h
  refine v_iload_n C dX9_gone_21 rfl rfl 3 rfl ?_
  refine v_sipush C dX9_gone_22 rfl si_200 ?_
  refine v_icmp_gt C dX9_gone_25 (tgt := 50) (by decide) rfl (fun c8 => ?_) (fun c8 => ?_)
  · have h := ifp c8 h
    refine v_aload_n C dX9_gone_50 rfl rfl 0 rfl ?_
    obtain ⟨K10, e9, h⟩ := bdS h
    refine v_callVv C yv_X9_laysBack m_1177 (c_X9_laysBack e9) (Sub.whole hD _ _) ⟨_, _, _, _, _, wd_at sr_0, rfl⟩ (As := []) rfl rfl (Nat.le_of_ble_eq_true rfl) ⟨Nat.le_of_ble_eq_true rfl, Nat.le_of_ble_eq_true rfl⟩ dX9_gone_51 rfl ?_
    refine v_iload_n C dX9_gone_54 rfl rfl 3 rfl ?_
    refine v_sipush C dX9_gone_55 rfl si_200 ?_
    refine v_icmp_gt C dX9_gone_58 (tgt := 65) (by decide) rfl (fun c11 => ?_) (fun c11 => ?_)
    · have h := ifp c11 h
      refine v_ldc C dX9_gone_65 rfl m_1145 ?_
      obtain rfl := Option.some.inj h
      exact RET _ _ dX9_gone_67
    · have h := ifn c11 h
      refine v_iload_n C dX9_gone_61 rfl rfl 3 rfl ?_
      refine v_goto C dX9_gone_62 (tgt := 67) (by decide) ?_
      obtain rfl := Option.some.inj h
      exact RET _ _ dX9_gone_67
  · have h := ifn c8 h
    refine v_aload_n C dX9_gone_28 rfl rfl 0 rfl ?_
    refine v_iload_n C dX9_gone_29 rfl rfl 1 rfl ?_
    obtain ⟨r14, K13, e12, h⟩ := bd2S h
    refine v_callVi C yv_X9_holding m_972 (c_X9_holding e12) (Sub.whole hD _ _) ⟨_, _, _, _, _, wd_at sr_0, rfl⟩ (As := [.int a1]) rfl rfl (Nat.le_of_ble_eq_true rfl) ⟨Nat.le_of_ble_eq_true rfl, Nat.le_of_ble_eq_true rfl⟩ dX9_gone_30 rfl ?_
    refine v_iload_n C dX9_gone_33 rfl rfl 2 rfl ?_
    obtain ⟨r16, e15, h⟩ := bdS h
    refine v_callSi C ys_X9_isAmong m_984 (c_X9_isAmong e15) (Sub.whole hD _ _) (As := [.int r14, .int a2]) rfl rfl (Nat.le_of_ble_eq_true rfl) ⟨Nat.le_of_ble_eq_true rfl, Nat.le_of_ble_eq_true rfl⟩ dX9_gone_34 rfl ?_
    refine v_if_eq C dX9_gone_37 (tgt := 50) (by decide) rfl (fun c17 => ?_) (fun c17 => ?_)
    · have h := ifp c17 h
      refine v_aload_n C dX9_gone_50 rfl rfl 0 rfl ?_
      obtain ⟨K19, e18, h⟩ := bdS h
      refine v_callVv C yv_X9_laysBack m_1177 (c_X9_laysBack e18) (Sub.whole hD _ _) ⟨_, _, _, _, _, wd_at sr_0, rfl⟩ (As := []) rfl rfl (Nat.le_of_ble_eq_true rfl) ⟨Nat.le_of_ble_eq_true rfl, Nat.le_of_ble_eq_true rfl⟩ dX9_gone_51 rfl ?_
      refine v_iload_n C dX9_gone_54 rfl rfl 3 rfl ?_
      refine v_sipush C dX9_gone_55 rfl si_200 ?_
      refine v_icmp_gt C dX9_gone_58 (tgt := 65) (by decide) rfl (fun c20 => ?_) (fun c20 => ?_)
      · have h := ifp c20 h
        refine v_ldc C dX9_gone_65 rfl m_1145 ?_
        obtain rfl := Option.some.inj h
        exact RET _ _ dX9_gone_67
      · have h := ifn c20 h
        refine v_iload_n C dX9_gone_61 rfl rfl 3 rfl ?_
        refine v_goto C dX9_gone_62 (tgt := 67) (by decide) ?_
        obtain rfl := Option.some.inj h
        exact RET _ _ dX9_gone_67
    · have h := ifn c17 h
      refine v_aload_n C dX9_gone_40 rfl rfl 0 rfl ?_
      obtain ⟨K22, e21, h⟩ := bdS h
      refine v_callVv C yv_X9_goesOn m_1097 (c_X9_goesOn e21) (Sub.whole hD _ _) ⟨_, _, _, _, _, wd_at sr_0, rfl⟩ (As := []) rfl rfl (Nat.le_of_ble_eq_true rfl) ⟨Nat.le_of_ble_eq_true rfl, Nat.le_of_ble_eq_true rfl⟩ dX9_gone_41 rfl ?_
      obtain ⟨v23, ev23, h⟩ := nmS h
      refine v_iinc C dX9_gone_44 rfl 3 rfl (v := v23) (by rw [ev23]; rfl) (by decide) (L' := [(3, .int v23), (0, .ref (ad 0)), (1, .int a1), (2, .int a2)]) rfl ?_
      refine v_goto C dX9_gone_47 (tgt := 21) (by decide) ?_
      refine v_sub [1, 2, 3, 0] rfl ?_
      exact hk21 h
theorem wL_X9_gone_21 {G : Ctx} {ad : Nat → Nat} (C : Cx G RX9 cX9_gone 4 6 135) (hD : ∀ K, va_D (gA G) (wd (gC G) ad K 0 shsR)) {res : (Int32 × Mem)} (RET : RI G cX9_gone 4 (wd (gC G) ad res.2 0 shsR) res.1) : ∀ (n : Nat) {a1 : Int32} {a2 : Int32} {a3 : Int32} {K : Mem} (h : L_X9_gone_21 n a1 a2 a3 K = some res), V G 4 (wd (gC G) ad K 0 shsR) 21 [(0, .ref (ad 0)), (1, .int a1), (2, .int a2), (3, .int a3)] [] := by
  intro n
  induction n with
  | zero =>
    intro a1 a2 a3 K h
    cases (show (none : Option (Int32 × Mem)) = some res from h)
  | succ n ih =>
    intro a1 a2 a3 K h
    exact wF_X9_gone_21 (k21 := fun a1 a2 a3 K => L_X9_gone_21  n a1 a2 a3 K) C hD RET (fun h => ih h) h
def F_X9_gone_0 (a1 : Int32) (a2 : Int32) (K : Mem) : Option (Int32 × Mem) :=
  bd (C_X9_isCourse K a1) fun r2 =>
  bd (C_X9_isThere r2 a2) fun r4 =>
  if r4 = 0 then (
    some ((-1000000001), K)
  ) else (
    bd (C_X9_laysBy K) fun K7 =>
    L_X9_gone_21 FU a1 a2 0 K7
  )
set_option maxRecDepth 100000 in
set_option maxHeartbeats 4000000 in
theorem wF_X9_gone_0 {G : Ctx} {ad : Nat → Nat} (C : Cx G RX9 cX9_gone 4 6 135) (hD : ∀ K, va_D (gA G) (wd (gC G) ad K 0 shsR)) {res : (Int32 × Mem)} (RET : RI G cX9_gone 4 (wd (gC G) ad res.2 0 shsR) res.1) {a1 : Int32} {a2 : Int32} {K : Mem} (h : F_X9_gone_0 a1 a2 K = some res) : V G 4 (wd (gC G) ad K 0 shsR) 0 [(0, .ref (ad 0)), (1, .int a1), (2, .int a2)] [] := by
  unfold F_X9_gone_0 at h
  refine v_aload_n C dX9_gone_0 rfl rfl 0 rfl ?_
  refine v_iload_n C dX9_gone_1 rfl rfl 1 rfl ?_
  obtain ⟨r2, e1, h⟩ := bdS h
  refine v_callVi C yv_X9_isCourse m_967 (c_X9_isCourse e1) (Sub.whole hD _ _) ⟨_, _, _, _, _, wd_at sr_0, rfl⟩ (As := [.int a1]) rfl rfl (Nat.le_of_ble_eq_true rfl) ⟨Nat.le_of_ble_eq_true rfl, Nat.le_of_ble_eq_true rfl⟩ dX9_gone_2 rfl ?_
  refine v_iload_n C dX9_gone_5 rfl rfl 2 rfl ?_
  obtain ⟨r4, e3, h⟩ := bdS h
  refine v_callSi C ys_X9_isThere m_1051 (c_X9_isThere e3) (Sub.whole hD _ _) (As := [.int r2, .int a2]) rfl rfl (Nat.le_of_ble_eq_true rfl) ⟨Nat.le_of_ble_eq_true rfl, Nat.le_of_ble_eq_true rfl⟩ dX9_gone_6 rfl ?_
  refine v_if_ne C dX9_gone_9 (tgt := 15) (by decide) rfl (fun c5 => ?_) (fun c5 => ?_)
  · have h := ifn c5 h
    refine v_aload_n C dX9_gone_15 rfl rfl 0 rfl ?_
    obtain ⟨K7, e6, h⟩ := bdS h
    refine v_callVv C yv_X9_laysBy m_1173 (c_X9_laysBy e6) (Sub.whole hD _ _) ⟨_, _, _, _, _, wd_at sr_0, rfl⟩ (As := []) rfl rfl (Nat.le_of_ble_eq_true rfl) ⟨Nat.le_of_ble_eq_true rfl, Nat.le_of_ble_eq_true rfl⟩ dX9_gone_16 rfl ?_
    refine v_iconst C dX9_gone_19 rfl ic_0 ?_
    refine v_istore_n C dX9_gone_20 rfl rfl (by decide) (L' := [(3, .int 0), (0, .ref (ad 0)), (1, .int a1), (2, .int a2)]) rfl ?_
    refine v_sub [1, 2, 3, 0] rfl ?_
    exact wL_X9_gone_21 C hD RET FU h
  · have h := ifp c5 h
    refine v_ldc C dX9_gone_12 rfl m_953 ?_
    obtain rfl := Option.some.inj h
    exact RET _ _ dX9_gone_14
def C_X9_gone (a1 : Int32) (a2 : Int32) (K : Mem) : Option (Int32 × Mem) := F_X9_gone_0 a1 a2 K
set_option maxRecDepth 100000 in
theorem c_X9_gone {l : Launch} {D : va_G} {cA : FieldType → ClassId} {X : Ex} {ad : Nat → Nat} {a1 : Int32} {a2 : Int32} {K : Mem} {r : Int32} {K' : Mem} (h : C_X9_gone a1 a2 K = some (r, K')) : MI l D cA X yX9_gone cX9_gone 4 (some .int) 6 135 [.ref (ad 0), .int a1, .int a2] (wd cA ad K 0 shsR) (wd cA ad K' 0 shsR) r :=
  mI_of (by decide +kernel) (Nat.le_of_ble_eq_true rfl) (fun G h1 h2 h3 h4 C hD RET => by subst h1 h2 h3 h4; exact wF_X9_gone_0 C (fun K' => wd_D K' hD) RET  h)
def F_X9_isAsked_0 (a0 : Int32) (a1 : Int32) : Option Int32 :=
  bd (C_X9_isIn (Int32.toInt64 a0) 1 60) fun r2 =>
  if r2 = 0 then (
    some 0
  ) else (
    bd (C_X9_isIn (Int32.toInt64 a1) 0 1) fun r5 =>
    if r5 = 0 then (
      some 0
    ) else (
      some 1
    )
  )
set_option maxRecDepth 100000 in
set_option maxHeartbeats 4000000 in
theorem wF_X9_isAsked_0 {G : Ctx} {w : va_W} (C : Cx G RX9 cX9_isAsked 2 1 25) (hD : va_D (gA G) w) {res : Int32} (RET : RZ G cX9_isAsked 2 w res) {a0 : Int32} {a1 : Int32} (h : F_X9_isAsked_0 a0 a1 = some res) : V G 2 w 0 [(0, .int a0), (1, .int a1)] [] := by
  unfold F_X9_isAsked_0 at h
  refine v_iload_n C dX9_isAsked_0 rfl rfl 0 rfl ?_
  refine v_i2l C dX9_isAsked_1 rfl ?_
  refine v_lconst C dX9_isAsked_2 rfl (v := 1) (by decide) ?_
  refine v_ldc2 C dX9_isAsked_3 rfl m_1192 ?_
  obtain ⟨r2, e1, h⟩ := bdS h
  refine v_callSi C ys_X9_isIn m_949 (c_X9_isIn e1) (Sub.same hD) (As := [.long (Int32.toInt64 a0), .long 1, .long 60]) rfl rfl (Nat.le_of_ble_eq_true rfl) ⟨Nat.le_of_ble_eq_true rfl, Nat.le_of_ble_eq_true rfl⟩ dX9_isAsked_6 rfl ?_
  refine v_if_eq C dX9_isAsked_9 (tgt := 26) (by decide) rfl (fun c3 => ?_) (fun c3 => ?_)
  · have h := ifp c3 h
    refine v_iconst C dX9_isAsked_26 rfl ic_0 ?_
    obtain rfl := Option.some.inj h
    exact RET _ _ dX9_isAsked_27 (Or.inl rfl)
  · have h := ifn c3 h
    refine v_iload_n C dX9_isAsked_12 rfl rfl 1 rfl ?_
    refine v_i2l C dX9_isAsked_13 rfl ?_
    refine v_lconst C dX9_isAsked_14 rfl (v := 0) (by decide) ?_
    refine v_lconst C dX9_isAsked_15 rfl (v := 1) (by decide) ?_
    obtain ⟨r5, e4, h⟩ := bdS h
    refine v_callSi C ys_X9_isIn m_949 (c_X9_isIn e4) (Sub.same hD) (As := [.long (Int32.toInt64 a1), .long 0, .long 1]) rfl rfl (Nat.le_of_ble_eq_true rfl) ⟨Nat.le_of_ble_eq_true rfl, Nat.le_of_ble_eq_true rfl⟩ dX9_isAsked_16 rfl ?_
    refine v_if_eq C dX9_isAsked_19 (tgt := 26) (by decide) rfl (fun c6 => ?_) (fun c6 => ?_)
    · have h := ifp c6 h
      refine v_iconst C dX9_isAsked_26 rfl ic_0 ?_
      obtain rfl := Option.some.inj h
      exact RET _ _ dX9_isAsked_27 (Or.inl rfl)
    · have h := ifn c6 h
      refine v_iconst C dX9_isAsked_22 rfl ic_1 ?_
      refine v_goto C dX9_isAsked_23 (tgt := 27) (by decide) ?_
      obtain rfl := Option.some.inj h
      exact RET _ _ dX9_isAsked_27 (Or.inr rfl)
def C_X9_isAsked (a0 : Int32) (a1 : Int32) : Option Int32 := F_X9_isAsked_0 a0 a1
set_option maxRecDepth 100000 in
theorem c_X9_isAsked {l : Launch} {D : va_G} {cA : FieldType → ClassId} {X : Ex} {w : va_W} {a0 : Int32} {a1 : Int32} {r : Int32} (h : C_X9_isAsked a0 a1 = some r) : MI l D cA X yX9_isAsked cX9_isAsked 2 (some .boolean) 1 25 [.int a0, .int a1] w w r :=
  mZ_of (by decide +kernel) (Nat.le_of_ble_eq_true rfl) (fun G h1 h2 h3 h4 C hD RET => by subst h1 h2 h3 h4; exact wF_X9_isAsked_0 C hD RET  h)
def F_X9_bestOf_57 (k13 : Int32 → Int32 → Int32 → Int32 → Int32 → Int32 → Int32 → Mem → Option (Int32 × Mem)) (a1 : Int32) (a3 : Int32) (a4 : Int32) (a5 : Int32) (a7 : Int32) (a8 : Int32) (a9 : Int32) (t0 : Int32) (K : Mem) : Option (Int32 × Mem) :=
  if a9 ≤ a7 then (
    nm (a8 + 1) fun v16 =>
    k13 a1 a3 a4 a5 t0 a7 v16 K
  ) else (
    nm (a8 + 1) fun v17 =>
    k13 a1 a3 a4 a5 t0 a9 v17 K
  )
set_option maxRecDepth 100000 in
set_option maxHeartbeats 4000000 in
theorem wF_X9_bestOf_57 {G : Ctx} {ad : Nat → Nat} {k13 : Int32 → Int32 → Int32 → Int32 → Int32 → Int32 → Int32 → Mem → Option (Int32 × Mem)} (C : Cx G RX9 cX9_bestOf 10 7 157) (hD : ∀ K, va_D (gA G) (wd (gC G) ad K 0 shsR)) {res : (Int32 × Mem)} (RET : RI G cX9_bestOf 10 (wd (gC G) ad res.2 0 shsR) res.1) (hk13 : ∀ {a1 : Int32} {a3 : Int32} {a4 : Int32} {a5 : Int32} {a6 : Int32} {a7 : Int32} {a8 : Int32} {K : Mem} , k13 a1 a3 a4 a5 a6 a7 a8 K = some res → V G 10 (wd (gC G) ad K 0 shsR) 13 [(0, .ref (ad 0)), (1, .int a1), (3, .int a3), (4, .int a4), (5, .int a5), (6, .int a6), (7, .int a7), (8, .int a8)] []) {a1 : Int32} {a3 : Int32} {a4 : Int32} {a5 : Int32} {a7 : Int32} {a8 : Int32} {a9 : Int32} {t0 : Int32} {K : Mem} (h : F_X9_bestOf_57 k13 a1 a3 a4 a5 a7 a8 a9 t0 K = some res) : V G 10 (wd (gC G) ad K 0 shsR) 57 [(0, .ref (ad 0)), (1, .int a1), (3, .int a3), (4, .int a4), (5, .int a5), (7, .int a7), (8, .int a8), (9, .int a9)] [.int t0] := by
  unfold F_X9_bestOf_57 at h
  refine v_istore C dX9_bestOf_57 rfl (by decide) (L' := [(6, .int t0), (0, .ref (ad 0)), (1, .int a1), (3, .int a3), (4, .int a4), (5, .int a5), (7, .int a7), (8, .int a8), (9, .int a9)]) rfl ?_
  refine v_iload C dX9_bestOf_59 rfl 8 rfl ?_
  refine v_iload C dX9_bestOf_61 rfl 6 rfl ?_
  refine v_icmp_le C dX9_bestOf_63 (tgt := 71) (by decide) rfl (fun c15 => ?_) (fun c15 => ?_)
  · have h := ifp c15 h
    refine v_iload C dX9_bestOf_71 rfl 6 rfl ?_
    refine v_istore C dX9_bestOf_73 rfl (by decide) (L' := [(7, .int a7), (6, .int t0), (0, .ref (ad 0)), (1, .int a1), (3, .int a3), (4, .int a4), (5, .int a5), (8, .int a8), (9, .int a9)]) rfl ?_
    obtain ⟨v16, ev16, h⟩ := nmS h
    refine v_iinc C dX9_bestOf_75 rfl 7 rfl (v := v16) (by rw [ev16]; rfl) (by decide) (L' := [(8, .int v16), (7, .int a7), (6, .int t0), (0, .ref (ad 0)), (1, .int a1), (3, .int a3), (4, .int a4), (5, .int a5), (9, .int a9)]) rfl ?_
    refine v_goto C dX9_bestOf_78 (tgt := 13) (by decide) ?_
    refine v_sub [3, 4, 5, 6, 7, 2, 1, 0] rfl ?_
    exact hk13 h
  · have h := ifn c15 h
    refine v_iload C dX9_bestOf_66 rfl 8 rfl ?_
    refine v_goto C dX9_bestOf_68 (tgt := 73) (by decide) ?_
    refine v_istore C dX9_bestOf_73 rfl (by decide) (L' := [(7, .int a9), (6, .int t0), (0, .ref (ad 0)), (1, .int a1), (3, .int a3), (4, .int a4), (5, .int a5), (8, .int a8), (9, .int a9)]) rfl ?_
    obtain ⟨v17, ev17, h⟩ := nmS h
    refine v_iinc C dX9_bestOf_75 rfl 7 rfl (v := v17) (by rw [ev17]; rfl) (by decide) (L' := [(8, .int v17), (7, .int a9), (6, .int t0), (0, .ref (ad 0)), (1, .int a1), (3, .int a3), (4, .int a4), (5, .int a5), (9, .int a9)]) rfl ?_
    refine v_goto C dX9_bestOf_78 (tgt := 13) (by decide) ?_
    refine v_sub [3, 4, 5, 6, 7, 2, 1, 0] rfl ?_
    exact hk13 h
def F_X9_bestOf_13 (k13 : Int32 → Int32 → Int32 → Int32 → Int32 → Int32 → Int32 → Mem → Option (Int32 × Mem)) (a1 : Int32) (a3 : Int32) (a4 : Int32) (a5 : Int32) (a6 : Int32) (a7 : Int32) (a8 : Int32) (K : Mem) : Option (Int32 × Mem) :=
  if a3 < a8 then (
    if a5 = 0 then (
      some (a6, K)
    ) else (
      some (a7, K)
    )
  ) else (
    gd (inb a1 3058) <|
    nm (up K 1 (Int32.toNatClampNeg a1) a8) fun K6 =>
    bd (C_X9_goesOnMany a4 K6) fun K8 =>
    bd2 (C_X9_holds K8) fun r11 K10 =>
    bd (C_X9_laysBack K10) fun K13 =>
    if r11 ≤ a7 then (
      F_X9_bestOf_57 k13 a1 a3 a4 a5 a7 a8 r11 a6 K13
    ) else (
      F_X9_bestOf_57 k13 a1 a3 a4 a5 a7 a8 r11 a8 K13
    )
  )
def L_X9_bestOf_13 : Nat → Int32 → Int32 → Int32 → Int32 → Int32 → Int32 → Int32 → Mem → Option (Int32 × Mem)
  | 0, _, _, _, _, _, _, _, _ => none
  | n + 1, a1, a3, a4, a5, a6, a7, a8, K => F_X9_bestOf_13 (fun a1 a3 a4 a5 a6 a7 a8 K => L_X9_bestOf_13 n a1 a3 a4 a5 a6 a7 a8 K) a1 a3 a4 a5 a6 a7 a8 K
set_option maxRecDepth 100000 in
set_option maxHeartbeats 4000000 in
theorem wF_X9_bestOf_13 {G : Ctx} {ad : Nat → Nat} {k13 : Int32 → Int32 → Int32 → Int32 → Int32 → Int32 → Int32 → Mem → Option (Int32 × Mem)} (C : Cx G RX9 cX9_bestOf 10 7 157) (hD : ∀ K, va_D (gA G) (wd (gC G) ad K 0 shsR)) {res : (Int32 × Mem)} (RET : RI G cX9_bestOf 10 (wd (gC G) ad res.2 0 shsR) res.1) (hk13 : ∀ {a1 : Int32} {a3 : Int32} {a4 : Int32} {a5 : Int32} {a6 : Int32} {a7 : Int32} {a8 : Int32} {K : Mem} , k13 a1 a3 a4 a5 a6 a7 a8 K = some res → V G 10 (wd (gC G) ad K 0 shsR) 13 [(0, .ref (ad 0)), (1, .int a1), (3, .int a3), (4, .int a4), (5, .int a5), (6, .int a6), (7, .int a7), (8, .int a8)] []) {a1 : Int32} {a3 : Int32} {a4 : Int32} {a5 : Int32} {a6 : Int32} {a7 : Int32} {a8 : Int32} {K : Mem} (h : F_X9_bestOf_13 k13 a1 a3 a4 a5 a6 a7 a8 K = some res) : V G 10 (wd (gC G) ad K 0 shsR) 13 [(0, .ref (ad 0)), (1, .int a1), (3, .int a3), (4, .int a4), (5, .int a5), (6, .int a6), (7, .int a7), (8, .int a8)] [] := by
  unfold F_X9_bestOf_13 at h
  refine v_iload C dX9_bestOf_13 rfl 7 rfl ?_
  refine v_iload_n C dX9_bestOf_15 rfl rfl 2 rfl ?_
  refine v_icmp_gt C dX9_bestOf_16 (tgt := 81) (by decide) rfl (fun c3 => ?_) (fun c3 => ?_)
  · have h := ifp c3 h
    refine v_iload C dX9_bestOf_81 rfl 4 rfl ?_
    refine v_if_ne C dX9_bestOf_83 (tgt := 91) (by decide) rfl (fun c4 => ?_) (fun c4 => ?_)
    · have h := ifn c4 h
      refine v_iload C dX9_bestOf_91 rfl 6 rfl ?_
      obtain rfl := Option.some.inj h
      exact RET _ _ dX9_bestOf_93
    · have h := ifp c4 h
      refine v_iload C dX9_bestOf_86 rfl 5 rfl ?_
      refine v_goto C dX9_bestOf_88 (tgt := 93) (by decide) ?_
      obtain rfl := Option.some.inj h
      exact RET _ _ dX9_bestOf_93
  · have h := ifn c3 h
    refine v_aload_n C dX9_bestOf_19 rfl rfl 0 rfl ?_
    refine v_getr C dX9_bestOf_20 rfl ff_X9_7 sr_0 rfl ?_
    refine v_iload_n C dX9_bestOf_23 rfl rfl 1 rfl ?_
    refine v_iload C dX9_bestOf_24 rfl 7 rfl ?_
    obtain ⟨b5, h⟩ := gdS h
    obtain ⟨K6, eK6, h⟩ := nmS h
    refine v_iast C hD dX9_bestOf_26 rfl sr_1 b5 eK6 ?_
    refine v_aload_n C dX9_bestOf_27 rfl rfl 0 rfl ?_
    refine v_iload C dX9_bestOf_28 rfl 3 rfl ?_
    obtain ⟨K8, e7, h⟩ := bdS h
    refine v_callVv C yv_X9_goesOnMany m_1093 (c_X9_goesOnMany e7) (Sub.whole hD _ _) ⟨_, _, _, _, _, wd_at sr_0, rfl⟩ (As := [.int a4]) rfl rfl (Nat.le_of_ble_eq_true rfl) ⟨Nat.le_of_ble_eq_true rfl, Nat.le_of_ble_eq_true rfl⟩ dX9_bestOf_30 rfl ?_
    refine v_aload_n C dX9_bestOf_33 rfl rfl 0 rfl ?_
    obtain ⟨r11, K10, e9, h⟩ := bd2S h
    refine v_callVi C yv_X9_holds m_976 (c_X9_holds e9) (Sub.whole hD _ _) ⟨_, _, _, _, _, wd_at sr_0, rfl⟩ (As := []) rfl rfl (Nat.le_of_ble_eq_true rfl) ⟨Nat.le_of_ble_eq_true rfl, Nat.le_of_ble_eq_true rfl⟩ dX9_bestOf_34 rfl ?_
    refine v_istore C dX9_bestOf_37 rfl (by decide) (L' := [(9, .int r11), (0, .ref (ad 0)), (1, .int a1), (3, .int a3), (4, .int a4), (5, .int a5), (6, .int a6), (7, .int a7), (8, .int a8)]) rfl ?_
    refine v_aload_n C dX9_bestOf_39 rfl rfl 1 rfl ?_
    obtain ⟨K13, e12, h⟩ := bdS h
    refine v_callVv C yv_X9_laysBack m_1177 (c_X9_laysBack e12) (Sub.whole hD _ _) ⟨_, _, _, _, _, wd_at sr_0, rfl⟩ (As := []) rfl rfl (Nat.le_of_ble_eq_true rfl) ⟨Nat.le_of_ble_eq_true rfl, Nat.le_of_ble_eq_true rfl⟩ dX9_bestOf_40 rfl ?_
    refine v_iload C dX9_bestOf_43 rfl 0 rfl ?_
    refine v_iload C dX9_bestOf_45 rfl 7 rfl ?_
    refine v_icmp_le C dX9_bestOf_47 (tgt := 55) (by decide) rfl (fun c14 => ?_) (fun c14 => ?_)
    · have h := ifp c14 h
      refine v_iload C dX9_bestOf_55 rfl 6 rfl ?_
      refine v_sub [1, 2, 3, 4, 5, 7, 8, 0] rfl ?_
      exact wF_X9_bestOf_57 C hD RET hk13 h
    · have h := ifn c14 h
      refine v_iload C dX9_bestOf_50 rfl 8 rfl ?_
      refine v_goto C dX9_bestOf_52 (tgt := 57) (by decide) ?_
      refine v_sub [1, 2, 3, 4, 5, 7, 8, 0] rfl ?_
      exact wF_X9_bestOf_57 C hD RET hk13 h
theorem wL_X9_bestOf_13 {G : Ctx} {ad : Nat → Nat} (C : Cx G RX9 cX9_bestOf 10 7 157) (hD : ∀ K, va_D (gA G) (wd (gC G) ad K 0 shsR)) {res : (Int32 × Mem)} (RET : RI G cX9_bestOf 10 (wd (gC G) ad res.2 0 shsR) res.1) : ∀ (n : Nat) {a1 : Int32} {a3 : Int32} {a4 : Int32} {a5 : Int32} {a6 : Int32} {a7 : Int32} {a8 : Int32} {K : Mem} (h : L_X9_bestOf_13 n a1 a3 a4 a5 a6 a7 a8 K = some res), V G 10 (wd (gC G) ad K 0 shsR) 13 [(0, .ref (ad 0)), (1, .int a1), (3, .int a3), (4, .int a4), (5, .int a5), (6, .int a6), (7, .int a7), (8, .int a8)] [] := by
  intro n
  induction n with
  | zero =>
    intro a1 a3 a4 a5 a6 a7 a8 K h
    cases (show (none : Option (Int32 × Mem)) = some res from h)
  | succ n ih =>
    intro a1 a3 a4 a5 a6 a7 a8 K h
    exact wF_X9_bestOf_13 (k13 := fun a1 a3 a4 a5 a6 a7 a8 K => L_X9_bestOf_13  n a1 a3 a4 a5 a6 a7 a8 K) C hD RET (fun h => ih h) h
def F_X9_bestOf_0 (a1 : Int32) (a2 : Int32) (a3 : Int32) (a4 : Int32) (a5 : Int32) (K : Mem) : Option (Int32 × Mem) :=
  bd (C_X9_laysBy K) fun K2 =>
  L_X9_bestOf_13 FU a1 a3 a4 a5 0 (-1) a2 K2
set_option maxRecDepth 100000 in
set_option maxHeartbeats 4000000 in
theorem wF_X9_bestOf_0 {G : Ctx} {ad : Nat → Nat} (C : Cx G RX9 cX9_bestOf 10 7 157) (hD : ∀ K, va_D (gA G) (wd (gC G) ad K 0 shsR)) {res : (Int32 × Mem)} (RET : RI G cX9_bestOf 10 (wd (gC G) ad res.2 0 shsR) res.1) {a1 : Int32} {a2 : Int32} {a3 : Int32} {a4 : Int32} {a5 : Int32} {K : Mem} (h : F_X9_bestOf_0 a1 a2 a3 a4 a5 K = some res) : V G 10 (wd (gC G) ad K 0 shsR) 0 [(0, .ref (ad 0)), (1, .int a1), (2, .int a2), (3, .int a3), (4, .int a4), (5, .int a5)] [] := by
  unfold F_X9_bestOf_0 at h
  refine v_aload_n C dX9_bestOf_0 rfl rfl 0 rfl ?_
  obtain ⟨K2, e1, h⟩ := bdS h
  refine v_callVv C yv_X9_laysBy m_1173 (c_X9_laysBy e1) (Sub.whole hD _ _) ⟨_, _, _, _, _, wd_at sr_0, rfl⟩ (As := []) rfl rfl (Nat.le_of_ble_eq_true rfl) ⟨Nat.le_of_ble_eq_true rfl, Nat.le_of_ble_eq_true rfl⟩ dX9_bestOf_1 rfl ?_
  refine v_iconst C dX9_bestOf_4 rfl ic_0 ?_
  refine v_istore C dX9_bestOf_5 rfl (by decide) (L' := [(6, .int 0), (0, .ref (ad 0)), (1, .int a1), (2, .int a2), (3, .int a3), (4, .int a4), (5, .int a5)]) rfl ?_
  refine v_iconst C dX9_bestOf_7 rfl ic_n1 ?_
  refine v_istore C dX9_bestOf_8 rfl (by decide) (L' := [(7, .int (-1)), (6, .int 0), (0, .ref (ad 0)), (1, .int a1), (2, .int a2), (3, .int a3), (4, .int a4), (5, .int a5)]) rfl ?_
  refine v_iload_n C dX9_bestOf_10 rfl rfl 4 rfl ?_
  refine v_istore C dX9_bestOf_11 rfl (by decide) (L' := [(8, .int a2), (7, .int (-1)), (6, .int 0), (0, .ref (ad 0)), (1, .int a1), (2, .int a2), (3, .int a3), (4, .int a4), (5, .int a5)]) rfl ?_
  refine v_sub [3, 4, 6, 7, 8, 2, 1, 0] rfl ?_
  exact wL_X9_bestOf_13 C hD RET FU h
def C_X9_bestOf (a1 : Int32) (a2 : Int32) (a3 : Int32) (a4 : Int32) (a5 : Int32) (K : Mem) : Option (Int32 × Mem) := F_X9_bestOf_0 a1 a2 a3 a4 a5 K
set_option maxRecDepth 100000 in
theorem c_X9_bestOf {l : Launch} {D : va_G} {cA : FieldType → ClassId} {X : Ex} {ad : Nat → Nat} {a1 : Int32} {a2 : Int32} {a3 : Int32} {a4 : Int32} {a5 : Int32} {K : Mem} {r : Int32} {K' : Mem} (h : C_X9_bestOf a1 a2 a3 a4 a5 K = some (r, K')) : MI l D cA X yX9_bestOf cX9_bestOf 10 (some .int) 7 157 [.ref (ad 0), .int a1, .int a2, .int a3, .int a4, .int a5] (wd cA ad K 0 shsR) (wd cA ad K' 0 shsR) r :=
  mI_of (by decide +kernel) (Nat.le_of_ble_eq_true rfl) (fun G h1 h2 h3 h4 C hD RET => by subst h1 h2 h3 h4; exact wF_X9_bestOf_0 C (fun K' => wd_D K' hD) RET  h)
def F_X9_thick_0 (a1 : Int32) (a2 : Int32) (a3 : Int32) (K : Mem) : Option (Int32 × Mem) :=
  bd (C_X9_isCourse K a1) fun r2 =>
  if r2 = 0 then (
    some ((-1000000001), K)
  ) else (
    bd (C_X9_isAsked a2 a3) fun r5 =>
    if r5 = 0 then (
      some ((-1000000001), K)
    ) else (
      bd2 (C_X9_bestOf ((10 + (4 * a1)) + 1) 1 9 a2 a3 K) fun r9 K8 =>
      some (r9, K8)
    )
  )
set_option maxRecDepth 100000 in
set_option maxHeartbeats 4000000 in
theorem wF_X9_thick_0 {G : Ctx} {ad : Nat → Nat} (C : Cx G RX9 cX9_thick 4 8 186) (hD : ∀ K, va_D (gA G) (wd (gC G) ad K 0 shsR)) {res : (Int32 × Mem)} (RET : RI G cX9_thick 4 (wd (gC G) ad res.2 0 shsR) res.1) {a1 : Int32} {a2 : Int32} {a3 : Int32} {K : Mem} (h : F_X9_thick_0 a1 a2 a3 K = some res) : V G 4 (wd (gC G) ad K 0 shsR) 0 [(0, .ref (ad 0)), (1, .int a1), (2, .int a2), (3, .int a3)] [] := by
  unfold F_X9_thick_0 at h
  refine v_aload_n C dX9_thick_0 rfl rfl 0 rfl ?_
  refine v_iload_n C dX9_thick_1 rfl rfl 1 rfl ?_
  obtain ⟨r2, e1, h⟩ := bdS h
  refine v_callVi C yv_X9_isCourse m_967 (c_X9_isCourse e1) (Sub.whole hD _ _) ⟨_, _, _, _, _, wd_at sr_0, rfl⟩ (As := [.int a1]) rfl rfl (Nat.le_of_ble_eq_true rfl) ⟨Nat.le_of_ble_eq_true rfl, Nat.le_of_ble_eq_true rfl⟩ dX9_thick_2 rfl ?_
  refine v_if_eq C dX9_thick_5 (tgt := 36) (by decide) rfl (fun c3 => ?_) (fun c3 => ?_)
  · have h := ifp c3 h
    refine v_ldc C dX9_thick_36 rfl m_953 ?_
    obtain rfl := Option.some.inj h
    exact RET _ _ dX9_thick_38
  · have h := ifn c3 h
    refine v_iload_n C dX9_thick_8 rfl rfl 2 rfl ?_
    refine v_iload_n C dX9_thick_9 rfl rfl 3 rfl ?_
    obtain ⟨r5, e4, h⟩ := bdS h
    refine v_callSi C ys_X9_isAsked m_1189 (c_X9_isAsked e4) (Sub.whole hD _ _) (As := [.int a2, .int a3]) rfl rfl (Nat.le_of_ble_eq_true rfl) ⟨Nat.le_of_ble_eq_true rfl, Nat.le_of_ble_eq_true rfl⟩ dX9_thick_10 rfl ?_
    refine v_if_eq C dX9_thick_13 (tgt := 36) (by decide) rfl (fun c6 => ?_) (fun c6 => ?_)
    · have h := ifp c6 h
      refine v_ldc C dX9_thick_36 rfl m_953 ?_
      obtain rfl := Option.some.inj h
      exact RET _ _ dX9_thick_38
    · have h := ifn c6 h
      refine v_aload_n C dX9_thick_16 rfl rfl 0 rfl ?_
      refine v_bipush C dX9_thick_17 rfl bi_10 ?_
      refine v_iconst C dX9_thick_19 rfl ic_4 ?_
      refine v_iload_n C dX9_thick_20 rfl rfl 1 rfl ?_
      refine v_imul C dX9_thick_21 rfl ?_
      refine v_iadd C dX9_thick_22 rfl ?_
      refine v_iconst C dX9_thick_23 rfl ic_1 ?_
      refine v_iadd C dX9_thick_24 rfl ?_
      refine v_iconst C dX9_thick_25 rfl ic_1 ?_
      refine v_bipush C dX9_thick_26 rfl bi_9 ?_
      refine v_iload_n C dX9_thick_28 rfl rfl 2 rfl ?_
      refine v_iload_n C dX9_thick_29 rfl rfl 3 rfl ?_
      obtain ⟨r9, K8, e7, h⟩ := bd2S h
      refine v_callVi C yv_X9_bestOf m_1193 (c_X9_bestOf e7) (Sub.whole hD _ _) ⟨_, _, _, _, _, wd_at sr_0, rfl⟩ (As := [.int ((10 + (4 * a1)) + 1), .int 1, .int 9, .int a2, .int a3]) rfl rfl (Nat.le_of_ble_eq_true rfl) ⟨Nat.le_of_ble_eq_true rfl, Nat.le_of_ble_eq_true rfl⟩ dX9_thick_30 rfl ?_
      refine v_goto C dX9_thick_33 (tgt := 38) (by decide) ?_
      obtain rfl := Option.some.inj h
      exact RET _ _ dX9_thick_38
def C_X9_thick (a1 : Int32) (a2 : Int32) (a3 : Int32) (K : Mem) : Option (Int32 × Mem) := F_X9_thick_0 a1 a2 a3 K
set_option maxRecDepth 100000 in
theorem c_X9_thick {l : Launch} {D : va_G} {cA : FieldType → ClassId} {X : Ex} {ad : Nat → Nat} {a1 : Int32} {a2 : Int32} {a3 : Int32} {K : Mem} {r : Int32} {K' : Mem} (h : C_X9_thick a1 a2 a3 K = some (r, K')) : MI l D cA X yX9_thick cX9_thick 4 (some .int) 8 186 [.ref (ad 0), .int a1, .int a2, .int a3] (wd cA ad K 0 shsR) (wd cA ad K' 0 shsR) r :=
  mI_of (by decide +kernel) (Nat.le_of_ble_eq_true rfl) (fun G h1 h2 h3 h4 C hD RET => by subst h1 h2 h3 h4; exact wF_X9_thick_0 C (fun K' => wd_D K' hD) RET  h)
def F_X9_becomes_0 (a1 : Int32) (a2 : Int32) (a3 : Int32) (K : Mem) : Option (Int32 × Mem) :=
  bd (C_X9_isCourse K a1) fun r2 =>
  if r2 = 0 then (
    some ((-1000000001), K)
  ) else (
    bd (C_X9_isAsked a2 a3) fun r5 =>
    if r5 = 0 then (
      some ((-1000000001), K)
    ) else (
      bd2 (C_X9_bestOf (10 + (4 * a1)) 0 5 a2 a3 K) fun r9 K8 =>
      some (r9, K8)
    )
  )
set_option maxRecDepth 100000 in
set_option maxHeartbeats 4000000 in
theorem wF_X9_becomes_0 {G : Ctx} {ad : Nat → Nat} (C : Cx G RX9 cX9_becomes 4 8 186) (hD : ∀ K, va_D (gA G) (wd (gC G) ad K 0 shsR)) {res : (Int32 × Mem)} (RET : RI G cX9_becomes 4 (wd (gC G) ad res.2 0 shsR) res.1) {a1 : Int32} {a2 : Int32} {a3 : Int32} {K : Mem} (h : F_X9_becomes_0 a1 a2 a3 K = some res) : V G 4 (wd (gC G) ad K 0 shsR) 0 [(0, .ref (ad 0)), (1, .int a1), (2, .int a2), (3, .int a3)] [] := by
  unfold F_X9_becomes_0 at h
  refine v_aload_n C dX9_becomes_0 rfl rfl 0 rfl ?_
  refine v_iload_n C dX9_becomes_1 rfl rfl 1 rfl ?_
  obtain ⟨r2, e1, h⟩ := bdS h
  refine v_callVi C yv_X9_isCourse m_967 (c_X9_isCourse e1) (Sub.whole hD _ _) ⟨_, _, _, _, _, wd_at sr_0, rfl⟩ (As := [.int a1]) rfl rfl (Nat.le_of_ble_eq_true rfl) ⟨Nat.le_of_ble_eq_true rfl, Nat.le_of_ble_eq_true rfl⟩ dX9_becomes_2 rfl ?_
  refine v_if_eq C dX9_becomes_5 (tgt := 33) (by decide) rfl (fun c3 => ?_) (fun c3 => ?_)
  · have h := ifp c3 h
    refine v_ldc C dX9_becomes_33 rfl m_953 ?_
    obtain rfl := Option.some.inj h
    exact RET _ _ dX9_becomes_35
  · have h := ifn c3 h
    refine v_iload_n C dX9_becomes_8 rfl rfl 2 rfl ?_
    refine v_iload_n C dX9_becomes_9 rfl rfl 3 rfl ?_
    obtain ⟨r5, e4, h⟩ := bdS h
    refine v_callSi C ys_X9_isAsked m_1189 (c_X9_isAsked e4) (Sub.whole hD _ _) (As := [.int a2, .int a3]) rfl rfl (Nat.le_of_ble_eq_true rfl) ⟨Nat.le_of_ble_eq_true rfl, Nat.le_of_ble_eq_true rfl⟩ dX9_becomes_10 rfl ?_
    refine v_if_eq C dX9_becomes_13 (tgt := 33) (by decide) rfl (fun c6 => ?_) (fun c6 => ?_)
    · have h := ifp c6 h
      refine v_ldc C dX9_becomes_33 rfl m_953 ?_
      obtain rfl := Option.some.inj h
      exact RET _ _ dX9_becomes_35
    · have h := ifn c6 h
      refine v_aload_n C dX9_becomes_16 rfl rfl 0 rfl ?_
      refine v_bipush C dX9_becomes_17 rfl bi_10 ?_
      refine v_iconst C dX9_becomes_19 rfl ic_4 ?_
      refine v_iload_n C dX9_becomes_20 rfl rfl 1 rfl ?_
      refine v_imul C dX9_becomes_21 rfl ?_
      refine v_iadd C dX9_becomes_22 rfl ?_
      refine v_iconst C dX9_becomes_23 rfl ic_0 ?_
      refine v_iconst C dX9_becomes_24 rfl ic_5 ?_
      refine v_iload_n C dX9_becomes_25 rfl rfl 2 rfl ?_
      refine v_iload_n C dX9_becomes_26 rfl rfl 3 rfl ?_
      obtain ⟨r9, K8, e7, h⟩ := bd2S h
      refine v_callVi C yv_X9_bestOf m_1193 (c_X9_bestOf e7) (Sub.whole hD _ _) ⟨_, _, _, _, _, wd_at sr_0, rfl⟩ (As := [.int (10 + (4 * a1)), .int 0, .int 5, .int a2, .int a3]) rfl rfl (Nat.le_of_ble_eq_true rfl) ⟨Nat.le_of_ble_eq_true rfl, Nat.le_of_ble_eq_true rfl⟩ dX9_becomes_27 rfl ?_
      refine v_goto C dX9_becomes_30 (tgt := 35) (by decide) ?_
      obtain rfl := Option.some.inj h
      exact RET _ _ dX9_becomes_35
def C_X9_becomes (a1 : Int32) (a2 : Int32) (a3 : Int32) (K : Mem) : Option (Int32 × Mem) := F_X9_becomes_0 a1 a2 a3 K
set_option maxRecDepth 100000 in
theorem c_X9_becomes {l : Launch} {D : va_G} {cA : FieldType → ClassId} {X : Ex} {ad : Nat → Nat} {a1 : Int32} {a2 : Int32} {a3 : Int32} {K : Mem} {r : Int32} {K' : Mem} (h : C_X9_becomes a1 a2 a3 K = some (r, K')) : MI l D cA X yX9_becomes cX9_becomes 4 (some .int) 8 186 [.ref (ad 0), .int a1, .int a2, .int a3] (wd cA ad K 0 shsR) (wd cA ad K' 0 shsR) r :=
  mI_of (by decide +kernel) (Nat.le_of_ble_eq_true rfl) (fun G h1 h2 h3 h4 C hD RET => by subst h1 h2 h3 h4; exact wF_X9_becomes_0 C (fun K' => wd_D K' hD) RET  h)
def F_X9_fee_0 (K : Mem) : Option (Int32 × Mem) :=
  bd (C_X9_counts K 1) fun r2 =>
  if 0 ≤ r2 then (
    gd (inb 7 3058) <|
    gd (inb 114 128) <|
    nm (up K 16 (Int32.toNatClampNeg 114) (K 1 (Int32.toNatClampNeg 7))) fun K6 =>
    gd (inb 8 3058) <|
    gd (inb 109 128) <|
    nm (up K6 16 (Int32.toNatClampNeg 109) (K6 1 (Int32.toNatClampNeg 8))) fun K9 =>
    bd2 (C_X9_worked r2 K9) fun r12 K11 =>
    some (r12, K11)
  ) else (
    gd (inb 7 3058) <|
    some (K 1 (Int32.toNatClampNeg 7), K)
  )
set_option maxRecDepth 100000 in
set_option maxHeartbeats 4000000 in
theorem wF_X9_fee_0 {G : Ctx} {ad : Nat → Nat} (C : Cx G RX9 cX9_fee 2 2 47) (hD : ∀ K, va_D (gA G) (wd (gC G) ad K 0 shsR)) {res : (Int32 × Mem)} (RET : RI G cX9_fee 2 (wd (gC G) ad res.2 0 shsR) res.1) {K : Mem} (h : F_X9_fee_0 K = some res) : V G 2 (wd (gC G) ad K 0 shsR) 0 [(0, .ref (ad 0))] [] := by
  unfold F_X9_fee_0 at h
  refine v_aload_n C dX9_fee_0 rfl rfl 0 rfl ?_
  refine v_iconst C dX9_fee_1 rfl ic_1 ?_
  obtain ⟨r2, e1, h⟩ := bdS h
  refine v_callVi C yv_X9_counts m_999 (c_X9_counts e1) (Sub.whole hD _ _) ⟨_, _, _, _, _, wd_at sr_0, rfl⟩ (As := [.int 1]) rfl rfl (Nat.le_of_ble_eq_true rfl) ⟨Nat.le_of_ble_eq_true rfl, Nat.le_of_ble_eq_true rfl⟩ dX9_fee_2 rfl ?_
  refine v_istore_n C dX9_fee_5 rfl rfl (by decide) (L' := [(1, .int r2), (0, .ref (ad 0))]) rfl ?_
  refine v_iload_n C dX9_fee_6 rfl rfl 0 rfl ?_
  refine v_if_ge C dX9_fee_7 (tgt := 18) (by decide) rfl (fun c3 => ?_) (fun c3 => ?_)
  · have h := ifp c3 h
    refine v_aload_n C dX9_fee_18 rfl rfl 1 rfl ?_
    refine v_getr C dX9_fee_19 rfl ff_X9_55 sr_0 rfl ?_
    refine v_bipush C dX9_fee_22 rfl bi_114 ?_
    refine v_aload_n C dX9_fee_24 rfl rfl 1 rfl ?_
    refine v_getr C dX9_fee_25 rfl ff_X9_7 sr_0 rfl ?_
    refine v_bipush C dX9_fee_28 rfl bi_7 ?_
    obtain ⟨b4, h⟩ := gdS h
    refine v_iald C dX9_fee_30 rfl sr_1 b4 ?_
    obtain ⟨b5, h⟩ := gdS h
    obtain ⟨K6, eK6, h⟩ := nmS h
    refine v_iast C hD dX9_fee_31 rfl sr_16 b5 eK6 ?_
    refine v_aload_n C dX9_fee_32 rfl rfl 1 rfl ?_
    refine v_getr C dX9_fee_33 rfl ff_X9_55 sr_0 rfl ?_
    refine v_bipush C dX9_fee_36 rfl bi_109 ?_
    refine v_aload_n C dX9_fee_38 rfl rfl 1 rfl ?_
    refine v_getr C dX9_fee_39 rfl ff_X9_7 sr_0 rfl ?_
    refine v_bipush C dX9_fee_42 rfl bi_8 ?_
    obtain ⟨b7, h⟩ := gdS h
    refine v_iald C dX9_fee_44 rfl sr_1 b7 ?_
    obtain ⟨b8, h⟩ := gdS h
    obtain ⟨K9, eK9, h⟩ := nmS h
    refine v_iast C hD dX9_fee_45 rfl sr_16 b8 eK9 ?_
    refine v_aload_n C dX9_fee_46 rfl rfl 1 rfl ?_
    refine v_iload_n C dX9_fee_47 rfl rfl 0 rfl ?_
    obtain ⟨r12, K11, e10, h⟩ := bd2S h
    refine v_callVi C yv_X9_worked m_1007 (c_X9_worked e10) (Sub.whole hD _ _) ⟨_, _, _, _, _, wd_at sr_0, rfl⟩ (As := [.int r2]) rfl rfl (Nat.le_of_ble_eq_true rfl) ⟨Nat.le_of_ble_eq_true rfl, Nat.le_of_ble_eq_true rfl⟩ dX9_fee_48 rfl ?_
    obtain rfl := Option.some.inj h
    exact RET _ _ dX9_fee_51
  · have h := ifn c3 h
    refine v_aload_n C dX9_fee_10 rfl rfl 1 rfl ?_
    refine v_getr C dX9_fee_11 rfl ff_X9_7 sr_0 rfl ?_
    refine v_bipush C dX9_fee_14 rfl bi_7 ?_
    obtain ⟨b13, h⟩ := gdS h
    refine v_iald C dX9_fee_16 rfl sr_1 b13 ?_
    obtain rfl := Option.some.inj h
    exact RET _ _ dX9_fee_17
def C_X9_fee (K : Mem) : Option (Int32 × Mem) := F_X9_fee_0 K
set_option maxRecDepth 100000 in
theorem c_X9_fee {l : Launch} {D : va_G} {cA : FieldType → ClassId} {X : Ex} {ad : Nat → Nat} {K : Mem} {r : Int32} {K' : Mem} (h : C_X9_fee K = some (r, K')) : MI l D cA X yX9_fee cX9_fee 2 (some .int) 2 47 [.ref (ad 0)] (wd cA ad K 0 shsR) (wd cA ad K' 0 shsR) r :=
  mI_of (by decide +kernel) (Nat.le_of_ble_eq_true rfl) (fun G h1 h2 h3 h4 C hD RET => by subst h1 h2 h3 h4; exact wF_X9_fee_0 C (fun K' => wd_D K' hD) RET  h)
def F_X9_fine_0 (a1 : Int32) (K : Mem) : Option (Int32 × Mem) :=
  bd (C_X9_isCourse K a1) fun r2 =>
  if r2 = 0 then (
    some ((-1000000001), K)
  ) else (
    bd (C_X9_counts K 2) fun r5 =>
    if 0 ≤ r5 then (
      bd (C_X9_of K a1 1) fun r8 =>
      gd (inb 103 128) <|
      nm (up K 16 (Int32.toNatClampNeg 103) r8) fun K10 =>
      bd (C_X9_of K10 a1 2) fun r12 =>
      gd (inb 119 128) <|
      nm (up K10 16 (Int32.toNatClampNeg 119) r12) fun K14 =>
      bd2 (C_X9_worked r5 K14) fun r17 K16 =>
      some (r17, K16)
    ) else (
      bd (C_X9_of K a1 2) fun r19 =>
      some (r19, K)
    )
  )
set_option maxRecDepth 100000 in
set_option maxHeartbeats 4000000 in
theorem wF_X9_fine_0 {G : Ctx} {ad : Nat → Nat} (C : Cx G RX9 cX9_fine 3 2 47) (hD : ∀ K, va_D (gA G) (wd (gC G) ad K 0 shsR)) {res : (Int32 × Mem)} (RET : RI G cX9_fine 3 (wd (gC G) ad res.2 0 shsR) res.1) {a1 : Int32} {K : Mem} (h : F_X9_fine_0 a1 K = some res) : V G 3 (wd (gC G) ad K 0 shsR) 0 [(0, .ref (ad 0)), (1, .int a1)] [] := by
  unfold F_X9_fine_0 at h
  refine v_aload_n C dX9_fine_0 rfl rfl 0 rfl ?_
  refine v_iload_n C dX9_fine_1 rfl rfl 1 rfl ?_
  obtain ⟨r2, e1, h⟩ := bdS h
  refine v_callVi C yv_X9_isCourse m_967 (c_X9_isCourse e1) (Sub.whole hD _ _) ⟨_, _, _, _, _, wd_at sr_0, rfl⟩ (As := [.int a1]) rfl rfl (Nat.le_of_ble_eq_true rfl) ⟨Nat.le_of_ble_eq_true rfl, Nat.le_of_ble_eq_true rfl⟩ dX9_fine_2 rfl ?_
  refine v_if_ne C dX9_fine_5 (tgt := 11) (by decide) rfl (fun c3 => ?_) (fun c3 => ?_)
  · have h := ifn c3 h
    refine v_aload_n C dX9_fine_11 rfl rfl 0 rfl ?_
    refine v_iconst C dX9_fine_12 rfl ic_2 ?_
    obtain ⟨r5, e4, h⟩ := bdS h
    refine v_callVi C yv_X9_counts m_999 (c_X9_counts e4) (Sub.whole hD _ _) ⟨_, _, _, _, _, wd_at sr_0, rfl⟩ (As := [.int 2]) rfl rfl (Nat.le_of_ble_eq_true rfl) ⟨Nat.le_of_ble_eq_true rfl, Nat.le_of_ble_eq_true rfl⟩ dX9_fine_13 rfl ?_
    refine v_istore_n C dX9_fine_16 rfl rfl (by decide) (L' := [(2, .int r5), (0, .ref (ad 0)), (1, .int a1)]) rfl ?_
    refine v_iload_n C dX9_fine_17 rfl rfl 0 rfl ?_
    refine v_if_ge C dX9_fine_18 (tgt := 28) (by decide) rfl (fun c6 => ?_) (fun c6 => ?_)
    · have h := ifp c6 h
      refine v_aload_n C dX9_fine_28 rfl rfl 1 rfl ?_
      refine v_getr C dX9_fine_29 rfl ff_X9_55 sr_0 rfl ?_
      refine v_bipush C dX9_fine_32 rfl bi_103 ?_
      refine v_aload_n C dX9_fine_34 rfl rfl 1 rfl ?_
      refine v_iload_n C dX9_fine_35 rfl rfl 2 rfl ?_
      refine v_iconst C dX9_fine_36 rfl ic_1 ?_
      obtain ⟨r8, e7, h⟩ := bdS h
      refine v_callVi C yv_X9_of m_980 (c_X9_of e7) (Sub.whole hD _ _) ⟨_, _, _, _, _, wd_at sr_0, rfl⟩ (As := [.int a1, .int 1]) rfl rfl (Nat.le_of_ble_eq_true rfl) ⟨Nat.le_of_ble_eq_true rfl, Nat.le_of_ble_eq_true rfl⟩ dX9_fine_37 rfl ?_
      obtain ⟨b9, h⟩ := gdS h
      obtain ⟨K10, eK10, h⟩ := nmS h
      refine v_iast C hD dX9_fine_40 rfl sr_16 b9 eK10 ?_
      refine v_aload_n C dX9_fine_41 rfl rfl 1 rfl ?_
      refine v_getr C dX9_fine_42 rfl ff_X9_55 sr_0 rfl ?_
      refine v_bipush C dX9_fine_45 rfl bi_119 ?_
      refine v_aload_n C dX9_fine_47 rfl rfl 1 rfl ?_
      refine v_iload_n C dX9_fine_48 rfl rfl 2 rfl ?_
      refine v_iconst C dX9_fine_49 rfl ic_2 ?_
      obtain ⟨r12, e11, h⟩ := bdS h
      refine v_callVi C yv_X9_of m_980 (c_X9_of e11) (Sub.whole hD _ _) ⟨_, _, _, _, _, wd_at sr_0, rfl⟩ (As := [.int a1, .int 2]) rfl rfl (Nat.le_of_ble_eq_true rfl) ⟨Nat.le_of_ble_eq_true rfl, Nat.le_of_ble_eq_true rfl⟩ dX9_fine_50 rfl ?_
      obtain ⟨b13, h⟩ := gdS h
      obtain ⟨K14, eK14, h⟩ := nmS h
      refine v_iast C hD dX9_fine_53 rfl sr_16 b13 eK14 ?_
      refine v_aload_n C dX9_fine_54 rfl rfl 1 rfl ?_
      refine v_iload_n C dX9_fine_55 rfl rfl 0 rfl ?_
      obtain ⟨r17, K16, e15, h⟩ := bd2S h
      refine v_callVi C yv_X9_worked m_1007 (c_X9_worked e15) (Sub.whole hD _ _) ⟨_, _, _, _, _, wd_at sr_0, rfl⟩ (As := [.int r5]) rfl rfl (Nat.le_of_ble_eq_true rfl) ⟨Nat.le_of_ble_eq_true rfl, Nat.le_of_ble_eq_true rfl⟩ dX9_fine_56 rfl ?_
      obtain rfl := Option.some.inj h
      exact RET _ _ dX9_fine_59
    · have h := ifn c6 h
      refine v_aload_n C dX9_fine_21 rfl rfl 1 rfl ?_
      refine v_iload_n C dX9_fine_22 rfl rfl 2 rfl ?_
      refine v_iconst C dX9_fine_23 rfl ic_2 ?_
      obtain ⟨r19, e18, h⟩ := bdS h
      refine v_callVi C yv_X9_of m_980 (c_X9_of e18) (Sub.whole hD _ _) ⟨_, _, _, _, _, wd_at sr_0, rfl⟩ (As := [.int a1, .int 2]) rfl rfl (Nat.le_of_ble_eq_true rfl) ⟨Nat.le_of_ble_eq_true rfl, Nat.le_of_ble_eq_true rfl⟩ dX9_fine_24 rfl ?_
      obtain rfl := Option.some.inj h
      exact RET _ _ dX9_fine_27
  · have h := ifp c3 h
    refine v_ldc C dX9_fine_8 rfl m_953 ?_
    obtain rfl := Option.some.inj h
    exact RET _ _ dX9_fine_10
def C_X9_fine (a1 : Int32) (K : Mem) : Option (Int32 × Mem) := F_X9_fine_0 a1 K
set_option maxRecDepth 100000 in
theorem c_X9_fine {l : Launch} {D : va_G} {cA : FieldType → ClassId} {X : Ex} {ad : Nat → Nat} {a1 : Int32} {K : Mem} {r : Int32} {K' : Mem} (h : C_X9_fine a1 K = some (r, K')) : MI l D cA X yX9_fine cX9_fine 3 (some .int) 2 47 [.ref (ad 0), .int a1] (wd cA ad K 0 shsR) (wd cA ad K' 0 shsR) r :=
  mI_of (by decide +kernel) (Nat.le_of_ble_eq_true rfl) (fun G h1 h2 h3 h4 C hD RET => by subst h1 h2 h3 h4; exact wF_X9_fine_0 C (fun K' => wd_D K' hD) RET  h)
def F_X9_feed_47 (k18 : Int32 → Int32 → Int32 → Int32 → Mem → Option (Int32 × Mem)) (a1 : Int32) (a2 : Int32) (a3 : Int32) (a4 : Int32) (t0 : Int32) (K : Mem) : Option (Int32 × Mem) :=
  gd (inb (K 0 16) 96) <|
  nm (up K 15 (Int32.toNatClampNeg (K 0 16)) ((jshr t0 (24 - (8 * (jrem a4 4)))) &&& 255)) fun K6 =>
  nm (up K6 0 16 ((K6 0 16) + 1)) fun K7 =>
  nm (a4 + 1) fun v8 =>
  k18 a1 a2 a3 v8 K7
set_option maxRecDepth 100000 in
set_option maxHeartbeats 4000000 in
theorem wF_X9_feed_47 {G : Ctx} {ad : Nat → Nat} {k18 : Int32 → Int32 → Int32 → Int32 → Mem → Option (Int32 × Mem)} (C : Cx G RX9 cX9_feed 6 0 0) (hD : ∀ K, va_D (gA G) (wd (gC G) ad K 0 shsR)) {res : (Int32 × Mem)} (RET : RI G cX9_feed 6 (wd (gC G) ad res.2 0 shsR) res.1) (hk18 : ∀ {a1 : Int32} {a2 : Int32} {a3 : Int32} {a4 : Int32} {K : Mem} , k18 a1 a2 a3 a4 K = some res → V G 6 (wd (gC G) ad K 0 shsR) 18 [(0, .ref (ad 0)), (1, .int a1), (2, .int a2), (3, .int a3), (4, .int a4)] []) {a1 : Int32} {a2 : Int32} {a3 : Int32} {a4 : Int32} {t0 : Int32} {K : Mem} (h : F_X9_feed_47 k18 a1 a2 a3 a4 t0 K = some res) : V G 6 (wd (gC G) ad K 0 shsR) 47 [(0, .ref (ad 0)), (1, .int a1), (2, .int a2), (3, .int a3), (4, .int a4)] [.int t0] := by
  unfold F_X9_feed_47 at h
  refine v_istore C dX9_feed_47 rfl (by decide) (L' := [(5, .int t0), (0, .ref (ad 0)), (1, .int a1), (2, .int a2), (3, .int a3), (4, .int a4)]) rfl ?_
  refine v_aload_n C dX9_feed_49 rfl rfl 1 rfl ?_
  refine v_getr C dX9_feed_50 rfl ff_X9_52 sr_0 rfl ?_
  refine v_aload_n C dX9_feed_53 rfl rfl 1 rfl ?_
  refine v_getf C dX9_feed_54 rfl ff_X9_226 sr_0 rfl ?_
  refine v_iload C dX9_feed_57 rfl 0 rfl ?_
  refine v_bipush C dX9_feed_59 rfl bi_24 ?_
  refine v_bipush C dX9_feed_61 rfl bi_8 ?_
  refine v_iload C dX9_feed_63 rfl 5 rfl ?_
  refine v_iconst C dX9_feed_65 rfl ic_4 ?_
  refine v_irem C dX9_feed_66 rfl (by decide) ?_
  refine v_imul C dX9_feed_67 rfl ?_
  refine v_isub C dX9_feed_68 rfl ?_
  refine v_ishr C dX9_feed_69 rfl ?_
  refine v_sipush C dX9_feed_70 rfl si_255 ?_
  refine v_iand C dX9_feed_73 rfl ?_
  obtain ⟨b5, h⟩ := gdS h
  obtain ⟨K6, eK6, h⟩ := nmS h
  refine v_iast C hD dX9_feed_74 rfl sr_15 b5 eK6 ?_
  refine v_aload_n C dX9_feed_75 rfl rfl 1 rfl ?_
  refine v_dup C dX9_feed_76 rfl rfl ?_
  refine v_getf C dX9_feed_77 rfl ff_X9_226 sr_0 rfl ?_
  refine v_iconst C dX9_feed_80 rfl ic_1 ?_
  refine v_iadd C dX9_feed_81 rfl ?_
  obtain ⟨K7, eK7, h⟩ := nmS h
  refine v_putf C hD dX9_feed_82 rfl fp_X9_226 sr_0 rfl eK7 ?_
  obtain ⟨v8, ev8, h⟩ := nmS h
  refine v_iinc C dX9_feed_85 rfl 5 rfl (v := v8) (by rw [ev8]; rfl) (by decide) (L' := [(4, .int v8), (5, .int t0), (0, .ref (ad 0)), (1, .int a1), (2, .int a2), (3, .int a3)]) rfl ?_
  refine v_goto C dX9_feed_88 (tgt := 18) (by decide) ?_
  refine v_sub [2, 3, 4, 5, 0] rfl ?_
  exact hk18 h
def F_X9_feed_18 (k18 : Int32 → Int32 → Int32 → Int32 → Mem → Option (Int32 × Mem)) (a1 : Int32) (a2 : Int32) (a3 : Int32) (a4 : Int32) (K : Mem) : Option (Int32 × Mem) :=
  if 12 ≤ a4 then (
    some (K 0 16, K)
  ) else (
    if 4 ≤ a4 then (
      if 8 ≤ a4 then (
        F_X9_feed_47 k18 a1 a2 a3 a4 a3 K
      ) else (
        F_X9_feed_47 k18 a1 a2 a3 a4 a2 K
      )
    ) else (
      F_X9_feed_47 k18 a1 a2 a3 a4 a1 K
    )
  )
def L_X9_feed_18 : Nat → Int32 → Int32 → Int32 → Int32 → Mem → Option (Int32 × Mem)
  | 0, _, _, _, _, _ => none
  | n + 1, a1, a2, a3, a4, K => F_X9_feed_18 (fun a1 a2 a3 a4 K => L_X9_feed_18 n a1 a2 a3 a4 K) a1 a2 a3 a4 K
set_option maxRecDepth 100000 in
set_option maxHeartbeats 4000000 in
theorem wF_X9_feed_18 {G : Ctx} {ad : Nat → Nat} {k18 : Int32 → Int32 → Int32 → Int32 → Mem → Option (Int32 × Mem)} (C : Cx G RX9 cX9_feed 6 0 0) (hD : ∀ K, va_D (gA G) (wd (gC G) ad K 0 shsR)) {res : (Int32 × Mem)} (RET : RI G cX9_feed 6 (wd (gC G) ad res.2 0 shsR) res.1) (hk18 : ∀ {a1 : Int32} {a2 : Int32} {a3 : Int32} {a4 : Int32} {K : Mem} , k18 a1 a2 a3 a4 K = some res → V G 6 (wd (gC G) ad K 0 shsR) 18 [(0, .ref (ad 0)), (1, .int a1), (2, .int a2), (3, .int a3), (4, .int a4)] []) {a1 : Int32} {a2 : Int32} {a3 : Int32} {a4 : Int32} {K : Mem} (h : F_X9_feed_18 k18 a1 a2 a3 a4 K = some res) : V G 6 (wd (gC G) ad K 0 shsR) 18 [(0, .ref (ad 0)), (1, .int a1), (2, .int a2), (3, .int a3), (4, .int a4)] [] := by
  unfold F_X9_feed_18 at h
  refine v_iload C dX9_feed_18 rfl 4 rfl ?_
  refine v_bipush C dX9_feed_20 rfl bi_12 ?_
  refine v_icmp_ge C dX9_feed_22 (tgt := 91) (by decide) rfl (fun c2 => ?_) (fun c2 => ?_)
  · have h := ifp c2 h
    refine v_aload_n C dX9_feed_91 rfl rfl 0 rfl ?_
    refine v_getf C dX9_feed_92 rfl ff_X9_226 sr_0 rfl ?_
    obtain rfl := Option.some.inj h
    exact RET _ _ dX9_feed_95
  · have h := ifn c2 h
    refine v_iload C dX9_feed_25 rfl 4 rfl ?_
    refine v_iconst C dX9_feed_27 rfl ic_4 ?_
    refine v_icmp_ge C dX9_feed_28 (tgt := 35) (by decide) rfl (fun c3 => ?_) (fun c3 => ?_)
    · have h := ifp c3 h
      refine v_iload C dX9_feed_35 rfl 4 rfl ?_
      refine v_bipush C dX9_feed_37 rfl bi_8 ?_
      refine v_icmp_ge C dX9_feed_39 (tgt := 46) (by decide) rfl (fun c4 => ?_) (fun c4 => ?_)
      · have h := ifp c4 h
        refine v_iload_n C dX9_feed_46 rfl rfl 3 rfl ?_
        exact wF_X9_feed_47 C hD RET hk18 h
      · have h := ifn c4 h
        refine v_iload_n C dX9_feed_42 rfl rfl 2 rfl ?_
        refine v_goto C dX9_feed_43 (tgt := 47) (by decide) ?_
        exact wF_X9_feed_47 C hD RET hk18 h
    · have h := ifn c3 h
      refine v_iload_n C dX9_feed_31 rfl rfl 1 rfl ?_
      refine v_goto C dX9_feed_32 (tgt := 47) (by decide) ?_
      exact wF_X9_feed_47 C hD RET hk18 h
theorem wL_X9_feed_18 {G : Ctx} {ad : Nat → Nat} (C : Cx G RX9 cX9_feed 6 0 0) (hD : ∀ K, va_D (gA G) (wd (gC G) ad K 0 shsR)) {res : (Int32 × Mem)} (RET : RI G cX9_feed 6 (wd (gC G) ad res.2 0 shsR) res.1) : ∀ (n : Nat) {a1 : Int32} {a2 : Int32} {a3 : Int32} {a4 : Int32} {K : Mem} (h : L_X9_feed_18 n a1 a2 a3 a4 K = some res), V G 6 (wd (gC G) ad K 0 shsR) 18 [(0, .ref (ad 0)), (1, .int a1), (2, .int a2), (3, .int a3), (4, .int a4)] [] := by
  intro n
  induction n with
  | zero =>
    intro a1 a2 a3 a4 K h
    cases (show (none : Option (Int32 × Mem)) = some res from h)
  | succ n ih =>
    intro a1 a2 a3 a4 K h
    exact wF_X9_feed_18 (k18 := fun a1 a2 a3 a4 K => L_X9_feed_18  n a1 a2 a3 a4 K) C hD RET (fun h => ih h) h
def F_X9_feed_0 (a1 : Int32) (a2 : Int32) (a3 : Int32) (K : Mem) : Option (Int32 × Mem) :=
  if ((K 0 16) + 12) ≤ 96 then (
    L_X9_feed_18 FU a1 a2 a3 0 K
  ) else (
    some ((-1000000003), K)
  )
set_option maxRecDepth 100000 in
set_option maxHeartbeats 4000000 in
theorem wF_X9_feed_0 {G : Ctx} {ad : Nat → Nat} (C : Cx G RX9 cX9_feed 6 0 0) (hD : ∀ K, va_D (gA G) (wd (gC G) ad K 0 shsR)) {res : (Int32 × Mem)} (RET : RI G cX9_feed 6 (wd (gC G) ad res.2 0 shsR) res.1) {a1 : Int32} {a2 : Int32} {a3 : Int32} {K : Mem} (h : F_X9_feed_0 a1 a2 a3 K = some res) : V G 6 (wd (gC G) ad K 0 shsR) 0 [(0, .ref (ad 0)), (1, .int a1), (2, .int a2), (3, .int a3)] [] := by
  unfold F_X9_feed_0 at h
  refine v_aload_n C dX9_feed_0 rfl rfl 0 rfl ?_
  refine v_getf C dX9_feed_1 rfl ff_X9_226 sr_0 rfl ?_
  refine v_bipush C dX9_feed_4 rfl bi_12 ?_
  refine v_iadd C dX9_feed_6 rfl ?_
  refine v_bipush C dX9_feed_7 rfl bi_96 ?_
  refine v_icmp_le C dX9_feed_9 (tgt := 15) (by decide) rfl (fun c1 => ?_) (fun c1 => ?_)
  · have h := ifp c1 h
    refine v_iconst C dX9_feed_15 rfl ic_0 ?_
    refine v_istore C dX9_feed_16 rfl (by decide) (L' := [(4, .int 0), (0, .ref (ad 0)), (1, .int a1), (2, .int a2), (3, .int a3)]) rfl ?_
    refine v_sub [1, 2, 3, 4, 0] rfl ?_
    exact wL_X9_feed_18 C hD RET FU h
  · have h := ifn c1 h
    refine v_ldc C dX9_feed_12 rfl m_954 ?_
    obtain rfl := Option.some.inj h
    exact RET _ _ dX9_feed_14
def C_X9_feed (a1 : Int32) (a2 : Int32) (a3 : Int32) (K : Mem) : Option (Int32 × Mem) := F_X9_feed_0 a1 a2 a3 K
set_option maxRecDepth 100000 in
theorem c_X9_feed {l : Launch} {D : va_G} {cA : FieldType → ClassId} {X : Ex} {ad : Nat → Nat} {a1 : Int32} {a2 : Int32} {a3 : Int32} {K : Mem} {r : Int32} {K' : Mem} (h : C_X9_feed a1 a2 a3 K = some (r, K')) : MI l D cA X yX9_feed cX9_feed 6 (some .int) 0 0 [.ref (ad 0), .int a1, .int a2, .int a3] (wd cA ad K 0 shsR) (wd cA ad K' 0 shsR) r :=
  mI_of (by decide +kernel) (Nat.le_of_ble_eq_true rfl) (fun G h1 h2 h3 h4 C hD RET => by subst h1 h2 h3 h4; exact wF_X9_feed_0 C (fun K' => wd_D K' hD) RET  h)
def F_X9_trim_0 (a1 : Int32) (K : Mem) : Option (Int32 × Mem) :=
  bd (C_X9_isIn (Int32.toInt64 a1) 0 (Int32.toInt64 (K 0 16))) fun r2 =>
  if r2 = 0 then (
    some ((-1000000001), K)
  ) else (
    nm (up K 0 16 a1) fun K4 =>
    some (a1, K4)
  )
set_option maxRecDepth 100000 in
set_option maxHeartbeats 4000000 in
theorem wF_X9_trim_0 {G : Ctx} {ad : Nat → Nat} (C : Cx G RX9 cX9_trim 2 1 25) (hD : ∀ K, va_D (gA G) (wd (gC G) ad K 0 shsR)) {res : (Int32 × Mem)} (RET : RI G cX9_trim 2 (wd (gC G) ad res.2 0 shsR) res.1) {a1 : Int32} {K : Mem} (h : F_X9_trim_0 a1 K = some res) : V G 2 (wd (gC G) ad K 0 shsR) 0 [(0, .ref (ad 0)), (1, .int a1)] [] := by
  unfold F_X9_trim_0 at h
  refine v_iload_n C dX9_trim_0 rfl rfl 1 rfl ?_
  refine v_i2l C dX9_trim_1 rfl ?_
  refine v_lconst C dX9_trim_2 rfl (v := 0) (by decide) ?_
  refine v_aload_n C dX9_trim_3 rfl rfl 0 rfl ?_
  refine v_getf C dX9_trim_4 rfl ff_X9_226 sr_0 rfl ?_
  refine v_i2l C dX9_trim_7 rfl ?_
  obtain ⟨r2, e1, h⟩ := bdS h
  refine v_callSi C ys_X9_isIn m_949 (c_X9_isIn e1) (Sub.whole hD _ _) (As := [.long (Int32.toInt64 a1), .long 0, .long (Int32.toInt64 (K 0 16))]) rfl rfl (Nat.le_of_ble_eq_true rfl) ⟨Nat.le_of_ble_eq_true rfl, Nat.le_of_ble_eq_true rfl⟩ dX9_trim_8 rfl ?_
  refine v_if_ne C dX9_trim_11 (tgt := 17) (by decide) rfl (fun c3 => ?_) (fun c3 => ?_)
  · have h := ifn c3 h
    refine v_aload_n C dX9_trim_17 rfl rfl 0 rfl ?_
    refine v_iload_n C dX9_trim_18 rfl rfl 1 rfl ?_
    obtain ⟨K4, eK4, h⟩ := nmS h
    refine v_putf C hD dX9_trim_19 rfl fp_X9_226 sr_0 rfl eK4 ?_
    refine v_iload_n C dX9_trim_22 rfl rfl 1 rfl ?_
    obtain rfl := Option.some.inj h
    exact RET _ _ dX9_trim_23
  · have h := ifp c3 h
    refine v_ldc C dX9_trim_14 rfl m_953 ?_
    obtain rfl := Option.some.inj h
    exact RET _ _ dX9_trim_16
def C_X9_trim (a1 : Int32) (K : Mem) : Option (Int32 × Mem) := F_X9_trim_0 a1 K
set_option maxRecDepth 100000 in
theorem c_X9_trim {l : Launch} {D : va_G} {cA : FieldType → ClassId} {X : Ex} {ad : Nat → Nat} {a1 : Int32} {K : Mem} {r : Int32} {K' : Mem} (h : C_X9_trim a1 K = some (r, K')) : MI l D cA X yX9_trim cX9_trim 2 (some .int) 1 25 [.ref (ad 0), .int a1] (wd cA ad K 0 shsR) (wd cA ad K' 0 shsR) r :=
  mI_of (by decide +kernel) (Nat.le_of_ble_eq_true rfl) (fun G h1 h2 h3 h4 C hD RET => by subst h1 h2 h3 h4; exact wF_X9_trim_0 C (fun K' => wd_D K' hD) RET  h)
def F_X9_isLetter_0 (K : Mem) (a1 : Int32) : Option Int32 :=
  if (K 0 16) ≤ a1 then (
    some 0
  ) else (
    gd (inb a1 96) <|
    bd (C_X9_isIn (Int32.toInt64 (K 15 (Int32.toNatClampNeg a1))) 97 122) fun r4 =>
    if r4 = 0 then (
      some 0
    ) else (
      some 1
    )
  )
set_option maxRecDepth 100000 in
set_option maxHeartbeats 4000000 in
theorem wF_X9_isLetter_0 {G : Ctx} {ad : Nat → Nat} {K : Mem} (C : Cx G RX9 cX9_isLetter 2 1 25) (hD : ∀ K, va_D (gA G) (wd (gC G) ad K 0 shsR)) {res : Int32} (RET : RZ G cX9_isLetter 2 (wd (gC G) ad K 0 shsR) res) {a1 : Int32} (h : F_X9_isLetter_0 K a1 = some res) : V G 2 (wd (gC G) ad K 0 shsR) 0 [(0, .ref (ad 0)), (1, .int a1)] [] := by
  unfold F_X9_isLetter_0 at h
  refine v_iload_n C dX9_isLetter_0 rfl rfl 1 rfl ?_
  refine v_aload_n C dX9_isLetter_1 rfl rfl 0 rfl ?_
  refine v_getf C dX9_isLetter_2 rfl ff_X9_226 sr_0 rfl ?_
  refine v_icmp_ge C dX9_isLetter_5 (tgt := 31) (by decide) rfl (fun c1 => ?_) (fun c1 => ?_)
  · have h := ifp c1 h
    refine v_iconst C dX9_isLetter_31 rfl ic_0 ?_
    obtain rfl := Option.some.inj h
    exact RET _ _ dX9_isLetter_32 (Or.inl rfl)
  · have h := ifn c1 h
    refine v_aload_n C dX9_isLetter_8 rfl rfl 0 rfl ?_
    refine v_getr C dX9_isLetter_9 rfl ff_X9_52 sr_0 rfl ?_
    refine v_iload_n C dX9_isLetter_12 rfl rfl 1 rfl ?_
    obtain ⟨b2, h⟩ := gdS h
    refine v_iald C dX9_isLetter_13 rfl sr_15 b2 ?_
    refine v_i2l C dX9_isLetter_14 rfl ?_
    refine v_ldc2 C dX9_isLetter_15 rfl m_1233 ?_
    refine v_ldc2 C dX9_isLetter_18 rfl m_1234 ?_
    obtain ⟨r4, e3, h⟩ := bdS h
    refine v_callSi C ys_X9_isIn m_949 (c_X9_isIn e3) (Sub.whole hD _ _) (As := [.long (Int32.toInt64 (K 15 (Int32.toNatClampNeg a1))), .long 97, .long 122]) rfl rfl (Nat.le_of_ble_eq_true rfl) ⟨Nat.le_of_ble_eq_true rfl, Nat.le_of_ble_eq_true rfl⟩ dX9_isLetter_21 rfl ?_
    refine v_if_eq C dX9_isLetter_24 (tgt := 31) (by decide) rfl (fun c5 => ?_) (fun c5 => ?_)
    · have h := ifp c5 h
      refine v_iconst C dX9_isLetter_31 rfl ic_0 ?_
      obtain rfl := Option.some.inj h
      exact RET _ _ dX9_isLetter_32 (Or.inl rfl)
    · have h := ifn c5 h
      refine v_iconst C dX9_isLetter_27 rfl ic_1 ?_
      refine v_goto C dX9_isLetter_28 (tgt := 32) (by decide) ?_
      obtain rfl := Option.some.inj h
      exact RET _ _ dX9_isLetter_32 (Or.inr rfl)
def C_X9_isLetter (K : Mem) (a1 : Int32) : Option Int32 := F_X9_isLetter_0 K a1
set_option maxRecDepth 100000 in
theorem c_X9_isLetter {l : Launch} {D : va_G} {cA : FieldType → ClassId} {X : Ex} {ad : Nat → Nat} {a1 : Int32} {K : Mem} {r : Int32} (h : C_X9_isLetter K a1 = some r) : MI l D cA X yX9_isLetter cX9_isLetter 2 (some .boolean) 1 25 [.ref (ad 0), .int a1] (wd cA ad K 0 shsR) (wd cA ad K 0 shsR) r :=
  mZ_of (by decide +kernel) (Nat.le_of_ble_eq_true rfl) (fun G h1 h2 h3 h4 C hD RET => by subst h1 h2 h3 h4; exact wF_X9_isLetter_0 C (fun K' => wd_D K' hD) RET  h)
def F_X9_isDigit_0 (K : Mem) (a1 : Int32) : Option Int32 :=
  if (K 0 16) ≤ a1 then (
    some 0
  ) else (
    gd (inb a1 96) <|
    bd (C_X9_isIn (Int32.toInt64 (K 15 (Int32.toNatClampNeg a1))) 48 57) fun r4 =>
    if r4 = 0 then (
      some 0
    ) else (
      some 1
    )
  )
set_option maxRecDepth 100000 in
set_option maxHeartbeats 4000000 in
theorem wF_X9_isDigit_0 {G : Ctx} {ad : Nat → Nat} {K : Mem} (C : Cx G RX9 cX9_isDigit 2 1 25) (hD : ∀ K, va_D (gA G) (wd (gC G) ad K 0 shsR)) {res : Int32} (RET : RZ G cX9_isDigit 2 (wd (gC G) ad K 0 shsR) res) {a1 : Int32} (h : F_X9_isDigit_0 K a1 = some res) : V G 2 (wd (gC G) ad K 0 shsR) 0 [(0, .ref (ad 0)), (1, .int a1)] [] := by
  unfold F_X9_isDigit_0 at h
  refine v_iload_n C dX9_isDigit_0 rfl rfl 1 rfl ?_
  refine v_aload_n C dX9_isDigit_1 rfl rfl 0 rfl ?_
  refine v_getf C dX9_isDigit_2 rfl ff_X9_226 sr_0 rfl ?_
  refine v_icmp_ge C dX9_isDigit_5 (tgt := 31) (by decide) rfl (fun c1 => ?_) (fun c1 => ?_)
  · have h := ifp c1 h
    refine v_iconst C dX9_isDigit_31 rfl ic_0 ?_
    obtain rfl := Option.some.inj h
    exact RET _ _ dX9_isDigit_32 (Or.inl rfl)
  · have h := ifn c1 h
    refine v_aload_n C dX9_isDigit_8 rfl rfl 0 rfl ?_
    refine v_getr C dX9_isDigit_9 rfl ff_X9_52 sr_0 rfl ?_
    refine v_iload_n C dX9_isDigit_12 rfl rfl 1 rfl ?_
    obtain ⟨b2, h⟩ := gdS h
    refine v_iald C dX9_isDigit_13 rfl sr_15 b2 ?_
    refine v_i2l C dX9_isDigit_14 rfl ?_
    refine v_ldc2 C dX9_isDigit_15 rfl m_1239 ?_
    refine v_ldc2 C dX9_isDigit_18 rfl m_1240 ?_
    obtain ⟨r4, e3, h⟩ := bdS h
    refine v_callSi C ys_X9_isIn m_949 (c_X9_isIn e3) (Sub.whole hD _ _) (As := [.long (Int32.toInt64 (K 15 (Int32.toNatClampNeg a1))), .long 48, .long 57]) rfl rfl (Nat.le_of_ble_eq_true rfl) ⟨Nat.le_of_ble_eq_true rfl, Nat.le_of_ble_eq_true rfl⟩ dX9_isDigit_21 rfl ?_
    refine v_if_eq C dX9_isDigit_24 (tgt := 31) (by decide) rfl (fun c5 => ?_) (fun c5 => ?_)
    · have h := ifp c5 h
      refine v_iconst C dX9_isDigit_31 rfl ic_0 ?_
      obtain rfl := Option.some.inj h
      exact RET _ _ dX9_isDigit_32 (Or.inl rfl)
    · have h := ifn c5 h
      refine v_iconst C dX9_isDigit_27 rfl ic_1 ?_
      refine v_goto C dX9_isDigit_28 (tgt := 32) (by decide) ?_
      obtain rfl := Option.some.inj h
      exact RET _ _ dX9_isDigit_32 (Or.inr rfl)
def C_X9_isDigit (K : Mem) (a1 : Int32) : Option Int32 := F_X9_isDigit_0 K a1
set_option maxRecDepth 100000 in
theorem c_X9_isDigit {l : Launch} {D : va_G} {cA : FieldType → ClassId} {X : Ex} {ad : Nat → Nat} {a1 : Int32} {K : Mem} {r : Int32} (h : C_X9_isDigit K a1 = some r) : MI l D cA X yX9_isDigit cX9_isDigit 2 (some .boolean) 1 25 [.ref (ad 0), .int a1] (wd cA ad K 0 shsR) (wd cA ad K 0 shsR) r :=
  mZ_of (by decide +kernel) (Nat.le_of_ble_eq_true rfl) (fun G h1 h2 h3 h4 C hD RET => by subst h1 h2 h3 h4; exact wF_X9_isDigit_0 C (fun K' => wd_D K' hD) RET  h)
def F_X9_nextToken_162 (t0 : Int32) (K : Mem) : Option Mem :=
  nm (up K 0 19 t0) fun K47 =>
  if ((K47 0 18) - (K47 0 17)) = 1 then (
    gd (inb (K47 0 17) 96) <|
    nm (up K47 0 21 (K47 15 (Int32.toNatClampNeg (K47 0 17)))) fun K51 =>
    some K51
  ) else (
    nm (up K47 0 21 0) fun K49 =>
    some K49
  )
set_option maxRecDepth 100000 in
set_option maxHeartbeats 4000000 in
theorem wF_X9_nextToken_162 {G : Ctx} {ad : Nat → Nat} (C : Cx G RX9 cX9_nextToken 3 2 46) (hD : ∀ K, va_D (gA G) (wd (gC G) ad K 0 shsR)) {res : Mem} (RET : RV G cX9_nextToken 3 (wd (gC G) ad res 0 shsR)) {t0 : Int32} {K : Mem} (h : F_X9_nextToken_162 t0 K = some res) : V G 3 (wd (gC G) ad K 0 shsR) 162 [(0, .ref (ad 0))] [.int t0, .ref (ad 0)] := by
  unfold F_X9_nextToken_162 at h
  obtain ⟨K47, eK47, h⟩ := nmS h
  refine v_putf C hD dX9_nextToken_162 rfl fp_X9_241 sr_0 rfl eK47 ?_
  refine v_aload_n C dX9_nextToken_165 rfl rfl 0 rfl ?_
  refine v_aload_n C dX9_nextToken_166 rfl rfl 0 rfl ?_
  refine v_getf C dX9_nextToken_167 rfl ff_X9_238 sr_0 rfl ?_
  refine v_aload_n C dX9_nextToken_170 rfl rfl 0 rfl ?_
  refine v_getf C dX9_nextToken_171 rfl ff_X9_244 sr_0 rfl ?_
  refine v_isub C dX9_nextToken_174 rfl ?_
  refine v_iconst C dX9_nextToken_175 rfl ic_1 ?_
  refine v_icmp_ne C dX9_nextToken_176 (tgt := 191) (by decide) rfl (fun c48 => ?_) (fun c48 => ?_)
  · have h := ifn c48 h
    refine v_iconst C dX9_nextToken_191 rfl ic_0 ?_
    obtain ⟨K49, eK49, h⟩ := nmS h
    refine v_putf C hD dX9_nextToken_192 rfl fp_X9_250 sr_0 rfl eK49 ?_
    refine v_goto C dX9_nextToken_195 (tgt := 339) (by decide) ?_
    obtain rfl := Option.some.inj h
    exact RET _ _ dX9_nextToken_339
  · have h := ifp c48 h
    refine v_aload_n C dX9_nextToken_179 rfl rfl 0 rfl ?_
    refine v_getr C dX9_nextToken_180 rfl ff_X9_52 sr_0 rfl ?_
    refine v_aload_n C dX9_nextToken_183 rfl rfl 0 rfl ?_
    refine v_getf C dX9_nextToken_184 rfl ff_X9_244 sr_0 rfl ?_
    obtain ⟨b50, h⟩ := gdS h
    refine v_iald C dX9_nextToken_187 rfl sr_15 b50 ?_
    refine v_goto C dX9_nextToken_188 (tgt := 192) (by decide) ?_
    obtain ⟨K51, eK51, h⟩ := nmS h
    refine v_putf C hD dX9_nextToken_192 rfl fp_X9_250 sr_0 rfl eK51 ?_
    refine v_goto C dX9_nextToken_195 (tgt := 339) (by decide) ?_
    obtain rfl := Option.some.inj h
    exact RET _ _ dX9_nextToken_339
def F_X9_nextToken_128 (k128 : Int32 → Mem → Option Mem) (a1 : Int32) (K : Mem) : Option Mem :=
  bd (C_X9_isLetter K (K 0 18)) fun r43 =>
  if r43 = 0 then (
    if a1 = 0 then (
      F_X9_nextToken_162 1 K
    ) else (
      F_X9_nextToken_162 4 K
    )
  ) else (
    nm (up K 0 18 ((K 0 18) + 1)) fun K46 =>
    k128 a1 K46
  )
def L_X9_nextToken_128 : Nat → Int32 → Mem → Option Mem
  | 0, _, _ => none
  | n + 1, a1, K => F_X9_nextToken_128 (fun a1 K => L_X9_nextToken_128 n a1 K) a1 K
set_option maxRecDepth 100000 in
set_option maxHeartbeats 4000000 in
theorem wF_X9_nextToken_128 {G : Ctx} {ad : Nat → Nat} {k128 : Int32 → Mem → Option Mem} (C : Cx G RX9 cX9_nextToken 3 2 46) (hD : ∀ K, va_D (gA G) (wd (gC G) ad K 0 shsR)) {res : Mem} (RET : RV G cX9_nextToken 3 (wd (gC G) ad res 0 shsR)) (hk128 : ∀ {a1 : Int32} {K : Mem} , k128 a1 K = some res → V G 3 (wd (gC G) ad K 0 shsR) 128 [(0, .ref (ad 0)), (1, .int a1)] []) {a1 : Int32} {K : Mem} (h : F_X9_nextToken_128 k128 a1 K = some res) : V G 3 (wd (gC G) ad K 0 shsR) 128 [(0, .ref (ad 0)), (1, .int a1)] [] := by
  unfold F_X9_nextToken_128 at h
  refine v_aload_n C dX9_nextToken_128 rfl rfl 0 rfl ?_
  refine v_aload_n C dX9_nextToken_129 rfl rfl 0 rfl ?_
  refine v_getf C dX9_nextToken_130 rfl ff_X9_238 sr_0 rfl ?_
  obtain ⟨r43, e42, h⟩ := bdS h
  refine v_callVi C yv_X9_isLetter m_1229 (c_X9_isLetter e42) (Sub.whole hD _ _) ⟨_, _, _, _, _, wd_at sr_0, rfl⟩ (As := [.int (K 0 18)]) rfl rfl (Nat.le_of_ble_eq_true rfl) ⟨Nat.le_of_ble_eq_true rfl, Nat.le_of_ble_eq_true rfl⟩ dX9_nextToken_133 rfl ?_
  refine v_if_eq C dX9_nextToken_136 (tgt := 152) (by decide) rfl (fun c44 => ?_) (fun c44 => ?_)
  · have h := ifp c44 h
    refine v_aload_n C dX9_nextToken_152 rfl rfl 0 rfl ?_
    refine v_iload_n C dX9_nextToken_153 rfl rfl 1 rfl ?_
    refine v_if_eq C dX9_nextToken_154 (tgt := 161) (by decide) rfl (fun c45 => ?_) (fun c45 => ?_)
    · have h := ifp c45 h
      refine v_iconst C dX9_nextToken_161 rfl ic_1 ?_
      refine v_sub [0] rfl ?_
      exact wF_X9_nextToken_162 C hD RET h
    · have h := ifn c45 h
      refine v_iconst C dX9_nextToken_157 rfl ic_4 ?_
      refine v_goto C dX9_nextToken_158 (tgt := 162) (by decide) ?_
      refine v_sub [0] rfl ?_
      exact wF_X9_nextToken_162 C hD RET h
  · have h := ifn c44 h
    refine v_aload_n C dX9_nextToken_139 rfl rfl 0 rfl ?_
    refine v_dup C dX9_nextToken_140 rfl rfl ?_
    refine v_getf C dX9_nextToken_141 rfl ff_X9_238 sr_0 rfl ?_
    refine v_iconst C dX9_nextToken_144 rfl ic_1 ?_
    refine v_iadd C dX9_nextToken_145 rfl ?_
    obtain ⟨K46, eK46, h⟩ := nmS h
    refine v_putf C hD dX9_nextToken_146 rfl fp_X9_238 sr_0 rfl eK46 ?_
    refine v_goto C dX9_nextToken_149 (tgt := 128) (by decide) ?_
    exact hk128 h
theorem wL_X9_nextToken_128 {G : Ctx} {ad : Nat → Nat} (C : Cx G RX9 cX9_nextToken 3 2 46) (hD : ∀ K, va_D (gA G) (wd (gC G) ad K 0 shsR)) {res : Mem} (RET : RV G cX9_nextToken 3 (wd (gC G) ad res 0 shsR)) : ∀ (n : Nat) {a1 : Int32} {K : Mem} (h : L_X9_nextToken_128 n a1 K = some res), V G 3 (wd (gC G) ad K 0 shsR) 128 [(0, .ref (ad 0)), (1, .int a1)] [] := by
  intro n
  induction n with
  | zero =>
    intro a1 K h
    cases (show (none : Option Mem) = some res from h)
  | succ n ih =>
    intro a1 K h
    exact wF_X9_nextToken_128 (k128 := fun a1 K => L_X9_nextToken_128  n a1 K) C hD RET (fun h => ih h) h
def F_X9_nextToken_214 (k214 : Int32 → Mem → Option Mem) (a1 : Int32) (K : Mem) : Option Mem :=
  bd (C_X9_isDigit K (K 0 18)) fun r29 =>
  if r29 = 0 then (
    if a1 = 0 then (
      if ((K 0 18) - (K 0 17)) ≤ 4 then (
        nm (up K 0 19 2) fun K34 =>
        some K34
      ) else (
        nm (up K 0 19 4) fun K35 =>
        some K35
      )
    ) else (
      nm (up K 0 19 4) fun K32 =>
      some K32
    )
  ) else (
    if 4 ≤ ((K 0 18) - (K 0 17)) then (
      nm (up K 0 20 (K 0 20)) fun K37 =>
      nm (up K37 0 18 ((K37 0 18) + 1)) fun K38 =>
      k214 a1 K38
    ) else (
      gd (inb (K 0 18) 96) <|
      nm (up K 0 20 (((10 * (K 0 20)) + (K 15 (Int32.toNatClampNeg (K 0 18)))) - 48)) fun K40 =>
      nm (up K40 0 18 ((K40 0 18) + 1)) fun K41 =>
      k214 a1 K41
    )
  )
def L_X9_nextToken_214 : Nat → Int32 → Mem → Option Mem
  | 0, _, _ => none
  | n + 1, a1, K => F_X9_nextToken_214 (fun a1 K => L_X9_nextToken_214 n a1 K) a1 K
set_option maxRecDepth 100000 in
set_option maxHeartbeats 4000000 in
theorem wF_X9_nextToken_214 {G : Ctx} {ad : Nat → Nat} {k214 : Int32 → Mem → Option Mem} (C : Cx G RX9 cX9_nextToken 3 2 46) (hD : ∀ K, va_D (gA G) (wd (gC G) ad K 0 shsR)) {res : Mem} (RET : RV G cX9_nextToken 3 (wd (gC G) ad res 0 shsR)) (hk214 : ∀ {a1 : Int32} {K : Mem} , k214 a1 K = some res → V G 3 (wd (gC G) ad K 0 shsR) 214 [(0, .ref (ad 0)), (1, .int a1)] []) {a1 : Int32} {K : Mem} (h : F_X9_nextToken_214 k214 a1 K = some res) : V G 3 (wd (gC G) ad K 0 shsR) 214 [(0, .ref (ad 0)), (1, .int a1)] [] := by
  unfold F_X9_nextToken_214 at h
  refine v_aload_n C dX9_nextToken_214 rfl rfl 0 rfl ?_
  refine v_aload_n C dX9_nextToken_215 rfl rfl 0 rfl ?_
  refine v_getf C dX9_nextToken_216 rfl ff_X9_238 sr_0 rfl ?_
  obtain ⟨r29, e28, h⟩ := bdS h
  refine v_callVi C yv_X9_isDigit m_1235 (c_X9_isDigit e28) (Sub.whole hD _ _) ⟨_, _, _, _, _, wd_at sr_0, rfl⟩ (As := [.int (K 0 18)]) rfl rfl (Nat.le_of_ble_eq_true rfl) ⟨Nat.le_of_ble_eq_true rfl, Nat.le_of_ble_eq_true rfl⟩ dX9_nextToken_219 rfl ?_
  refine v_if_eq C dX9_nextToken_222 (tgt := 282) (by decide) rfl (fun c30 => ?_) (fun c30 => ?_)
  · have h := ifp c30 h
    refine v_aload_n C dX9_nextToken_282 rfl rfl 0 rfl ?_
    refine v_iload_n C dX9_nextToken_283 rfl rfl 1 rfl ?_
    refine v_if_ne C dX9_nextToken_284 (tgt := 300) (by decide) rfl (fun c31 => ?_) (fun c31 => ?_)
    · have h := ifn c31 h
      refine v_iconst C dX9_nextToken_300 rfl ic_4 ?_
      refine v_goto C dX9_nextToken_301 (tgt := 305) (by decide) ?_
      obtain ⟨K32, eK32, h⟩ := nmS h
      refine v_putf C hD dX9_nextToken_305 rfl fp_X9_241 sr_0 rfl eK32 ?_
      refine v_goto C dX9_nextToken_308 (tgt := 339) (by decide) ?_
      obtain rfl := Option.some.inj h
      exact RET _ _ dX9_nextToken_339
    · have h := ifp c31 h
      refine v_aload_n C dX9_nextToken_287 rfl rfl 0 rfl ?_
      refine v_getf C dX9_nextToken_288 rfl ff_X9_238 sr_0 rfl ?_
      refine v_aload_n C dX9_nextToken_291 rfl rfl 0 rfl ?_
      refine v_getf C dX9_nextToken_292 rfl ff_X9_244 sr_0 rfl ?_
      refine v_isub C dX9_nextToken_295 rfl ?_
      refine v_iconst C dX9_nextToken_296 rfl ic_4 ?_
      refine v_icmp_le C dX9_nextToken_297 (tgt := 304) (by decide) rfl (fun c33 => ?_) (fun c33 => ?_)
      · have h := ifp c33 h
        refine v_iconst C dX9_nextToken_304 rfl ic_2 ?_
        obtain ⟨K34, eK34, h⟩ := nmS h
        refine v_putf C hD dX9_nextToken_305 rfl fp_X9_241 sr_0 rfl eK34 ?_
        refine v_goto C dX9_nextToken_308 (tgt := 339) (by decide) ?_
        obtain rfl := Option.some.inj h
        exact RET _ _ dX9_nextToken_339
      · have h := ifn c33 h
        refine v_iconst C dX9_nextToken_300 rfl ic_4 ?_
        refine v_goto C dX9_nextToken_301 (tgt := 305) (by decide) ?_
        obtain ⟨K35, eK35, h⟩ := nmS h
        refine v_putf C hD dX9_nextToken_305 rfl fp_X9_241 sr_0 rfl eK35 ?_
        refine v_goto C dX9_nextToken_308 (tgt := 339) (by decide) ?_
        obtain rfl := Option.some.inj h
        exact RET _ _ dX9_nextToken_339
  · have h := ifn c30 h
    refine v_aload_n C dX9_nextToken_225 rfl rfl 0 rfl ?_
    refine v_aload_n C dX9_nextToken_226 rfl rfl 0 rfl ?_
    refine v_getf C dX9_nextToken_227 rfl ff_X9_238 sr_0 rfl ?_
    refine v_aload_n C dX9_nextToken_230 rfl rfl 0 rfl ?_
    refine v_getf C dX9_nextToken_231 rfl ff_X9_244 sr_0 rfl ?_
    refine v_isub C dX9_nextToken_234 rfl ?_
    refine v_iconst C dX9_nextToken_235 rfl ic_4 ?_
    refine v_icmp_ge C dX9_nextToken_236 (tgt := 262) (by decide) rfl (fun c36 => ?_) (fun c36 => ?_)
    · have h := ifp c36 h
      refine v_aload_n C dX9_nextToken_262 rfl rfl 0 rfl ?_
      refine v_getf C dX9_nextToken_263 rfl ff_X9_256 sr_0 rfl ?_
      obtain ⟨K37, eK37, h⟩ := nmS h
      refine v_putf C hD dX9_nextToken_266 rfl fp_X9_256 sr_0 rfl eK37 ?_
      refine v_aload_n C dX9_nextToken_269 rfl rfl 0 rfl ?_
      refine v_dup C dX9_nextToken_270 rfl rfl ?_
      refine v_getf C dX9_nextToken_271 rfl ff_X9_238 sr_0 rfl ?_
      refine v_iconst C dX9_nextToken_274 rfl ic_1 ?_
      refine v_iadd C dX9_nextToken_275 rfl ?_
      obtain ⟨K38, eK38, h⟩ := nmS h
      refine v_putf C hD dX9_nextToken_276 rfl fp_X9_238 sr_0 rfl eK38 ?_
      refine v_goto C dX9_nextToken_279 (tgt := 214) (by decide) ?_
      exact hk214 h
    · have h := ifn c36 h
      refine v_bipush C dX9_nextToken_239 rfl bi_10 ?_
      refine v_aload_n C dX9_nextToken_241 rfl rfl 0 rfl ?_
      refine v_getf C dX9_nextToken_242 rfl ff_X9_256 sr_0 rfl ?_
      refine v_imul C dX9_nextToken_245 rfl ?_
      refine v_aload_n C dX9_nextToken_246 rfl rfl 0 rfl ?_
      refine v_getr C dX9_nextToken_247 rfl ff_X9_52 sr_0 rfl ?_
      refine v_aload_n C dX9_nextToken_250 rfl rfl 0 rfl ?_
      refine v_getf C dX9_nextToken_251 rfl ff_X9_238 sr_0 rfl ?_
      obtain ⟨b39, h⟩ := gdS h
      refine v_iald C dX9_nextToken_254 rfl sr_15 b39 ?_
      refine v_iadd C dX9_nextToken_255 rfl ?_
      refine v_bipush C dX9_nextToken_256 rfl bi_48 ?_
      refine v_isub C dX9_nextToken_258 rfl ?_
      refine v_goto C dX9_nextToken_259 (tgt := 266) (by decide) ?_
      obtain ⟨K40, eK40, h⟩ := nmS h
      refine v_putf C hD dX9_nextToken_266 rfl fp_X9_256 sr_0 rfl eK40 ?_
      refine v_aload_n C dX9_nextToken_269 rfl rfl 0 rfl ?_
      refine v_dup C dX9_nextToken_270 rfl rfl ?_
      refine v_getf C dX9_nextToken_271 rfl ff_X9_238 sr_0 rfl ?_
      refine v_iconst C dX9_nextToken_274 rfl ic_1 ?_
      refine v_iadd C dX9_nextToken_275 rfl ?_
      obtain ⟨K41, eK41, h⟩ := nmS h
      refine v_putf C hD dX9_nextToken_276 rfl fp_X9_238 sr_0 rfl eK41 ?_
      refine v_goto C dX9_nextToken_279 (tgt := 214) (by decide) ?_
      exact hk214 h
theorem wL_X9_nextToken_214 {G : Ctx} {ad : Nat → Nat} (C : Cx G RX9 cX9_nextToken 3 2 46) (hD : ∀ K, va_D (gA G) (wd (gC G) ad K 0 shsR)) {res : Mem} (RET : RV G cX9_nextToken 3 (wd (gC G) ad res 0 shsR)) : ∀ (n : Nat) {a1 : Int32} {K : Mem} (h : L_X9_nextToken_214 n a1 K = some res), V G 3 (wd (gC G) ad K 0 shsR) 214 [(0, .ref (ad 0)), (1, .int a1)] [] := by
  intro n
  induction n with
  | zero =>
    intro a1 K h
    cases (show (none : Option Mem) = some res from h)
  | succ n ih =>
    intro a1 K h
    exact wF_X9_nextToken_214 (k214 := fun a1 K => L_X9_nextToken_214  n a1 K) C hD RET (fun h => ih h) h
def F_X9_nextToken_89 (t0 : Int32) (K : Mem) : Option Mem :=
  nm (up K 0 17 (K 0 18)) fun K14 =>
  if (K14 0 17) = (K14 0 16) then (
    nm (up K14 0 19 0) fun K27 =>
    some K27
  ) else (
    bd (C_X9_isLetter K14 (K14 0 17)) fun r17 =>
    if r17 = 0 then (
      bd (C_X9_isDigit K14 (K14 0 17)) fun r20 =>
      if r20 = 0 then (
        nm (up K14 0 19 3) fun K22 =>
        gd (inb (K22 0 17) 96) <|
        nm (up K22 0 21 (K22 15 (Int32.toNatClampNeg (K22 0 17)))) fun K24 =>
        nm (up K24 0 18 ((K24 0 18) + 1)) fun K25 =>
        some K25
      ) else (
        nm (up K14 0 20 0) fun K26 =>
        L_X9_nextToken_214 FU t0 K26
      )
    ) else (
      L_X9_nextToken_128 FU t0 K14
    )
  )
set_option maxRecDepth 100000 in
set_option maxHeartbeats 4000000 in
theorem wF_X9_nextToken_89 {G : Ctx} {ad : Nat → Nat} (C : Cx G RX9 cX9_nextToken 3 2 46) (hD : ∀ K, va_D (gA G) (wd (gC G) ad K 0 shsR)) {res : Mem} (RET : RV G cX9_nextToken 3 (wd (gC G) ad res 0 shsR)) {t0 : Int32} {K : Mem} (h : F_X9_nextToken_89 t0 K = some res) : V G 3 (wd (gC G) ad K 0 shsR) 89 [(0, .ref (ad 0))] [.int t0] := by
  unfold F_X9_nextToken_89 at h
  refine v_istore_n C dX9_nextToken_89 rfl rfl (by decide) (L' := [(1, .int t0), (0, .ref (ad 0))]) rfl ?_
  refine v_aload_n C dX9_nextToken_90 rfl rfl 1 rfl ?_
  refine v_aload_n C dX9_nextToken_91 rfl rfl 1 rfl ?_
  refine v_getf C dX9_nextToken_92 rfl ff_X9_238 sr_0 rfl ?_
  obtain ⟨K14, eK14, h⟩ := nmS h
  refine v_putf C hD dX9_nextToken_95 rfl fp_X9_244 sr_0 rfl eK14 ?_
  refine v_aload_n C dX9_nextToken_98 rfl rfl 1 rfl ?_
  refine v_getf C dX9_nextToken_99 rfl ff_X9_244 sr_0 rfl ?_
  refine v_aload_n C dX9_nextToken_102 rfl rfl 1 rfl ?_
  refine v_getf C dX9_nextToken_103 rfl ff_X9_226 sr_0 rfl ?_
  refine v_icmp_ne C dX9_nextToken_106 (tgt := 117) (by decide) rfl (fun c15 => ?_) (fun c15 => ?_)
  · have h := ifn c15 h
    refine v_aload_n C dX9_nextToken_117 rfl rfl 1 rfl ?_
    refine v_aload_n C dX9_nextToken_118 rfl rfl 1 rfl ?_
    refine v_getf C dX9_nextToken_119 rfl ff_X9_244 sr_0 rfl ?_
    obtain ⟨r17, e16, h⟩ := bdS h
    refine v_callVi C yv_X9_isLetter m_1229 (c_X9_isLetter e16) (Sub.whole hD _ _) ⟨_, _, _, _, _, wd_at sr_0, rfl⟩ (As := [.int (K14 0 17)]) rfl rfl (Nat.le_of_ble_eq_true rfl) ⟨Nat.le_of_ble_eq_true rfl, Nat.le_of_ble_eq_true rfl⟩ dX9_nextToken_122 rfl ?_
    refine v_if_eq C dX9_nextToken_125 (tgt := 198) (by decide) rfl (fun c18 => ?_) (fun c18 => ?_)
    · have h := ifp c18 h
      refine v_aload_n C dX9_nextToken_198 rfl rfl 1 rfl ?_
      refine v_aload_n C dX9_nextToken_199 rfl rfl 1 rfl ?_
      refine v_getf C dX9_nextToken_200 rfl ff_X9_244 sr_0 rfl ?_
      obtain ⟨r20, e19, h⟩ := bdS h
      refine v_callVi C yv_X9_isDigit m_1235 (c_X9_isDigit e19) (Sub.whole hD _ _) ⟨_, _, _, _, _, wd_at sr_0, rfl⟩ (As := [.int (K14 0 17)]) rfl rfl (Nat.le_of_ble_eq_true rfl) ⟨Nat.le_of_ble_eq_true rfl, Nat.le_of_ble_eq_true rfl⟩ dX9_nextToken_203 rfl ?_
      refine v_if_eq C dX9_nextToken_206 (tgt := 311) (by decide) rfl (fun c21 => ?_) (fun c21 => ?_)
      · have h := ifp c21 h
        refine v_aload_n C dX9_nextToken_311 rfl rfl 1 rfl ?_
        refine v_iconst C dX9_nextToken_312 rfl ic_3 ?_
        obtain ⟨K22, eK22, h⟩ := nmS h
        refine v_putf C hD dX9_nextToken_313 rfl fp_X9_241 sr_0 rfl eK22 ?_
        refine v_aload_n C dX9_nextToken_316 rfl rfl 1 rfl ?_
        refine v_aload_n C dX9_nextToken_317 rfl rfl 1 rfl ?_
        refine v_getr C dX9_nextToken_318 rfl ff_X9_52 sr_0 rfl ?_
        refine v_aload_n C dX9_nextToken_321 rfl rfl 1 rfl ?_
        refine v_getf C dX9_nextToken_322 rfl ff_X9_244 sr_0 rfl ?_
        obtain ⟨b23, h⟩ := gdS h
        refine v_iald C dX9_nextToken_325 rfl sr_15 b23 ?_
        obtain ⟨K24, eK24, h⟩ := nmS h
        refine v_putf C hD dX9_nextToken_326 rfl fp_X9_250 sr_0 rfl eK24 ?_
        refine v_aload_n C dX9_nextToken_329 rfl rfl 1 rfl ?_
        refine v_dup C dX9_nextToken_330 rfl rfl ?_
        refine v_getf C dX9_nextToken_331 rfl ff_X9_238 sr_0 rfl ?_
        refine v_iconst C dX9_nextToken_334 rfl ic_1 ?_
        refine v_iadd C dX9_nextToken_335 rfl ?_
        obtain ⟨K25, eK25, h⟩ := nmS h
        refine v_putf C hD dX9_nextToken_336 rfl fp_X9_238 sr_0 rfl eK25 ?_
        obtain rfl := Option.some.inj h
        exact RET _ _ dX9_nextToken_339
      · have h := ifn c21 h
        refine v_aload_n C dX9_nextToken_209 rfl rfl 1 rfl ?_
        refine v_iconst C dX9_nextToken_210 rfl ic_0 ?_
        obtain ⟨K26, eK26, h⟩ := nmS h
        refine v_putf C hD dX9_nextToken_211 rfl fp_X9_256 sr_0 rfl eK26 ?_
        refine v_sub [1, 0] rfl ?_
        exact wL_X9_nextToken_214 C hD RET FU h
    · have h := ifn c18 h
      refine v_sub [1, 0] rfl ?_
      exact wL_X9_nextToken_128 C hD RET FU h
  · have h := ifp c15 h
    refine v_aload_n C dX9_nextToken_109 rfl rfl 1 rfl ?_
    refine v_iconst C dX9_nextToken_110 rfl ic_0 ?_
    obtain ⟨K27, eK27, h⟩ := nmS h
    refine v_putf C hD dX9_nextToken_111 rfl fp_X9_241 sr_0 rfl eK27 ?_
    refine v_goto C dX9_nextToken_114 (tgt := 339) (by decide) ?_
    obtain rfl := Option.some.inj h
    exact RET _ _ dX9_nextToken_339
def F_X9_nextToken_72 (a1 : Int32) (a2 : Int32) (K : Mem) : Option Mem :=
  if a1 = 0 then (
    F_X9_nextToken_89 0 K
  ) else (
    if a2 = (K 0 18) then (
      F_X9_nextToken_89 1 K
    ) else (
      F_X9_nextToken_89 0 K
    )
  )
set_option maxRecDepth 100000 in
set_option maxHeartbeats 4000000 in
theorem wF_X9_nextToken_72 {G : Ctx} {ad : Nat → Nat} (C : Cx G RX9 cX9_nextToken 3 2 46) (hD : ∀ K, va_D (gA G) (wd (gC G) ad K 0 shsR)) {res : Mem} (RET : RV G cX9_nextToken 3 (wd (gC G) ad res 0 shsR)) {a1 : Int32} {a2 : Int32} {K : Mem} (h : F_X9_nextToken_72 a1 a2 K = some res) : V G 3 (wd (gC G) ad K 0 shsR) 72 [(0, .ref (ad 0)), (1, .int a1), (2, .int a2)] [] := by
  unfold F_X9_nextToken_72 at h
  refine v_iload_n C dX9_nextToken_72 rfl rfl 1 rfl ?_
  refine v_if_eq C dX9_nextToken_73 (tgt := 88) (by decide) rfl (fun c12 => ?_) (fun c12 => ?_)
  · have h := ifp c12 h
    refine v_iconst C dX9_nextToken_88 rfl ic_0 ?_
    refine v_sub [0] rfl ?_
    exact wF_X9_nextToken_89 C hD RET h
  · have h := ifn c12 h
    refine v_iload_n C dX9_nextToken_76 rfl rfl 2 rfl ?_
    refine v_aload_n C dX9_nextToken_77 rfl rfl 0 rfl ?_
    refine v_getf C dX9_nextToken_78 rfl ff_X9_238 sr_0 rfl ?_
    refine v_icmp_ne C dX9_nextToken_81 (tgt := 88) (by decide) rfl (fun c13 => ?_) (fun c13 => ?_)
    · have h := ifn c13 h
      refine v_iconst C dX9_nextToken_88 rfl ic_0 ?_
      refine v_sub [0] rfl ?_
      exact wF_X9_nextToken_89 C hD RET h
    · have h := ifp c13 h
      refine v_iconst C dX9_nextToken_84 rfl ic_1 ?_
      refine v_goto C dX9_nextToken_85 (tgt := 89) (by decide) ?_
      refine v_sub [0] rfl ?_
      exact wF_X9_nextToken_89 C hD RET h
def F_X9_nextToken_34 (k34 : Int32 → Int32 → Mem → Option Mem) (a1 : Int32) (a2 : Int32) (K : Mem) : Option Mem :=
  if (K 0 16) ≤ (K 0 18) then (
    F_X9_nextToken_72 a1 a2 K
  ) else (
    gd (inb (K 0 18) 96) <|
    if (K 15 (Int32.toNatClampNeg (K 0 18))) = 32 then (
      nm (up K 0 18 ((K 0 18) + 1)) fun K11 =>
      k34 a1 a2 K11
    ) else (
      F_X9_nextToken_72 a1 a2 K
    )
  )
def L_X9_nextToken_34 : Nat → Int32 → Int32 → Mem → Option Mem
  | 0, _, _, _ => none
  | n + 1, a1, a2, K => F_X9_nextToken_34 (fun a1 a2 K => L_X9_nextToken_34 n a1 a2 K) a1 a2 K
set_option maxRecDepth 100000 in
set_option maxHeartbeats 4000000 in
theorem wF_X9_nextToken_34 {G : Ctx} {ad : Nat → Nat} {k34 : Int32 → Int32 → Mem → Option Mem} (C : Cx G RX9 cX9_nextToken 3 2 46) (hD : ∀ K, va_D (gA G) (wd (gC G) ad K 0 shsR)) {res : Mem} (RET : RV G cX9_nextToken 3 (wd (gC G) ad res 0 shsR)) (hk34 : ∀ {a1 : Int32} {a2 : Int32} {K : Mem} , k34 a1 a2 K = some res → V G 3 (wd (gC G) ad K 0 shsR) 34 [(0, .ref (ad 0)), (1, .int a1), (2, .int a2)] []) {a1 : Int32} {a2 : Int32} {K : Mem} (h : F_X9_nextToken_34 k34 a1 a2 K = some res) : V G 3 (wd (gC G) ad K 0 shsR) 34 [(0, .ref (ad 0)), (1, .int a1), (2, .int a2)] [] := by
  unfold F_X9_nextToken_34 at h
  refine v_aload_n C dX9_nextToken_34 rfl rfl 0 rfl ?_
  refine v_getf C dX9_nextToken_35 rfl ff_X9_238 sr_0 rfl ?_
  refine v_aload_n C dX9_nextToken_38 rfl rfl 0 rfl ?_
  refine v_getf C dX9_nextToken_39 rfl ff_X9_226 sr_0 rfl ?_
  refine v_icmp_ge C dX9_nextToken_42 (tgt := 72) (by decide) rfl (fun c8 => ?_) (fun c8 => ?_)
  · have h := ifp c8 h
    exact wF_X9_nextToken_72 C hD RET h
  · have h := ifn c8 h
    refine v_aload_n C dX9_nextToken_45 rfl rfl 0 rfl ?_
    refine v_getr C dX9_nextToken_46 rfl ff_X9_52 sr_0 rfl ?_
    refine v_aload_n C dX9_nextToken_49 rfl rfl 0 rfl ?_
    refine v_getf C dX9_nextToken_50 rfl ff_X9_238 sr_0 rfl ?_
    obtain ⟨b9, h⟩ := gdS h
    refine v_iald C dX9_nextToken_53 rfl sr_15 b9 ?_
    refine v_bipush C dX9_nextToken_54 rfl bi_32 ?_
    refine v_icmp_ne C dX9_nextToken_56 (tgt := 72) (by decide) rfl (fun c10 => ?_) (fun c10 => ?_)
    · have h := ifn c10 h
      exact wF_X9_nextToken_72 C hD RET h
    · have h := ifp c10 h
      refine v_aload_n C dX9_nextToken_59 rfl rfl 0 rfl ?_
      refine v_dup C dX9_nextToken_60 rfl rfl ?_
      refine v_getf C dX9_nextToken_61 rfl ff_X9_238 sr_0 rfl ?_
      refine v_iconst C dX9_nextToken_64 rfl ic_1 ?_
      refine v_iadd C dX9_nextToken_65 rfl ?_
      obtain ⟨K11, eK11, h⟩ := nmS h
      refine v_putf C hD dX9_nextToken_66 rfl fp_X9_238 sr_0 rfl eK11 ?_
      refine v_goto C dX9_nextToken_69 (tgt := 34) (by decide) ?_
      exact hk34 h
theorem wL_X9_nextToken_34 {G : Ctx} {ad : Nat → Nat} (C : Cx G RX9 cX9_nextToken 3 2 46) (hD : ∀ K, va_D (gA G) (wd (gC G) ad K 0 shsR)) {res : Mem} (RET : RV G cX9_nextToken 3 (wd (gC G) ad res 0 shsR)) : ∀ (n : Nat) {a1 : Int32} {a2 : Int32} {K : Mem} (h : L_X9_nextToken_34 n a1 a2 K = some res), V G 3 (wd (gC G) ad K 0 shsR) 34 [(0, .ref (ad 0)), (1, .int a1), (2, .int a2)] [] := by
  intro n
  induction n with
  | zero =>
    intro a1 a2 K h
    cases (show (none : Option Mem) = some res from h)
  | succ n ih =>
    intro a1 a2 K h
    exact wF_X9_nextToken_34 (k34 := fun a1 a2 K => L_X9_nextToken_34  n a1 a2 K) C hD RET (fun h => ih h) h
def F_X9_nextToken_0 (K : Mem) : Option Mem :=
  if (K 0 18) ≤ 0 then (
    nm (K 0 18) fun v2 =>
    L_X9_nextToken_34 FU 0 v2 K
  ) else (
    if (K 0 19) = 1 then (
      nm (K 0 18) fun v4 =>
      L_X9_nextToken_34 FU 1 v4 K
    ) else (
      if (K 0 19) = 2 then (
        nm (K 0 18) fun v7 =>
        L_X9_nextToken_34 FU 1 v7 K
      ) else (
        nm (K 0 18) fun v6 =>
        L_X9_nextToken_34 FU 0 v6 K
      )
    )
  )
set_option maxRecDepth 100000 in
set_option maxHeartbeats 4000000 in
theorem wF_X9_nextToken_0 {G : Ctx} {ad : Nat → Nat} (C : Cx G RX9 cX9_nextToken 3 2 46) (hD : ∀ K, va_D (gA G) (wd (gC G) ad K 0 shsR)) {res : Mem} (RET : RV G cX9_nextToken 3 (wd (gC G) ad res 0 shsR)) {K : Mem} (h : F_X9_nextToken_0 K = some res) : V G 3 (wd (gC G) ad K 0 shsR) 0 [(0, .ref (ad 0))] [] := by
  unfold F_X9_nextToken_0 at h
  refine v_aload_n C dX9_nextToken_0 rfl rfl 0 rfl ?_
  refine v_getf C dX9_nextToken_1 rfl ff_X9_238 sr_0 rfl ?_
  refine v_if_le C dX9_nextToken_4 (tgt := 27) (by decide) rfl (fun c1 => ?_) (fun c1 => ?_)
  · have h := ifp c1 h
    refine v_iconst C dX9_nextToken_27 rfl ic_0 ?_
    refine v_istore_n C dX9_nextToken_28 rfl rfl (by decide) (L' := [(1, .int 0), (0, .ref (ad 0))]) rfl ?_
    refine v_aload_n C dX9_nextToken_29 rfl rfl 1 rfl ?_
    refine v_getf C dX9_nextToken_30 rfl ff_X9_238 sr_0 rfl ?_
    obtain ⟨v2, ev2, h⟩ := nmS h
    refine v_nmi ev2 ?_
    refine v_istore_n C dX9_nextToken_33 rfl rfl (by decide) (L' := [(2, .int v2), (1, .int 0), (0, .ref (ad 0))]) rfl ?_
    refine v_sub [2, 1, 0] rfl ?_
    exact wL_X9_nextToken_34 C hD RET FU h
  · have h := ifn c1 h
    refine v_aload_n C dX9_nextToken_7 rfl rfl 0 rfl ?_
    refine v_getf C dX9_nextToken_8 rfl ff_X9_241 sr_0 rfl ?_
    refine v_iconst C dX9_nextToken_11 rfl ic_1 ?_
    refine v_icmp_eq C dX9_nextToken_12 (tgt := 23) (by decide) rfl (fun c3 => ?_) (fun c3 => ?_)
    · have h := ifp c3 h
      refine v_iconst C dX9_nextToken_23 rfl ic_1 ?_
      refine v_goto C dX9_nextToken_24 (tgt := 28) (by decide) ?_
      refine v_istore_n C dX9_nextToken_28 rfl rfl (by decide) (L' := [(1, .int 1), (0, .ref (ad 0))]) rfl ?_
      refine v_aload_n C dX9_nextToken_29 rfl rfl 1 rfl ?_
      refine v_getf C dX9_nextToken_30 rfl ff_X9_238 sr_0 rfl ?_
      obtain ⟨v4, ev4, h⟩ := nmS h
      refine v_nmi ev4 ?_
      refine v_istore_n C dX9_nextToken_33 rfl rfl (by decide) (L' := [(2, .int v4), (1, .int 1), (0, .ref (ad 0))]) rfl ?_
      refine v_sub [2, 1, 0] rfl ?_
      exact wL_X9_nextToken_34 C hD RET FU h
    · have h := ifn c3 h
      refine v_aload_n C dX9_nextToken_15 rfl rfl 0 rfl ?_
      refine v_getf C dX9_nextToken_16 rfl ff_X9_241 sr_0 rfl ?_
      refine v_iconst C dX9_nextToken_19 rfl ic_2 ?_
      refine v_icmp_ne C dX9_nextToken_20 (tgt := 27) (by decide) rfl (fun c5 => ?_) (fun c5 => ?_)
      · have h := ifn c5 h
        refine v_iconst C dX9_nextToken_27 rfl ic_0 ?_
        refine v_istore_n C dX9_nextToken_28 rfl rfl (by decide) (L' := [(1, .int 0), (0, .ref (ad 0))]) rfl ?_
        refine v_aload_n C dX9_nextToken_29 rfl rfl 1 rfl ?_
        refine v_getf C dX9_nextToken_30 rfl ff_X9_238 sr_0 rfl ?_
        obtain ⟨v6, ev6, h⟩ := nmS h
        refine v_nmi ev6 ?_
        refine v_istore_n C dX9_nextToken_33 rfl rfl (by decide) (L' := [(2, .int v6), (1, .int 0), (0, .ref (ad 0))]) rfl ?_
        refine v_sub [2, 1, 0] rfl ?_
        exact wL_X9_nextToken_34 C hD RET FU h
      · have h := ifp c5 h
        refine v_iconst C dX9_nextToken_23 rfl ic_1 ?_
        refine v_goto C dX9_nextToken_24 (tgt := 28) (by decide) ?_
        refine v_istore_n C dX9_nextToken_28 rfl rfl (by decide) (L' := [(1, .int 1), (0, .ref (ad 0))]) rfl ?_
        refine v_aload_n C dX9_nextToken_29 rfl rfl 1 rfl ?_
        refine v_getf C dX9_nextToken_30 rfl ff_X9_238 sr_0 rfl ?_
        obtain ⟨v7, ev7, h⟩ := nmS h
        refine v_nmi ev7 ?_
        refine v_istore_n C dX9_nextToken_33 rfl rfl (by decide) (L' := [(2, .int v7), (1, .int 1), (0, .ref (ad 0))]) rfl ?_
        refine v_sub [2, 1, 0] rfl ?_
        exact wL_X9_nextToken_34 C hD RET FU h
def C_X9_nextToken (K : Mem) : Option Mem := F_X9_nextToken_0 K
set_option maxRecDepth 100000 in
theorem c_X9_nextToken {l : Launch} {D : va_G} {cA : FieldType → ClassId} {X : Ex} {ad : Nat → Nat} {K : Mem} {K' : Mem} (h : C_X9_nextToken K = some K') : MV l D cA X yX9_nextToken cX9_nextToken 3 2 46 [.ref (ad 0)] (wd cA ad K 0 shsR) (wd cA ad K' 0 shsR) :=
  mV_of (by decide +kernel) (Nat.le_of_ble_eq_true rfl) (fun G h1 h2 h3 h4 C hD RET => by subst h1 h2 h3 h4; exact wF_X9_nextToken_0 C (fun K' => wd_D K' hD) RET  h)
def F_X9_isSign_0 (K : Mem) (a1 : Int32) : Option Int32 :=
  if (K 0 19) = 3 then (
    if (K 0 21) = a1 then (
      some 1
    ) else (
      some 0
    )
  ) else (
    some 0
  )
set_option maxRecDepth 100000 in
set_option maxHeartbeats 4000000 in
theorem wF_X9_isSign_0 {G : Ctx} {ad : Nat → Nat} {K : Mem} (C : Cx G RX9 cX9_isSign 2 0 0) (hD : ∀ K, va_D (gA G) (wd (gC G) ad K 0 shsR)) {res : Int32} (RET : RZ G cX9_isSign 2 (wd (gC G) ad K 0 shsR) res) {a1 : Int32} (h : F_X9_isSign_0 K a1 = some res) : V G 2 (wd (gC G) ad K 0 shsR) 0 [(0, .ref (ad 0)), (1, .int a1)] [] := by
  unfold F_X9_isSign_0 at h
  refine v_aload_n C dX9_isSign_0 rfl rfl 0 rfl ?_
  refine v_getf C dX9_isSign_1 rfl ff_X9_241 sr_0 rfl ?_
  refine v_iconst C dX9_isSign_4 rfl ic_3 ?_
  refine v_icmp_ne C dX9_isSign_5 (tgt := 20) (by decide) rfl (fun c1 => ?_) (fun c1 => ?_)
  · have h := ifn c1 h
    refine v_iconst C dX9_isSign_20 rfl ic_0 ?_
    obtain rfl := Option.some.inj h
    exact RET _ _ dX9_isSign_21 (Or.inl rfl)
  · have h := ifp c1 h
    refine v_aload_n C dX9_isSign_8 rfl rfl 0 rfl ?_
    refine v_getf C dX9_isSign_9 rfl ff_X9_250 sr_0 rfl ?_
    refine v_iload_n C dX9_isSign_12 rfl rfl 1 rfl ?_
    refine v_icmp_ne C dX9_isSign_13 (tgt := 20) (by decide) rfl (fun c2 => ?_) (fun c2 => ?_)
    · have h := ifn c2 h
      refine v_iconst C dX9_isSign_20 rfl ic_0 ?_
      obtain rfl := Option.some.inj h
      exact RET _ _ dX9_isSign_21 (Or.inl rfl)
    · have h := ifp c2 h
      refine v_iconst C dX9_isSign_16 rfl ic_1 ?_
      refine v_goto C dX9_isSign_17 (tgt := 21) (by decide) ?_
      obtain rfl := Option.some.inj h
      exact RET _ _ dX9_isSign_21 (Or.inr rfl)
def C_X9_isSign (K : Mem) (a1 : Int32) : Option Int32 := F_X9_isSign_0 K a1
set_option maxRecDepth 100000 in
theorem c_X9_isSign {l : Launch} {D : va_G} {cA : FieldType → ClassId} {X : Ex} {ad : Nat → Nat} {a1 : Int32} {K : Mem} {r : Int32} (h : C_X9_isSign K a1 = some r) : MI l D cA X yX9_isSign cX9_isSign 2 (some .boolean) 0 0 [.ref (ad 0), .int a1] (wd cA ad K 0 shsR) (wd cA ad K 0 shsR) r :=
  mZ_of (by decide +kernel) (Nat.le_of_ble_eq_true rfl) (fun G h1 h2 h3 h4 C hD RET => by subst h1 h2 h3 h4; exact wF_X9_isSign_0 C (fun K' => wd_D K' hD) RET  h)
def F_X9_isWordAt_10 (K : Mem) (a1 : Int32) (a2 : Int32) (a3 : Int32) (a4 : Int32) (t0 : Int32) : Option Int32 :=
  if (K 0 19) = 1 then (
    if ((K 0 18) - (K 0 17)) = t0 then (
      gd (inb (K 0 17) 96) <|
      if (K 15 (Int32.toNatClampNeg (K 0 17))) = a1 then (
        gd (inb ((K 0 17) + 1) 96) <|
        if (K 15 (Int32.toNatClampNeg ((K 0 17) + 1))) = a2 then (
          gd (inb ((K 0 17) + 2) 96) <|
          if (K 15 (Int32.toNatClampNeg ((K 0 17) + 2))) = a3 then (
            if a4 = 0 then (
              some 1
            ) else (
              gd (inb ((K 0 17) + 3) 96) <|
              if (K 15 (Int32.toNatClampNeg ((K 0 17) + 3))) = a4 then (
                some 1
              ) else (
                some 0
              )
            )
          ) else (
            some 0
          )
        ) else (
          some 0
        )
      ) else (
        some 0
      )
    ) else (
      some 0
    )
  ) else (
    some 0
  )
set_option maxRecDepth 100000 in
set_option maxHeartbeats 4000000 in
theorem wF_X9_isWordAt_10 {G : Ctx} {ad : Nat → Nat} {K : Mem} (C : Cx G RX9 cX9_isWordAt 6 0 0) (hD : ∀ K, va_D (gA G) (wd (gC G) ad K 0 shsR)) {res : Int32} (RET : RZ G cX9_isWordAt 6 (wd (gC G) ad K 0 shsR) res) {a1 : Int32} {a2 : Int32} {a3 : Int32} {a4 : Int32} {t0 : Int32} (h : F_X9_isWordAt_10 K a1 a2 a3 a4 t0 = some res) : V G 6 (wd (gC G) ad K 0 shsR) 10 [(0, .ref (ad 0)), (1, .int a1), (2, .int a2), (3, .int a3), (4, .int a4)] [.int t0] := by
  unfold F_X9_isWordAt_10 at h
  refine v_istore C dX9_isWordAt_10 rfl (by decide) (L' := [(5, .int t0), (0, .ref (ad 0)), (1, .int a1), (2, .int a2), (3, .int a3), (4, .int a4)]) rfl ?_
  refine v_aload_n C dX9_isWordAt_12 rfl rfl 1 rfl ?_
  refine v_getf C dX9_isWordAt_13 rfl ff_X9_241 sr_0 rfl ?_
  refine v_iconst C dX9_isWordAt_16 rfl ic_1 ?_
  refine v_icmp_ne C dX9_isWordAt_17 (tgt := 102) (by decide) rfl (fun c2 => ?_) (fun c2 => ?_)
  · have h := ifn c2 h
    refine v_iconst C dX9_isWordAt_102 rfl ic_0 ?_
    obtain rfl := Option.some.inj h
    exact RET _ _ dX9_isWordAt_103 (Or.inl rfl)
  · have h := ifp c2 h
    refine v_aload_n C dX9_isWordAt_20 rfl rfl 1 rfl ?_
    refine v_getf C dX9_isWordAt_21 rfl ff_X9_238 sr_0 rfl ?_
    refine v_aload_n C dX9_isWordAt_24 rfl rfl 1 rfl ?_
    refine v_getf C dX9_isWordAt_25 rfl ff_X9_244 sr_0 rfl ?_
    refine v_isub C dX9_isWordAt_28 rfl ?_
    refine v_iload C dX9_isWordAt_29 rfl 0 rfl ?_
    refine v_icmp_ne C dX9_isWordAt_31 (tgt := 102) (by decide) rfl (fun c3 => ?_) (fun c3 => ?_)
    · have h := ifn c3 h
      refine v_iconst C dX9_isWordAt_102 rfl ic_0 ?_
      obtain rfl := Option.some.inj h
      exact RET _ _ dX9_isWordAt_103 (Or.inl rfl)
    · have h := ifp c3 h
      refine v_aload_n C dX9_isWordAt_34 rfl rfl 1 rfl ?_
      refine v_getr C dX9_isWordAt_35 rfl ff_X9_52 sr_0 rfl ?_
      refine v_aload_n C dX9_isWordAt_38 rfl rfl 1 rfl ?_
      refine v_getf C dX9_isWordAt_39 rfl ff_X9_244 sr_0 rfl ?_
      obtain ⟨b4, h⟩ := gdS h
      refine v_iald C dX9_isWordAt_42 rfl sr_15 b4 ?_
      refine v_iload_n C dX9_isWordAt_43 rfl rfl 2 rfl ?_
      refine v_icmp_ne C dX9_isWordAt_44 (tgt := 102) (by decide) rfl (fun c5 => ?_) (fun c5 => ?_)
      · have h := ifn c5 h
        refine v_iconst C dX9_isWordAt_102 rfl ic_0 ?_
        obtain rfl := Option.some.inj h
        exact RET _ _ dX9_isWordAt_103 (Or.inl rfl)
      · have h := ifp c5 h
        refine v_aload_n C dX9_isWordAt_47 rfl rfl 1 rfl ?_
        refine v_getr C dX9_isWordAt_48 rfl ff_X9_52 sr_0 rfl ?_
        refine v_aload_n C dX9_isWordAt_51 rfl rfl 1 rfl ?_
        refine v_getf C dX9_isWordAt_52 rfl ff_X9_244 sr_0 rfl ?_
        refine v_iconst C dX9_isWordAt_55 rfl ic_1 ?_
        refine v_iadd C dX9_isWordAt_56 rfl ?_
        obtain ⟨b6, h⟩ := gdS h
        refine v_iald C dX9_isWordAt_57 rfl sr_15 b6 ?_
        refine v_iload_n C dX9_isWordAt_58 rfl rfl 3 rfl ?_
        refine v_icmp_ne C dX9_isWordAt_59 (tgt := 102) (by decide) rfl (fun c7 => ?_) (fun c7 => ?_)
        · have h := ifn c7 h
          refine v_iconst C dX9_isWordAt_102 rfl ic_0 ?_
          obtain rfl := Option.some.inj h
          exact RET _ _ dX9_isWordAt_103 (Or.inl rfl)
        · have h := ifp c7 h
          refine v_aload_n C dX9_isWordAt_62 rfl rfl 1 rfl ?_
          refine v_getr C dX9_isWordAt_63 rfl ff_X9_52 sr_0 rfl ?_
          refine v_aload_n C dX9_isWordAt_66 rfl rfl 1 rfl ?_
          refine v_getf C dX9_isWordAt_67 rfl ff_X9_244 sr_0 rfl ?_
          refine v_iconst C dX9_isWordAt_70 rfl ic_2 ?_
          refine v_iadd C dX9_isWordAt_71 rfl ?_
          obtain ⟨b8, h⟩ := gdS h
          refine v_iald C dX9_isWordAt_72 rfl sr_15 b8 ?_
          refine v_iload_n C dX9_isWordAt_73 rfl rfl 4 rfl ?_
          refine v_icmp_ne C dX9_isWordAt_74 (tgt := 102) (by decide) rfl (fun c9 => ?_) (fun c9 => ?_)
          · have h := ifn c9 h
            refine v_iconst C dX9_isWordAt_102 rfl ic_0 ?_
            obtain rfl := Option.some.inj h
            exact RET _ _ dX9_isWordAt_103 (Or.inl rfl)
          · have h := ifp c9 h
            refine v_iload C dX9_isWordAt_77 rfl 5 rfl ?_
            refine v_if_eq C dX9_isWordAt_79 (tgt := 98) (by decide) rfl (fun c10 => ?_) (fun c10 => ?_)
            · have h := ifp c10 h
              refine v_iconst C dX9_isWordAt_98 rfl ic_1 ?_
              refine v_goto C dX9_isWordAt_99 (tgt := 103) (by decide) ?_
              obtain rfl := Option.some.inj h
              exact RET _ _ dX9_isWordAt_103 (Or.inr rfl)
            · have h := ifn c10 h
              refine v_aload_n C dX9_isWordAt_82 rfl rfl 1 rfl ?_
              refine v_getr C dX9_isWordAt_83 rfl ff_X9_52 sr_0 rfl ?_
              refine v_aload_n C dX9_isWordAt_86 rfl rfl 1 rfl ?_
              refine v_getf C dX9_isWordAt_87 rfl ff_X9_244 sr_0 rfl ?_
              refine v_iconst C dX9_isWordAt_90 rfl ic_3 ?_
              refine v_iadd C dX9_isWordAt_91 rfl ?_
              obtain ⟨b11, h⟩ := gdS h
              refine v_iald C dX9_isWordAt_92 rfl sr_15 b11 ?_
              refine v_iload C dX9_isWordAt_93 rfl 5 rfl ?_
              refine v_icmp_ne C dX9_isWordAt_95 (tgt := 102) (by decide) rfl (fun c12 => ?_) (fun c12 => ?_)
              · have h := ifn c12 h
                refine v_iconst C dX9_isWordAt_102 rfl ic_0 ?_
                obtain rfl := Option.some.inj h
                exact RET _ _ dX9_isWordAt_103 (Or.inl rfl)
              · have h := ifp c12 h
                refine v_iconst C dX9_isWordAt_98 rfl ic_1 ?_
                refine v_goto C dX9_isWordAt_99 (tgt := 103) (by decide) ?_
                obtain rfl := Option.some.inj h
                exact RET _ _ dX9_isWordAt_103 (Or.inr rfl)
def F_X9_isWordAt_0 (K : Mem) (a1 : Int32) (a2 : Int32) (a3 : Int32) (a4 : Int32) : Option Int32 :=
  if a4 = 0 then (
    F_X9_isWordAt_10 K a1 a2 a3 a4 3
  ) else (
    F_X9_isWordAt_10 K a1 a2 a3 a4 4
  )
set_option maxRecDepth 100000 in
set_option maxHeartbeats 4000000 in
theorem wF_X9_isWordAt_0 {G : Ctx} {ad : Nat → Nat} {K : Mem} (C : Cx G RX9 cX9_isWordAt 6 0 0) (hD : ∀ K, va_D (gA G) (wd (gC G) ad K 0 shsR)) {res : Int32} (RET : RZ G cX9_isWordAt 6 (wd (gC G) ad K 0 shsR) res) {a1 : Int32} {a2 : Int32} {a3 : Int32} {a4 : Int32} (h : F_X9_isWordAt_0 K a1 a2 a3 a4 = some res) : V G 6 (wd (gC G) ad K 0 shsR) 0 [(0, .ref (ad 0)), (1, .int a1), (2, .int a2), (3, .int a3), (4, .int a4)] [] := by
  unfold F_X9_isWordAt_0 at h
  refine v_iload C dX9_isWordAt_0 rfl 4 rfl ?_
  refine v_if_ne C dX9_isWordAt_2 (tgt := 9) (by decide) rfl (fun c1 => ?_) (fun c1 => ?_)
  · have h := ifn c1 h
    refine v_iconst C dX9_isWordAt_9 rfl ic_4 ?_
    exact wF_X9_isWordAt_10 C hD RET h
  · have h := ifp c1 h
    refine v_iconst C dX9_isWordAt_5 rfl ic_3 ?_
    refine v_goto C dX9_isWordAt_6 (tgt := 10) (by decide) ?_
    exact wF_X9_isWordAt_10 C hD RET h
def C_X9_isWordAt (K : Mem) (a1 : Int32) (a2 : Int32) (a3 : Int32) (a4 : Int32) : Option Int32 := F_X9_isWordAt_0 K a1 a2 a3 a4
set_option maxRecDepth 100000 in
theorem c_X9_isWordAt {l : Launch} {D : va_G} {cA : FieldType → ClassId} {X : Ex} {ad : Nat → Nat} {a1 : Int32} {a2 : Int32} {a3 : Int32} {a4 : Int32} {K : Mem} {r : Int32} (h : C_X9_isWordAt K a1 a2 a3 a4 = some r) : MI l D cA X yX9_isWordAt cX9_isWordAt 6 (some .boolean) 0 0 [.ref (ad 0), .int a1, .int a2, .int a3, .int a4] (wd cA ad K 0 shsR) (wd cA ad K 0 shsR) r :=
  mZ_of (by decide +kernel) (Nat.le_of_ble_eq_true rfl) (fun G h1 h2 h3 h4 C hD RET => by subst h1 h2 h3 h4; exact wF_X9_isWordAt_0 C (fun K' => wd_D K' hD) RET  h)
def F_X9_key_0 (K : Mem) : Option Int32 :=
  bd (C_X9_isWordAt K 119 101 97 114) fun r2 =>
  if r2 = 0 then (
    bd (C_X9_isWordAt K 102 101 101 0) fun r5 =>
    if r5 = 0 then (
      bd (C_X9_isWordAt K 102 105 110 101) fun r8 =>
      if r8 = 0 then (
        some (-1)
      ) else (
        some 2
      )
    ) else (
      some 1
    )
  ) else (
    some 0
  )
set_option maxRecDepth 100000 in
set_option maxHeartbeats 4000000 in
theorem wF_X9_key_0 {G : Ctx} {ad : Nat → Nat} {K : Mem} (C : Cx G RX9 cX9_key 1 1 25) (hD : ∀ K, va_D (gA G) (wd (gC G) ad K 0 shsR)) {res : Int32} (RET : RI G cX9_key 1 (wd (gC G) ad K 0 shsR) res) (h : F_X9_key_0 K = some res) : V G 1 (wd (gC G) ad K 0 shsR) 0 [(0, .ref (ad 0))] [] := by
  unfold F_X9_key_0 at h
  refine v_aload_n C dX9_key_0 rfl rfl 0 rfl ?_
  refine v_bipush C dX9_key_1 rfl bi_119 ?_
  refine v_bipush C dX9_key_3 rfl bi_101 ?_
  refine v_bipush C dX9_key_5 rfl bi_97 ?_
  refine v_bipush C dX9_key_7 rfl bi_114 ?_
  obtain ⟨r2, e1, h⟩ := bdS h
  refine v_callVi C yv_X9_isWordAt m_1245 (c_X9_isWordAt e1) (Sub.whole hD _ _) ⟨_, _, _, _, _, wd_at sr_0, rfl⟩ (As := [.int 119, .int 101, .int 97, .int 114]) rfl rfl (Nat.le_of_ble_eq_true rfl) ⟨Nat.le_of_ble_eq_true rfl, Nat.le_of_ble_eq_true rfl⟩ dX9_key_9 rfl ?_
  refine v_if_eq C dX9_key_12 (tgt := 17) (by decide) rfl (fun c3 => ?_) (fun c3 => ?_)
  · have h := ifp c3 h
    refine v_aload_n C dX9_key_17 rfl rfl 0 rfl ?_
    refine v_bipush C dX9_key_18 rfl bi_102 ?_
    refine v_bipush C dX9_key_20 rfl bi_101 ?_
    refine v_bipush C dX9_key_22 rfl bi_101 ?_
    refine v_iconst C dX9_key_24 rfl ic_0 ?_
    obtain ⟨r5, e4, h⟩ := bdS h
    refine v_callVi C yv_X9_isWordAt m_1245 (c_X9_isWordAt e4) (Sub.whole hD _ _) ⟨_, _, _, _, _, wd_at sr_0, rfl⟩ (As := [.int 102, .int 101, .int 101, .int 0]) rfl rfl (Nat.le_of_ble_eq_true rfl) ⟨Nat.le_of_ble_eq_true rfl, Nat.le_of_ble_eq_true rfl⟩ dX9_key_25 rfl ?_
    refine v_if_eq C dX9_key_28 (tgt := 33) (by decide) rfl (fun c6 => ?_) (fun c6 => ?_)
    · have h := ifp c6 h
      refine v_aload_n C dX9_key_33 rfl rfl 0 rfl ?_
      refine v_bipush C dX9_key_34 rfl bi_102 ?_
      refine v_bipush C dX9_key_36 rfl bi_105 ?_
      refine v_bipush C dX9_key_38 rfl bi_110 ?_
      refine v_bipush C dX9_key_40 rfl bi_101 ?_
      obtain ⟨r8, e7, h⟩ := bdS h
      refine v_callVi C yv_X9_isWordAt m_1245 (c_X9_isWordAt e7) (Sub.whole hD _ _) ⟨_, _, _, _, _, wd_at sr_0, rfl⟩ (As := [.int 102, .int 105, .int 110, .int 101]) rfl rfl (Nat.le_of_ble_eq_true rfl) ⟨Nat.le_of_ble_eq_true rfl, Nat.le_of_ble_eq_true rfl⟩ dX9_key_42 rfl ?_
      refine v_if_eq C dX9_key_45 (tgt := 52) (by decide) rfl (fun c9 => ?_) (fun c9 => ?_)
      · have h := ifp c9 h
        refine v_iconst C dX9_key_52 rfl ic_n1 ?_
        obtain rfl := Option.some.inj h
        exact RET _ _ dX9_key_53
      · have h := ifn c9 h
        refine v_iconst C dX9_key_48 rfl ic_2 ?_
        refine v_goto C dX9_key_49 (tgt := 53) (by decide) ?_
        obtain rfl := Option.some.inj h
        exact RET _ _ dX9_key_53
    · have h := ifn c6 h
      refine v_iconst C dX9_key_31 rfl ic_1 ?_
      obtain rfl := Option.some.inj h
      exact RET _ _ dX9_key_32
  · have h := ifn c3 h
    refine v_iconst C dX9_key_15 rfl ic_0 ?_
    obtain rfl := Option.some.inj h
    exact RET _ _ dX9_key_16
def C_X9_key (K : Mem) : Option Int32 := F_X9_key_0 K
set_option maxRecDepth 100000 in
theorem c_X9_key {l : Launch} {D : va_G} {cA : FieldType → ClassId} {X : Ex} {ad : Nat → Nat} {K : Mem} {r : Int32} (h : C_X9_key K = some r) : MI l D cA X yX9_key cX9_key 1 (some .int) 1 25 [.ref (ad 0)] (wd cA ad K 0 shsR) (wd cA ad K 0 shsR) r :=
  mI_of (by decide +kernel) (Nat.le_of_ble_eq_true rfl) (fun G h1 h2 h3 h4 C hD RET => by subst h1 h2 h3 h4; exact wF_X9_key_0 C (fun K' => wd_D K' hD) RET  h)
def F_X9_isName_0 (a0 : Int32) (a1 : Int32) : Option Int32 :=
  if a0 = 0 then (
    if a1 = 103 then (
      some 1
    ) else (
      if a1 = 119 then (
        some 1
      ) else (
        if a1 = 110 then (
          some 1
        ) else (
          some 0
        )
      )
    )
  ) else (
    if a0 = 1 then (
      if a1 = 114 then (
        some 1
      ) else (
        if a1 = 109 then (
          some 1
        ) else (
          some 0
        )
      )
    ) else (
      if a1 = 103 then (
        some 1
      ) else (
        if a1 = 119 then (
          some 1
        ) else (
          some 0
        )
      )
    )
  )
set_option maxRecDepth 100000 in
set_option maxHeartbeats 4000000 in
theorem wF_X9_isName_0 {G : Ctx} {w : va_W} (C : Cx G RX9 cX9_isName 2 0 0) (hD : va_D (gA G) w) {res : Int32} (RET : RZ G cX9_isName 2 w res) {a0 : Int32} {a1 : Int32} (h : F_X9_isName_0 a0 a1 = some res) : V G 2 w 0 [(0, .int a0), (1, .int a1)] [] := by
  unfold F_X9_isName_0 at h
  refine v_iload_n C dX9_isName_0 rfl rfl 0 rfl ?_
  by_cases c1 : a0 = 0
  · have h := ifp c1 h
    refine v_lsw C dX9_isName_1 (by decide) (off := 27) (by rw [c1]; decide) (tgt := 28) (by decide) ?_
    refine v_iload_n C dX9_isName_28 rfl rfl 1 rfl ?_
    refine v_bipush C dX9_isName_29 rfl bi_103 ?_
    refine v_icmp_eq C dX9_isName_31 (tgt := 46) (by decide) rfl (fun c2 => ?_) (fun c2 => ?_)
    · have h := ifp c2 h
      refine v_iconst C dX9_isName_46 rfl ic_1 ?_
      refine v_goto C dX9_isName_47 (tgt := 51) (by decide) ?_
      obtain rfl := Option.some.inj h
      exact RET _ _ dX9_isName_51 (Or.inr rfl)
    · have h := ifn c2 h
      refine v_iload_n C dX9_isName_34 rfl rfl 1 rfl ?_
      refine v_bipush C dX9_isName_35 rfl bi_119 ?_
      refine v_icmp_eq C dX9_isName_37 (tgt := 46) (by decide) rfl (fun c3 => ?_) (fun c3 => ?_)
      · have h := ifp c3 h
        refine v_iconst C dX9_isName_46 rfl ic_1 ?_
        refine v_goto C dX9_isName_47 (tgt := 51) (by decide) ?_
        obtain rfl := Option.some.inj h
        exact RET _ _ dX9_isName_51 (Or.inr rfl)
      · have h := ifn c3 h
        refine v_iload_n C dX9_isName_40 rfl rfl 1 rfl ?_
        refine v_bipush C dX9_isName_41 rfl bi_110 ?_
        refine v_icmp_ne C dX9_isName_43 (tgt := 50) (by decide) rfl (fun c4 => ?_) (fun c4 => ?_)
        · have h := ifn c4 h
          refine v_iconst C dX9_isName_50 rfl ic_0 ?_
          obtain rfl := Option.some.inj h
          exact RET _ _ dX9_isName_51 (Or.inl rfl)
        · have h := ifp c4 h
          refine v_iconst C dX9_isName_46 rfl ic_1 ?_
          refine v_goto C dX9_isName_47 (tgt := 51) (by decide) ?_
          obtain rfl := Option.some.inj h
          exact RET _ _ dX9_isName_51 (Or.inr rfl)
  · have h := ifn c1 h
    by_cases c5 : a0 = 1
    · have h := ifp c5 h
      refine v_lsw C dX9_isName_1 (by decide) (off := 51) (by rw [c5]; decide) (tgt := 52) (by decide) ?_
      refine v_iload_n C dX9_isName_52 rfl rfl 1 rfl ?_
      refine v_bipush C dX9_isName_53 rfl bi_114 ?_
      refine v_icmp_eq C dX9_isName_55 (tgt := 64) (by decide) rfl (fun c6 => ?_) (fun c6 => ?_)
      · have h := ifp c6 h
        refine v_iconst C dX9_isName_64 rfl ic_1 ?_
        refine v_goto C dX9_isName_65 (tgt := 69) (by decide) ?_
        obtain rfl := Option.some.inj h
        exact RET _ _ dX9_isName_69 (Or.inr rfl)
      · have h := ifn c6 h
        refine v_iload_n C dX9_isName_58 rfl rfl 1 rfl ?_
        refine v_bipush C dX9_isName_59 rfl bi_109 ?_
        refine v_icmp_ne C dX9_isName_61 (tgt := 68) (by decide) rfl (fun c7 => ?_) (fun c7 => ?_)
        · have h := ifn c7 h
          refine v_iconst C dX9_isName_68 rfl ic_0 ?_
          obtain rfl := Option.some.inj h
          exact RET _ _ dX9_isName_69 (Or.inl rfl)
        · have h := ifp c7 h
          refine v_iconst C dX9_isName_64 rfl ic_1 ?_
          refine v_goto C dX9_isName_65 (tgt := 69) (by decide) ?_
          obtain rfl := Option.some.inj h
          exact RET _ _ dX9_isName_69 (Or.inr rfl)
    · have h := ifn c5 h
      refine v_lsw C dX9_isName_1 (by decide) (off := 69) ((lv_osw c1 (by decide)).trans ((lv_osw c5 (by decide)).trans rfl)) (tgt := 70) (by decide) ?_
      refine v_iload_n C dX9_isName_70 rfl rfl 1 rfl ?_
      refine v_bipush C dX9_isName_71 rfl bi_103 ?_
      refine v_icmp_eq C dX9_isName_73 (tgt := 82) (by decide) rfl (fun c8 => ?_) (fun c8 => ?_)
      · have h := ifp c8 h
        refine v_iconst C dX9_isName_82 rfl ic_1 ?_
        refine v_goto C dX9_isName_83 (tgt := 87) (by decide) ?_
        obtain rfl := Option.some.inj h
        exact RET _ _ dX9_isName_87 (Or.inr rfl)
      · have h := ifn c8 h
        refine v_iload_n C dX9_isName_76 rfl rfl 1 rfl ?_
        refine v_bipush C dX9_isName_77 rfl bi_119 ?_
        refine v_icmp_ne C dX9_isName_79 (tgt := 86) (by decide) rfl (fun c9 => ?_) (fun c9 => ?_)
        · have h := ifn c9 h
          refine v_iconst C dX9_isName_86 rfl ic_0 ?_
          obtain rfl := Option.some.inj h
          exact RET _ _ dX9_isName_87 (Or.inl rfl)
        · have h := ifp c9 h
          refine v_iconst C dX9_isName_82 rfl ic_1 ?_
          refine v_goto C dX9_isName_83 (tgt := 87) (by decide) ?_
          obtain rfl := Option.some.inj h
          exact RET _ _ dX9_isName_87 (Or.inr rfl)
def C_X9_isName (a0 : Int32) (a1 : Int32) : Option Int32 := F_X9_isName_0 a0 a1
set_option maxRecDepth 100000 in
theorem c_X9_isName {l : Launch} {D : va_G} {cA : FieldType → ClassId} {X : Ex} {w : va_W} {a0 : Int32} {a1 : Int32} {r : Int32} (h : C_X9_isName a0 a1 = some r) : MI l D cA X yX9_isName cX9_isName 2 (some .boolean) 0 0 [.int a0, .int a1] w w r :=
  mZ_of (by decide +kernel) (Nat.le_of_ble_eq_true rfl) (fun G h1 h2 h3 h4 C hD RET => by subst h1 h2 h3 h4; exact wF_X9_isName_0 C hD RET  h)
