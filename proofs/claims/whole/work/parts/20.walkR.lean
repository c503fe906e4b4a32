def F_X9_isIn_0 (a0 : Int64) (a2 : Int64) (a4 : Int64) : Option Int32 :=
  if (lg_cmp a0 a2) < 0 then (
    some 0
  ) else (
    if 0 < (lg_cmp a0 a4) then (
      some 0
    ) else (
      some 1
    )
  )
set_option maxRecDepth 100000 in
set_option maxHeartbeats 4000000 in
theorem wF_X9_isIn_0 {G : Ctx} {w : va_W} (C : Cx G RX9 cX9_isIn 6 0 0) (hD : va_D (gA G) w) {res : Int32} (RET : RZ G cX9_isIn 6 w res) {a0 : Int64} {a2 : Int64} {a4 : Int64} (h : F_X9_isIn_0 a0 a2 a4 = some res) : V G 6 w 0 [(0, .long a0), (2, .long a2), (4, .long a4)] [] := by
  unfold F_X9_isIn_0 at h
  refine v_lload_n C dX9_isIn_0 rfl rfl 0 rfl ?_
  refine v_lload_n C dX9_isIn_1 rfl rfl 1 rfl ?_
  refine v_lcmp C dX9_isIn_2 rfl ?_
  refine v_if_lt C dX9_isIn_3 (tgt := 17) (by decide) rfl (fun c1 => ?_) (fun c1 => ?_)
  · have h := ifp c1 h
    refine v_iconst C dX9_isIn_17 rfl ic_0 ?_
    obtain rfl := Option.some.inj h
    exact RET _ _ dX9_isIn_18 (Or.inl rfl)
  · have h := ifn c1 h
    refine v_lload_n C dX9_isIn_6 rfl rfl 0 rfl ?_
    refine v_lload C dX9_isIn_7 rfl 2 rfl ?_
    refine v_lcmp C dX9_isIn_9 rfl ?_
    refine v_if_gt C dX9_isIn_10 (tgt := 17) (by decide) rfl (fun c2 => ?_) (fun c2 => ?_)
    · have h := ifp c2 h
      refine v_iconst C dX9_isIn_17 rfl ic_0 ?_
      obtain rfl := Option.some.inj h
      exact RET _ _ dX9_isIn_18 (Or.inl rfl)
    · have h := ifn c2 h
      refine v_iconst C dX9_isIn_13 rfl ic_1 ?_
      refine v_goto C dX9_isIn_14 (tgt := 18) (by decide) ?_
      obtain rfl := Option.some.inj h
      exact RET _ _ dX9_isIn_18 (Or.inr rfl)
def C_X9_isIn (a0 : Int64) (a2 : Int64) (a4 : Int64) : Option Int32 := F_X9_isIn_0 a0 a2 a4
set_option maxRecDepth 100000 in
theorem c_X9_isIn {l : Launch} {D : va_G} {cA : FieldType → ClassId} {X : Ex} {w : va_W} {a0 : Int64} {a2 : Int64} {a4 : Int64} {r : Int32} (h : C_X9_isIn a0 a2 a4 = some r) : MI l D cA X yX9_isIn cX9_isIn 6 (some .boolean) 0 0 [.long a0, .long a2, .long a4] w w r :=
  mZ_of (by decide +kernel) (Nat.le_of_ble_eq_true rfl) (fun G h1 h2 h3 h4 C hD RET => by subst h1 h2 h3 h4; exact wF_X9_isIn_0 C hD RET  h)
def F_X9_orNone_0 (a0 : Int32) : Option Int32 :=
  if 0 ≤ a0 then (
    some a0
  ) else (
    some (-1000000005)
  )
set_option maxRecDepth 100000 in
set_option maxHeartbeats 4000000 in
theorem wF_X9_orNone_0 {G : Ctx} {w : va_W} (C : Cx G RX9 cX9_orNone 1 0 0) (hD : va_D (gA G) w) {res : Int32} (RET : RI G cX9_orNone 1 w res) {a0 : Int32} (h : F_X9_orNone_0 a0 = some res) : V G 1 w 0 [(0, .int a0)] [] := by
  unfold F_X9_orNone_0 at h
  refine v_iload_n C dX9_orNone_0 rfl rfl 0 rfl ?_
  refine v_if_ge C dX9_orNone_1 (tgt := 9) (by decide) rfl (fun c1 => ?_) (fun c1 => ?_)
  · have h := ifp c1 h
    refine v_iload_n C dX9_orNone_9 rfl rfl 0 rfl ?_
    obtain rfl := Option.some.inj h
    exact RET _ _ dX9_orNone_10
  · have h := ifn c1 h
    refine v_ldc C dX9_orNone_4 rfl m_1145 ?_
    refine v_goto C dX9_orNone_6 (tgt := 10) (by decide) ?_
    obtain rfl := Option.some.inj h
    exact RET _ _ dX9_orNone_10
def C_X9_orNone (a0 : Int32) : Option Int32 := F_X9_orNone_0 a0
set_option maxRecDepth 100000 in
theorem c_X9_orNone {l : Launch} {D : va_G} {cA : FieldType → ClassId} {X : Ex} {w : va_W} {a0 : Int32} {r : Int32} (h : C_X9_orNone a0 = some r) : MI l D cA X yX9_orNone cX9_orNone 1 (some .int) 0 0 [.int a0] w w r :=
  mI_of (by decide +kernel) (Nat.le_of_ble_eq_true rfl) (fun G h1 h2 h3 h4 C hD RET => by subst h1 h2 h3 h4; exact wF_X9_orNone_0 C hD RET  h)
def F_X9_within_0 (a0 : Int32) (a1 : Int32) : Option Int32 :=
  if 0 ≤ a0 then (
    if a0 ≤ a1 then (
      some a0
    ) else (
      some a1
    )
  ) else (
    some 0
  )
set_option maxRecDepth 100000 in
set_option maxHeartbeats 4000000 in
theorem wF_X9_within_0 {G : Ctx} {w : va_W} (C : Cx G RX9 cX9_within 2 0 0) (hD : va_D (gA G) w) {res : Int32} (RET : RI G cX9_within 2 w res) {a0 : Int32} {a1 : Int32} (h : F_X9_within_0 a0 a1 = some res) : V G 2 w 0 [(0, .int a0), (1, .int a1)] [] := by
  unfold F_X9_within_0 at h
  refine v_iload_n C dX9_within_0 rfl rfl 0 rfl ?_
  refine v_if_ge C dX9_within_1 (tgt := 8) (by decide) rfl (fun c1 => ?_) (fun c1 => ?_)
  · have h := ifp c1 h
    refine v_iload_n C dX9_within_8 rfl rfl 0 rfl ?_
    refine v_iload_n C dX9_within_9 rfl rfl 1 rfl ?_
    refine v_icmp_le C dX9_within_10 (tgt := 17) (by decide) rfl (fun c2 => ?_) (fun c2 => ?_)
    · have h := ifp c2 h
      refine v_iload_n C dX9_within_17 rfl rfl 0 rfl ?_
      obtain rfl := Option.some.inj h
      exact RET _ _ dX9_within_18
    · have h := ifn c2 h
      refine v_iload_n C dX9_within_13 rfl rfl 1 rfl ?_
      refine v_goto C dX9_within_14 (tgt := 18) (by decide) ?_
      obtain rfl := Option.some.inj h
      exact RET _ _ dX9_within_18
  · have h := ifn c1 h
    refine v_iconst C dX9_within_4 rfl ic_0 ?_
    refine v_goto C dX9_within_5 (tgt := 18) (by decide) ?_
    obtain rfl := Option.some.inj h
    exact RET _ _ dX9_within_18
def C_X9_within (a0 : Int32) (a1 : Int32) : Option Int32 := F_X9_within_0 a0 a1
set_option maxRecDepth 100000 in
theorem c_X9_within {l : Launch} {D : va_G} {cA : FieldType → ClassId} {X : Ex} {w : va_W} {a0 : Int32} {a1 : Int32} {r : Int32} (h : C_X9_within a0 a1 = some r) : MI l D cA X yX9_within cX9_within 2 (some .int) 0 0 [.int a0, .int a1] w w r :=
  mI_of (by decide +kernel) (Nat.le_of_ble_eq_true rfl) (fun G h1 h2 h3 h4 C hD RET => by subst h1 h2 h3 h4; exact wF_X9_within_0 C hD RET  h)
def F_X9_off_0 (a0 : Int32) (a1 : Int32) : Option Int32 :=
  if a1 ≤ a0 then (
    some (a0 - a1)
  ) else (
    some (a1 - a0)
  )
set_option maxRecDepth 100000 in
set_option maxHeartbeats 4000000 in
theorem wF_X9_off_0 {G : Ctx} {w : va_W} (C : Cx G RX9 cX9_off 2 0 0) (hD : va_D (gA G) w) {res : Int32} (RET : RI G cX9_off 2 w res) {a0 : Int32} {a1 : Int32} (h : F_X9_off_0 a0 a1 = some res) : V G 2 w 0 [(0, .int a0), (1, .int a1)] [] := by
  unfold F_X9_off_0 at h
  refine v_iload_n C dX9_off_0 rfl rfl 0 rfl ?_
  refine v_iload_n C dX9_off_1 rfl rfl 1 rfl ?_
  refine v_icmp_ge C dX9_off_2 (tgt := 11) (by decide) rfl (fun c1 => ?_) (fun c1 => ?_)
  · have h := ifp c1 h
    refine v_iload_n C dX9_off_11 rfl rfl 0 rfl ?_
    refine v_iload_n C dX9_off_12 rfl rfl 1 rfl ?_
    refine v_isub C dX9_off_13 rfl ?_
    obtain rfl := Option.some.inj h
    exact RET _ _ dX9_off_14
  · have h := ifn c1 h
    refine v_iload_n C dX9_off_5 rfl rfl 1 rfl ?_
    refine v_iload_n C dX9_off_6 rfl rfl 0 rfl ?_
    refine v_isub C dX9_off_7 rfl ?_
    refine v_goto C dX9_off_8 (tgt := 14) (by decide) ?_
    obtain rfl := Option.some.inj h
    exact RET _ _ dX9_off_14
def C_X9_off (a0 : Int32) (a1 : Int32) : Option Int32 := F_X9_off_0 a0 a1
set_option maxRecDepth 100000 in
theorem c_X9_off {l : Launch} {D : va_G} {cA : FieldType → ClassId} {X : Ex} {w : va_W} {a0 : Int32} {a1 : Int32} {r : Int32} (h : C_X9_off a0 a1 = some r) : MI l D cA X yX9_off cX9_off 2 (some .int) 0 0 [.int a0, .int a1] w w r :=
  mI_of (by decide +kernel) (Nat.le_of_ble_eq_true rfl) (fun G h1 h2 h3 h4 C hD RET => by subst h1 h2 h3 h4; exact wF_X9_off_0 C hD RET  h)
def F_X9_changes_0 (a1 : Int32) (a2 : Int32) (K : Mem) : Option (Int32 × Mem) :=
  gd (inb a1 3058) <|
  nm (K 1 (Int32.toNatClampNeg a1)) fun v2 =>
  gd (inb a1 3058) <|
  nm (up K 1 (Int32.toNatClampNeg a1) a2) fun K4 =>
  some (v2, K4)
set_option maxRecDepth 100000 in
set_option maxHeartbeats 4000000 in
theorem wF_X9_changes_0 {G : Ctx} {ad : Nat → Nat} (C : Cx G RX9 cX9_changes 4 0 0) (hD : ∀ K, va_D (gA G) (wd (gC G) ad K 0 shsR)) {res : (Int32 × Mem)} (RET : RI G cX9_changes 4 (wd (gC G) ad res.2 0 shsR) res.1) {a1 : Int32} {a2 : Int32} {K : Mem} (h : F_X9_changes_0 a1 a2 K = some res) : V G 4 (wd (gC G) ad K 0 shsR) 0 [(0, .ref (ad 0)), (1, .int a1), (2, .int a2)] [] := by
  unfold F_X9_changes_0 at h
  refine v_aload_n C dX9_changes_0 rfl rfl 0 rfl ?_
  refine v_getr C dX9_changes_1 rfl ff_X9_7 sr_0 rfl ?_
  refine v_iload_n C dX9_changes_4 rfl rfl 1 rfl ?_
  obtain ⟨b1, h⟩ := gdS h
  refine v_iald C dX9_changes_5 rfl sr_1 b1 ?_
  obtain ⟨v2, ev2, h⟩ := nmS h
  refine v_nmi ev2 ?_
  refine v_istore_n C dX9_changes_6 rfl rfl (by decide) (L' := [(3, .int v2), (0, .ref (ad 0)), (1, .int a1), (2, .int a2)]) rfl ?_
  refine v_aload_n C dX9_changes_7 rfl rfl 1 rfl ?_
  refine v_getr C dX9_changes_8 rfl ff_X9_7 sr_0 rfl ?_
  refine v_iload_n C dX9_changes_11 rfl rfl 2 rfl ?_
  refine v_iload_n C dX9_changes_12 rfl rfl 3 rfl ?_
  obtain ⟨b3, h⟩ := gdS h
  obtain ⟨K4, eK4, h⟩ := nmS h
  refine v_iast C hD dX9_changes_13 rfl sr_1 b3 eK4 ?_
  refine v_iload_n C dX9_changes_14 rfl rfl 0 rfl ?_
  obtain rfl := Option.some.inj h
  exact RET _ _ dX9_changes_15
def C_X9_changes (a1 : Int32) (a2 : Int32) (K : Mem) : Option (Int32 × Mem) := F_X9_changes_0 a1 a2 K
set_option maxRecDepth 100000 in
theorem c_X9_changes {l : Launch} {D : va_G} {cA : FieldType → ClassId} {X : Ex} {ad : Nat → Nat} {a1 : Int32} {a2 : Int32} {K : Mem} {r : Int32} {K' : Mem} (h : C_X9_changes a1 a2 K = some (r, K')) : MI l D cA X yX9_changes cX9_changes 4 (some .int) 0 0 [.ref (ad 0), .int a1, .int a2] (wd cA ad K 0 shsR) (wd cA ad K' 0 shsR) r :=
  mI_of (by decide +kernel) (Nat.le_of_ble_eq_true rfl) (fun G h1 h2 h3 h4 C hD RET => by subst h1 h2 h3 h4; exact wF_X9_changes_0 C (fun K' => wd_D K' hD) RET  h)
def F_X9_textAt_0 (K : Mem) (a1 : Int32) : Option Int32 :=
  some (58 + (200 * a1))
set_option maxRecDepth 100000 in
set_option maxHeartbeats 4000000 in
theorem wF_X9_textAt_0 {G : Ctx} {ad : Nat → Nat} {K : Mem} (C : Cx G RX9 cX9_textAt 2 0 0) (hD : ∀ K, va_D (gA G) (wd (gC G) ad K 0 shsR)) {res : Int32} (RET : RI G cX9_textAt 2 (wd (gC G) ad K 0 shsR) res) {a1 : Int32} (h : F_X9_textAt_0 K a1 = some res) : V G 2 (wd (gC G) ad K 0 shsR) 0 [(0, .ref (ad 0)), (1, .int a1)] [] := by
  unfold F_X9_textAt_0 at h
  refine v_bipush C dX9_textAt_0 rfl bi_58 ?_
  refine v_sipush C dX9_textAt_2 rfl si_200 ?_
  refine v_iload_n C dX9_textAt_5 rfl rfl 1 rfl ?_
  refine v_imul C dX9_textAt_6 rfl ?_
  refine v_iadd C dX9_textAt_7 rfl ?_
  obtain rfl := Option.some.inj h
  exact RET _ _ dX9_textAt_8
def C_X9_textAt (K : Mem) (a1 : Int32) : Option Int32 := F_X9_textAt_0 K a1
set_option maxRecDepth 100000 in
theorem c_X9_textAt {l : Launch} {D : va_G} {cA : FieldType → ClassId} {X : Ex} {ad : Nat → Nat} {a1 : Int32} {K : Mem} {r : Int32} (h : C_X9_textAt K a1 = some r) : MI l D cA X yX9_textAt cX9_textAt 2 (some .int) 0 0 [.ref (ad 0), .int a1] (wd cA ad K 0 shsR) (wd cA ad K 0 shsR) r :=
  mI_of (by decide +kernel) (Nat.le_of_ble_eq_true rfl) (fun G h1 h2 h3 h4 C hD RET => by subst h1 h2 h3 h4; exact wF_X9_textAt_0 C (fun K' => wd_D K' hD) RET  h)
def F_X9_of_0 (K : Mem) (a1 : Int32) (a2 : Int32) : Option Int32 :=
  gd (inb ((10 + (4 * a1)) + a2) 3058) <|
  some (K 1 (Int32.toNatClampNeg ((10 + (4 * a1)) + a2)))
set_option maxRecDepth 100000 in
set_option maxHeartbeats 4000000 in
theorem wF_X9_of_0 {G : Ctx} {ad : Nat → Nat} {K : Mem} (C : Cx G RX9 cX9_of 3 0 0) (hD : ∀ K, va_D (gA G) (wd (gC G) ad K 0 shsR)) {res : Int32} (RET : RI G cX9_of 3 (wd (gC G) ad K 0 shsR) res) {a1 : Int32} {a2 : Int32} (h : F_X9_of_0 K a1 a2 = some res) : V G 3 (wd (gC G) ad K 0 shsR) 0 [(0, .ref (ad 0)), (1, .int a1), (2, .int a2)] [] := by
  unfold F_X9_of_0 at h
  refine v_aload_n C dX9_of_0 rfl rfl 0 rfl ?_
  refine v_getr C dX9_of_1 rfl ff_X9_7 sr_0 rfl ?_
  refine v_bipush C dX9_of_4 rfl bi_10 ?_
  refine v_iconst C dX9_of_6 rfl ic_4 ?_
  refine v_iload_n C dX9_of_7 rfl rfl 1 rfl ?_
  refine v_imul C dX9_of_8 rfl ?_
  refine v_iadd C dX9_of_9 rfl ?_
  refine v_iload_n C dX9_of_10 rfl rfl 2 rfl ?_
  refine v_iadd C dX9_of_11 rfl ?_
  obtain ⟨b1, h⟩ := gdS h
  refine v_iald C dX9_of_12 rfl sr_1 b1 ?_
  obtain rfl := Option.some.inj h
  exact RET _ _ dX9_of_13
def C_X9_of (K : Mem) (a1 : Int32) (a2 : Int32) : Option Int32 := F_X9_of_0 K a1 a2
set_option maxRecDepth 100000 in
theorem c_X9_of {l : Launch} {D : va_G} {cA : FieldType → ClassId} {X : Ex} {ad : Nat → Nat} {a1 : Int32} {a2 : Int32} {K : Mem} {r : Int32} (h : C_X9_of K a1 a2 = some r) : MI l D cA X yX9_of cX9_of 3 (some .int) 0 0 [.ref (ad 0), .int a1, .int a2] (wd cA ad K 0 shsR) (wd cA ad K 0 shsR) r :=
  mI_of (by decide +kernel) (Nat.le_of_ble_eq_true rfl) (fun G h1 h2 h3 h4 C hD RET => by subst h1 h2 h3 h4; exact wF_X9_of_0 C (fun K' => wd_D K' hD) RET  h)
def F_X9_sets_0 (a1 : Int32) (a2 : Int32) (a3 : Int32) (K : Mem) : Option Mem :=
  gd (inb ((10 + (4 * a1)) + a2) 3058) <|
  nm (up K 1 (Int32.toNatClampNeg ((10 + (4 * a1)) + a2)) a3) fun K2 =>
  some K2
set_option maxRecDepth 100000 in
set_option maxHeartbeats 4000000 in
theorem wF_X9_sets_0 {G : Ctx} {ad : Nat → Nat} (C : Cx G RX9 cX9_sets 4 0 0) (hD : ∀ K, va_D (gA G) (wd (gC G) ad K 0 shsR)) {res : Mem} (RET : RV G cX9_sets 4 (wd (gC G) ad res 0 shsR)) {a1 : Int32} {a2 : Int32} {a3 : Int32} {K : Mem} (h : F_X9_sets_0 a1 a2 a3 K = some res) : V G 4 (wd (gC G) ad K 0 shsR) 0 [(0, .ref (ad 0)), (1, .int a1), (2, .int a2), (3, .int a3)] [] := by
  unfold F_X9_sets_0 at h
  refine v_aload_n C dX9_sets_0 rfl rfl 0 rfl ?_
  refine v_getr C dX9_sets_1 rfl ff_X9_7 sr_0 rfl ?_
  refine v_bipush C dX9_sets_4 rfl bi_10 ?_
  refine v_iconst C dX9_sets_6 rfl ic_4 ?_
  refine v_iload_n C dX9_sets_7 rfl rfl 1 rfl ?_
  refine v_imul C dX9_sets_8 rfl ?_
  refine v_iadd C dX9_sets_9 rfl ?_
  refine v_iload_n C dX9_sets_10 rfl rfl 2 rfl ?_
  refine v_iadd C dX9_sets_11 rfl ?_
  refine v_iload_n C dX9_sets_12 rfl rfl 3 rfl ?_
  obtain ⟨b1, h⟩ := gdS h
  obtain ⟨K2, eK2, h⟩ := nmS h
  refine v_iast C hD dX9_sets_13 rfl sr_1 b1 eK2 ?_
  obtain rfl := Option.some.inj h
  exact RET _ _ dX9_sets_14
def C_X9_sets (a1 : Int32) (a2 : Int32) (a3 : Int32) (K : Mem) : Option Mem := F_X9_sets_0 a1 a2 a3 K
set_option maxRecDepth 100000 in
theorem c_X9_sets {l : Launch} {D : va_G} {cA : FieldType → ClassId} {X : Ex} {ad : Nat → Nat} {a1 : Int32} {a2 : Int32} {a3 : Int32} {K : Mem} {K' : Mem} (h : C_X9_sets a1 a2 a3 K = some K') : MV l D cA X yX9_sets cX9_sets 4 0 0 [.ref (ad 0), .int a1, .int a2, .int a3] (wd cA ad K 0 shsR) (wd cA ad K' 0 shsR) :=
  mV_of (by decide +kernel) (Nat.le_of_ble_eq_true rfl) (fun G h1 h2 h3 h4 C hD RET => by subst h1 h2 h3 h4; exact wF_X9_sets_0 C (fun K' => wd_D K' hD) RET  h)
def F_X9_isCourse_0 (K : Mem) (a1 : Int32) : Option Int32 :=
  gd (inb 0 3058) <|
  bd (C_X9_isIn (Int32.toInt64 a1) 0 (Int32.toInt64 ((K 1 (Int32.toNatClampNeg 0)) - 1))) fun r3 =>
  gd (z01 r3) <|
  some r3
set_option maxRecDepth 100000 in
set_option maxHeartbeats 4000000 in
theorem wF_X9_isCourse_0 {G : Ctx} {ad : Nat → Nat} {K : Mem} (C : Cx G RX9 cX9_isCourse 2 1 25) (hD : ∀ K, va_D (gA G) (wd (gC G) ad K 0 shsR)) {res : Int32} (RET : RZ G cX9_isCourse 2 (wd (gC G) ad K 0 shsR) res) {a1 : Int32} (h : F_X9_isCourse_0 K a1 = some res) : V G 2 (wd (gC G) ad K 0 shsR) 0 [(0, .ref (ad 0)), (1, .int a1)] [] := by
  unfold F_X9_isCourse_0 at h
  refine v_iload_n C dX9_isCourse_0 rfl rfl 1 rfl ?_
  refine v_i2l C dX9_isCourse_1 rfl ?_
  refine v_lconst C dX9_isCourse_2 rfl (v := 0) (by decide) ?_
  refine v_aload_n C dX9_isCourse_3 rfl rfl 0 rfl ?_
  refine v_getr C dX9_isCourse_4 rfl ff_X9_7 sr_0 rfl ?_
  refine v_iconst C dX9_isCourse_7 rfl ic_0 ?_
  obtain ⟨b1, h⟩ := gdS h
  refine v_iald C dX9_isCourse_8 rfl sr_1 b1 ?_
  refine v_iconst C dX9_isCourse_9 rfl ic_1 ?_
  refine v_isub C dX9_isCourse_10 rfl ?_
  refine v_i2l C dX9_isCourse_11 rfl ?_
  obtain ⟨r3, e2, h⟩ := bdS h
  refine v_callSi C ys_X9_isIn m_949 (c_X9_isIn e2) (Sub.whole hD _ _) (As := [.long (Int32.toInt64 a1), .long 0, .long (Int32.toInt64 ((K 1 (Int32.toNatClampNeg 0)) - 1))]) rfl rfl (Nat.le_of_ble_eq_true rfl) ⟨Nat.le_of_ble_eq_true rfl, Nat.le_of_ble_eq_true rfl⟩ dX9_isCourse_12 rfl ?_
  obtain ⟨b4, h⟩ := gdS h
  obtain rfl := Option.some.inj h
  exact RET _ _ dX9_isCourse_15 (z01S b4)
def C_X9_isCourse (K : Mem) (a1 : Int32) : Option Int32 := F_X9_isCourse_0 K a1
set_option maxRecDepth 100000 in
theorem c_X9_isCourse {l : Launch} {D : va_G} {cA : FieldType → ClassId} {X : Ex} {ad : Nat → Nat} {a1 : Int32} {K : Mem} {r : Int32} (h : C_X9_isCourse K a1 = some r) : MI l D cA X yX9_isCourse cX9_isCourse 2 (some .boolean) 1 25 [.ref (ad 0), .int a1] (wd cA ad K 0 shsR) (wd cA ad K 0 shsR) r :=
  mZ_of (by decide +kernel) (Nat.le_of_ble_eq_true rfl) (fun G h1 h2 h3 h4 C hD RET => by subst h1 h2 h3 h4; exact wF_X9_isCourse_0 C (fun K' => wd_D K' hD) RET  h)
def F_X9_isText_0 (K : Mem) (a1 : Int32) : Option Int32 :=
  gd (inb 1 3058) <|
  bd (C_X9_isIn (Int32.toInt64 a1) 0 (Int32.toInt64 ((K 1 (Int32.toNatClampNeg 1)) - 1))) fun r3 =>
  gd (z01 r3) <|
  some r3
set_option maxRecDepth 100000 in
set_option maxHeartbeats 4000000 in
theorem wF_X9_isText_0 {G : Ctx} {ad : Nat → Nat} {K : Mem} (C : Cx G RX9 cX9_isText 2 1 25) (hD : ∀ K, va_D (gA G) (wd (gC G) ad K 0 shsR)) {res : Int32} (RET : RZ G cX9_isText 2 (wd (gC G) ad K 0 shsR) res) {a1 : Int32} (h : F_X9_isText_0 K a1 = some res) : V G 2 (wd (gC G) ad K 0 shsR) 0 [(0, .ref (ad 0)), (1, .int a1)] [] := by
  unfold F_X9_isText_0 at h
  refine v_iload_n C dX9_isText_0 rfl rfl 1 rfl ?_
  refine v_i2l C dX9_isText_1 rfl ?_
  refine v_lconst C dX9_isText_2 rfl (v := 0) (by decide) ?_
  refine v_aload_n C dX9_isText_3 rfl rfl 0 rfl ?_
  refine v_getr C dX9_isText_4 rfl ff_X9_7 sr_0 rfl ?_
  refine v_iconst C dX9_isText_7 rfl ic_1 ?_
  obtain ⟨b1, h⟩ := gdS h
  refine v_iald C dX9_isText_8 rfl sr_1 b1 ?_
  refine v_iconst C dX9_isText_9 rfl ic_1 ?_
  refine v_isub C dX9_isText_10 rfl ?_
  refine v_i2l C dX9_isText_11 rfl ?_
  obtain ⟨r3, e2, h⟩ := bdS h
  refine v_callSi C ys_X9_isIn m_949 (c_X9_isIn e2) (Sub.whole hD _ _) (As := [.long (Int32.toInt64 a1), .long 0, .long (Int32.toInt64 ((K 1 (Int32.toNatClampNeg 1)) - 1))]) rfl rfl (Nat.le_of_ble_eq_true rfl) ⟨Nat.le_of_ble_eq_true rfl, Nat.le_of_ble_eq_true rfl⟩ dX9_isText_12 rfl ?_
  obtain ⟨b4, h⟩ := gdS h
  obtain rfl := Option.some.inj h
  exact RET _ _ dX9_isText_15 (z01S b4)
def C_X9_isText (K : Mem) (a1 : Int32) : Option Int32 := F_X9_isText_0 K a1
set_option maxRecDepth 100000 in
theorem c_X9_isText {l : Launch} {D : va_G} {cA : FieldType → ClassId} {X : Ex} {ad : Nat → Nat} {a1 : Int32} {K : Mem} {r : Int32} (h : C_X9_isText K a1 = some r) : MI l D cA X yX9_isText cX9_isText 2 (some .boolean) 1 25 [.ref (ad 0), .int a1] (wd cA ad K 0 shsR) (wd cA ad K 0 shsR) r :=
  mZ_of (by decide +kernel) (Nat.le_of_ble_eq_true rfl) (fun G h1 h2 h3 h4 C hD RET => by subst h1 h2 h3 h4; exact wF_X9_isText_0 C (fun K' => wd_D K' hD) RET  h)
def F_X9_drawn_0 (K : Mem) : Option (Int32 × Mem) :=
  gd (inb 9 3058) <|
  gd (inb 9 3058) <|
  nm (up K 1 (Int32.toNatClampNeg 9) (((K 1 (Int32.toNatClampNeg 9)) * 1103515245) + 12345)) fun K3 =>
  gd (inb 9 3058) <|
  some (jushr (K3 1 (Int32.toNatClampNeg 9)) 8, K3)
set_option maxRecDepth 100000 in
set_option maxHeartbeats 4000000 in
theorem wF_X9_drawn_0 {G : Ctx} {ad : Nat → Nat} (C : Cx G RX9 cX9_drawn 1 0 0) (hD : ∀ K, va_D (gA G) (wd (gC G) ad K 0 shsR)) {res : (Int32 × Mem)} (RET : RI G cX9_drawn 1 (wd (gC G) ad res.2 0 shsR) res.1) {K : Mem} (h : F_X9_drawn_0 K = some res) : V G 1 (wd (gC G) ad K 0 shsR) 0 [(0, .ref (ad 0))] [] := by
  unfold F_X9_drawn_0 at h
  refine v_aload_n C dX9_drawn_0 rfl rfl 0 rfl ?_
  refine v_getr C dX9_drawn_1 rfl ff_X9_7 sr_0 rfl ?_
  refine v_bipush C dX9_drawn_4 rfl bi_9 ?_
  refine v_aload_n C dX9_drawn_6 rfl rfl 0 rfl ?_
  refine v_getr C dX9_drawn_7 rfl ff_X9_7 sr_0 rfl ?_
  refine v_bipush C dX9_drawn_10 rfl bi_9 ?_
  obtain ⟨b1, h⟩ := gdS h
  refine v_iald C dX9_drawn_12 rfl sr_1 b1 ?_
  refine v_ldc C dX9_drawn_13 rfl m_1084 ?_
  refine v_imul C dX9_drawn_15 rfl ?_
  refine v_sipush C dX9_drawn_16 rfl si_12345 ?_
  refine v_iadd C dX9_drawn_19 rfl ?_
  obtain ⟨b2, h⟩ := gdS h
  obtain ⟨K3, eK3, h⟩ := nmS h
  refine v_iast C hD dX9_drawn_20 rfl sr_1 b2 eK3 ?_
  refine v_aload_n C dX9_drawn_21 rfl rfl 0 rfl ?_
  refine v_getr C dX9_drawn_22 rfl ff_X9_7 sr_0 rfl ?_
  refine v_bipush C dX9_drawn_25 rfl bi_9 ?_
  obtain ⟨b4, h⟩ := gdS h
  refine v_iald C dX9_drawn_27 rfl sr_1 b4 ?_
  refine v_bipush C dX9_drawn_28 rfl bi_8 ?_
  refine v_iushr C dX9_drawn_30 rfl ?_
  obtain rfl := Option.some.inj h
  exact RET _ _ dX9_drawn_31
def C_X9_drawn (K : Mem) : Option (Int32 × Mem) := F_X9_drawn_0 K
set_option maxRecDepth 100000 in
theorem c_X9_drawn {l : Launch} {D : va_G} {cA : FieldType → ClassId} {X : Ex} {ad : Nat → Nat} {K : Mem} {r : Int32} {K' : Mem} (h : C_X9_drawn K = some (r, K')) : MI l D cA X yX9_drawn cX9_drawn 1 (some .int) 0 0 [.ref (ad 0)] (wd cA ad K 0 shsR) (wd cA ad K' 0 shsR) r :=
  mI_of (by decide +kernel) (Nat.le_of_ble_eq_true rfl) (fun G h1 h2 h3 h4 C hD RET => by subst h1 h2 h3 h4; exact wF_X9_drawn_0 C (fun K' => wd_D K' hD) RET  h)
def F_X9_isOf_19 (a0 : Int32) (a1 : Int32) : Option Int32 :=
  if a1 = 2 then (
    if a0 = 4 then (
      some 1
    ) else (
      some 0
    )
  ) else (
    some 0
  )
set_option maxRecDepth 100000 in
set_option maxHeartbeats 4000000 in
theorem wF_X9_isOf_19 {G : Ctx} {w : va_W} (C : Cx G RX9 cX9_isOf 2 0 0) (hD : va_D (gA G) w) {res : Int32} (RET : RZ G cX9_isOf 2 w res) {a0 : Int32} {a1 : Int32} (h : F_X9_isOf_19 a0 a1 = some res) : V G 2 w 19 [(0, .int a0), (1, .int a1)] [] := by
  unfold F_X9_isOf_19 at h
  refine v_iload_n C dX9_isOf_19 rfl rfl 1 rfl ?_
  refine v_iconst C dX9_isOf_20 rfl ic_2 ?_
  refine v_icmp_ne C dX9_isOf_21 (tgt := 33) (by decide) rfl (fun c5 => ?_) (fun c5 => ?_)
  · have h := ifn c5 h
    refine v_iconst C dX9_isOf_33 rfl ic_0 ?_
    obtain rfl := Option.some.inj h
    exact RET _ _ dX9_isOf_34 (Or.inl rfl)
  · have h := ifp c5 h
    refine v_iload_n C dX9_isOf_24 rfl rfl 0 rfl ?_
    refine v_iconst C dX9_isOf_25 rfl ic_4 ?_
    refine v_icmp_ne C dX9_isOf_26 (tgt := 33) (by decide) rfl (fun c6 => ?_) (fun c6 => ?_)
    · have h := ifn c6 h
      refine v_iconst C dX9_isOf_33 rfl ic_0 ?_
      obtain rfl := Option.some.inj h
      exact RET _ _ dX9_isOf_34 (Or.inl rfl)
    · have h := ifp c6 h
      refine v_iconst C dX9_isOf_29 rfl ic_1 ?_
      refine v_goto C dX9_isOf_30 (tgt := 34) (by decide) ?_
      obtain rfl := Option.some.inj h
      exact RET _ _ dX9_isOf_34 (Or.inr rfl)
def F_X9_isOf_0 (a0 : Int32) (a1 : Int32) : Option Int32 :=
  if a0 = a1 then (
    some 1
  ) else (
    if a1 = 0 then (
      some 1
    ) else (
      if a1 = 1 then (
        if a0 = 3 then (
          some 1
        ) else (
          F_X9_isOf_19 a0 a1
        )
      ) else (
        F_X9_isOf_19 a0 a1
      )
    )
  )
set_option maxRecDepth 100000 in
set_option maxHeartbeats 4000000 in
theorem wF_X9_isOf_0 {G : Ctx} {w : va_W} (C : Cx G RX9 cX9_isOf 2 0 0) (hD : va_D (gA G) w) {res : Int32} (RET : RZ G cX9_isOf 2 w res) {a0 : Int32} {a1 : Int32} (h : F_X9_isOf_0 a0 a1 = some res) : V G 2 w 0 [(0, .int a0), (1, .int a1)] [] := by
  unfold F_X9_isOf_0 at h
  refine v_iload_n C dX9_isOf_0 rfl rfl 0 rfl ?_
  refine v_iload_n C dX9_isOf_1 rfl rfl 1 rfl ?_
  refine v_icmp_eq C dX9_isOf_2 (tgt := 29) (by decide) rfl (fun c1 => ?_) (fun c1 => ?_)
  · have h := ifp c1 h
    refine v_iconst C dX9_isOf_29 rfl ic_1 ?_
    refine v_goto C dX9_isOf_30 (tgt := 34) (by decide) ?_
    obtain rfl := Option.some.inj h
    exact RET _ _ dX9_isOf_34 (Or.inr rfl)
  · have h := ifn c1 h
    refine v_iload_n C dX9_isOf_5 rfl rfl 1 rfl ?_
    refine v_if_eq C dX9_isOf_6 (tgt := 29) (by decide) rfl (fun c2 => ?_) (fun c2 => ?_)
    · have h := ifp c2 h
      refine v_iconst C dX9_isOf_29 rfl ic_1 ?_
      refine v_goto C dX9_isOf_30 (tgt := 34) (by decide) ?_
      obtain rfl := Option.some.inj h
      exact RET _ _ dX9_isOf_34 (Or.inr rfl)
    · have h := ifn c2 h
      refine v_iload_n C dX9_isOf_9 rfl rfl 1 rfl ?_
      refine v_iconst C dX9_isOf_10 rfl ic_1 ?_
      refine v_icmp_ne C dX9_isOf_11 (tgt := 19) (by decide) rfl (fun c3 => ?_) (fun c3 => ?_)
      · have h := ifn c3 h
        exact wF_X9_isOf_19 C hD RET h
      · have h := ifp c3 h
        refine v_iload_n C dX9_isOf_14 rfl rfl 0 rfl ?_
        refine v_iconst C dX9_isOf_15 rfl ic_3 ?_
        refine v_icmp_eq C dX9_isOf_16 (tgt := 29) (by decide) rfl (fun c4 => ?_) (fun c4 => ?_)
        · have h := ifp c4 h
          refine v_iconst C dX9_isOf_29 rfl ic_1 ?_
          refine v_goto C dX9_isOf_30 (tgt := 34) (by decide) ?_
          obtain rfl := Option.some.inj h
          exact RET _ _ dX9_isOf_34 (Or.inr rfl)
        · have h := ifn c4 h
          exact wF_X9_isOf_19 C hD RET h
def C_X9_isOf (a0 : Int32) (a1 : Int32) : Option Int32 := F_X9_isOf_0 a0 a1
set_option maxRecDepth 100000 in
theorem c_X9_isOf {l : Launch} {D : va_G} {cA : FieldType → ClassId} {X : Ex} {w : va_W} {a0 : Int32} {a1 : Int32} {r : Int32} (h : C_X9_isOf a0 a1 = some r) : MI l D cA X yX9_isOf cX9_isOf 2 (some .boolean) 0 0 [.int a0, .int a1] w w r :=
  mZ_of (by decide +kernel) (Nat.le_of_ble_eq_true rfl) (fun G h1 h2 h3 h4 C hD RET => by subst h1 h2 h3 h4; exact wF_X9_isOf_0 C hD RET  h)
def F_X9_isLoop_0 (a0 : Int32) : Option Int32 :=
  bd (C_X9_isIn (Int32.toInt64 a0) 0 7) fun r2 =>
  gd (z01 r2) <|
  some r2
set_option maxRecDepth 100000 in
set_option maxHeartbeats 4000000 in
theorem wF_X9_isLoop_0 {G : Ctx} {w : va_W} (C : Cx G RX9 cX9_isLoop 1 1 25) (hD : va_D (gA G) w) {res : Int32} (RET : RZ G cX9_isLoop 1 w res) {a0 : Int32} (h : F_X9_isLoop_0 a0 = some res) : V G 1 w 0 [(0, .int a0)] [] := by
  unfold F_X9_isLoop_0 at h
  refine v_iload_n C dX9_isLoop_0 rfl rfl 0 rfl ?_
  refine v_i2l C dX9_isLoop_1 rfl ?_
  refine v_lconst C dX9_isLoop_2 rfl (v := 0) (by decide) ?_
  refine v_ldc2 C dX9_isLoop_3 rfl m_971 ?_
  obtain ⟨r2, e1, h⟩ := bdS h
  refine v_callSi C ys_X9_isIn m_949 (c_X9_isIn e1) (Sub.same hD) (As := [.long (Int32.toInt64 a0), .long 0, .long 7]) rfl rfl (Nat.le_of_ble_eq_true rfl) ⟨Nat.le_of_ble_eq_true rfl, Nat.le_of_ble_eq_true rfl⟩ dX9_isLoop_6 rfl ?_
  obtain ⟨b3, h⟩ := gdS h
  obtain rfl := Option.some.inj h
  exact RET _ _ dX9_isLoop_9 (z01S b3)
def C_X9_isLoop (a0 : Int32) : Option Int32 := F_X9_isLoop_0 a0
set_option maxRecDepth 100000 in
theorem c_X9_isLoop {l : Launch} {D : va_G} {cA : FieldType → ClassId} {X : Ex} {w : va_W} {a0 : Int32} {r : Int32} (h : C_X9_isLoop a0 = some r) : MI l D cA X yX9_isLoop cX9_isLoop 1 (some .boolean) 1 25 [.int a0] w w r :=
  mZ_of (by decide +kernel) (Nat.le_of_ble_eq_true rfl) (fun G h1 h2 h3 h4 C hD RET => by subst h1 h2 h3 h4; exact wF_X9_isLoop_0 C hD RET  h)
def F_X9_isAmong_0 (a0 : Int32) (a1 : Int32) : Option Int32 :=
  if ((jshr a0 a1) &&& 1) = 1 then (
    some 1
  ) else (
    some 0
  )
set_option maxRecDepth 100000 in
set_option maxHeartbeats 4000000 in
theorem wF_X9_isAmong_0 {G : Ctx} {w : va_W} (C : Cx G RX9 cX9_isAmong 2 0 0) (hD : va_D (gA G) w) {res : Int32} (RET : RZ G cX9_isAmong 2 w res) {a0 : Int32} {a1 : Int32} (h : F_X9_isAmong_0 a0 a1 = some res) : V G 2 w 0 [(0, .int a0), (1, .int a1)] [] := by
  unfold F_X9_isAmong_0 at h
  refine v_iload_n C dX9_isAmong_0 rfl rfl 0 rfl ?_
  refine v_iload_n C dX9_isAmong_1 rfl rfl 1 rfl ?_
  refine v_ishr C dX9_isAmong_2 rfl ?_
  refine v_iconst C dX9_isAmong_3 rfl ic_1 ?_
  refine v_iand C dX9_isAmong_4 rfl ?_
  refine v_iconst C dX9_isAmong_5 rfl ic_1 ?_
  refine v_icmp_ne C dX9_isAmong_6 (tgt := 13) (by decide) rfl (fun c1 => ?_) (fun c1 => ?_)
  · have h := ifn c1 h
    refine v_iconst C dX9_isAmong_13 rfl ic_0 ?_
    obtain rfl := Option.some.inj h
    exact RET _ _ dX9_isAmong_14 (Or.inl rfl)
  · have h := ifp c1 h
    refine v_iconst C dX9_isAmong_9 rfl ic_1 ?_
    refine v_goto C dX9_isAmong_10 (tgt := 14) (by decide) ?_
    obtain rfl := Option.some.inj h
    exact RET _ _ dX9_isAmong_14 (Or.inr rfl)
def C_X9_isAmong (a0 : Int32) (a1 : Int32) : Option Int32 := F_X9_isAmong_0 a0 a1
set_option maxRecDepth 100000 in
theorem c_X9_isAmong {l : Launch} {D : va_G} {cA : FieldType → ClassId} {X : Ex} {w : va_W} {a0 : Int32} {a1 : Int32} {r : Int32} (h : C_X9_isAmong a0 a1 = some r) : MI l D cA X yX9_isAmong cX9_isAmong 2 (some .boolean) 0 0 [.int a0, .int a1] w w r :=
  mZ_of (by decide +kernel) (Nat.le_of_ble_eq_true rfl) (fun G h1 h2 h3 h4 C hD RET => by subst h1 h2 h3 h4; exact wF_X9_isAmong_0 C hD RET  h)
def F_X9_bits_4 (k4 : Int32 → Int32 → Option Int32) (a1 : Int32) (a2 : Int32) : Option Int32 :=
  if a2 = 0 then (
    some a1
  ) else (
    nm (a1 + (a2 &&& 1)) fun v2 =>
    nm (jshr a2 1) fun v3 =>
    k4 v2 v3
  )
def L_X9_bits_4 : Nat → Int32 → Int32 → Option Int32
  | 0, _, _ => none
  | n + 1, a1, a2 => F_X9_bits_4 (fun a1 a2 => L_X9_bits_4 n a1 a2) a1 a2
set_option maxRecDepth 100000 in
set_option maxHeartbeats 4000000 in
theorem wF_X9_bits_4 {G : Ctx} {w : va_W} {k4 : Int32 → Int32 → Option Int32} (C : Cx G RX9 cX9_bits 3 0 0) (hD : va_D (gA G) w) {res : Int32} (RET : RI G cX9_bits 3 w res) (hk4 : ∀ {a1 : Int32} {a2 : Int32} , k4 a1 a2 = some res → V G 3 w 4 [(1, .int a1), (2, .int a2)] []) {a1 : Int32} {a2 : Int32} (h : F_X9_bits_4 k4 a1 a2 = some res) : V G 3 w 4 [(1, .int a1), (2, .int a2)] [] := by
  unfold F_X9_bits_4 at h
  refine v_iload_n C dX9_bits_4 rfl rfl 1 rfl ?_
  refine v_if_eq C dX9_bits_5 (tgt := 21) (by decide) rfl (fun c1 => ?_) (fun c1 => ?_)
  · have h := ifp c1 h
    refine v_iload_n C dX9_bits_21 rfl rfl 0 rfl ?_
    obtain rfl := Option.some.inj h
    exact RET _ _ dX9_bits_22
  · have h := ifn c1 h
    refine v_iload_n C dX9_bits_8 rfl rfl 0 rfl ?_
    refine v_iload_n C dX9_bits_9 rfl rfl 1 rfl ?_
    refine v_iconst C dX9_bits_10 rfl ic_1 ?_
    refine v_iand C dX9_bits_11 rfl ?_
    refine v_iadd C dX9_bits_12 rfl ?_
    obtain ⟨v2, ev2, h⟩ := nmS h
    refine v_nmi ev2 ?_
    refine v_istore_n C dX9_bits_13 rfl rfl (by decide) (L' := [(1, .int v2), (2, .int a2)]) rfl ?_
    refine v_iload_n C dX9_bits_14 rfl rfl 1 rfl ?_
    refine v_iconst C dX9_bits_15 rfl ic_1 ?_
    refine v_ishr C dX9_bits_16 rfl ?_
    obtain ⟨v3, ev3, h⟩ := nmS h
    refine v_nmi ev3 ?_
    refine v_istore_n C dX9_bits_17 rfl rfl (by decide) (L' := [(2, .int v3), (1, .int v2)]) rfl ?_
    refine v_goto C dX9_bits_18 (tgt := 4) (by decide) ?_
    refine v_sub [1, 0] rfl ?_
    exact hk4 h
theorem wL_X9_bits_4 {G : Ctx} {w : va_W} (C : Cx G RX9 cX9_bits 3 0 0) (hD : va_D (gA G) w) {res : Int32} (RET : RI G cX9_bits 3 w res) : ∀ (n : Nat) {a1 : Int32} {a2 : Int32} (h : L_X9_bits_4 n a1 a2 = some res), V G 3 w 4 [(1, .int a1), (2, .int a2)] [] := by
  intro n
  induction n with
  | zero =>
    intro a1 a2 h
    cases (show (none : Option Int32) = some res from h)
  | succ n ih =>
    intro a1 a2 h
    exact wF_X9_bits_4 (k4 := fun a1 a2 => L_X9_bits_4  n a1 a2) C hD RET (fun h => ih h) h
def F_X9_bits_0 (a0 : Int32) : Option Int32 :=
  L_X9_bits_4 FU 0 a0
set_option maxRecDepth 100000 in
set_option maxHeartbeats 4000000 in
theorem wF_X9_bits_0 {G : Ctx} {w : va_W} (C : Cx G RX9 cX9_bits 3 0 0) (hD : va_D (gA G) w) {res : Int32} (RET : RI G cX9_bits 3 w res) {a0 : Int32} (h : F_X9_bits_0 a0 = some res) : V G 3 w 0 [(0, .int a0)] [] := by
  unfold F_X9_bits_0 at h
  refine v_iconst C dX9_bits_0 rfl ic_0 ?_
  refine v_istore_n C dX9_bits_1 rfl rfl (by decide) (L' := [(1, .int 0), (0, .int a0)]) rfl ?_
  refine v_iload_n C dX9_bits_2 rfl rfl 1 rfl ?_
  refine v_istore_n C dX9_bits_3 rfl rfl (by decide) (L' := [(2, .int a0), (1, .int 0), (0, .int a0)]) rfl ?_
  refine v_sub [1, 0] rfl ?_
  exact wL_X9_bits_4 C hD RET FU h
def C_X9_bits (a0 : Int32) : Option Int32 := F_X9_bits_0 a0
set_option maxRecDepth 100000 in
theorem c_X9_bits {l : Launch} {D : va_G} {cA : FieldType → ClassId} {X : Ex} {w : va_W} {a0 : Int32} {r : Int32} (h : C_X9_bits a0 = some r) : MI l D cA X yX9_bits cX9_bits 3 (some .int) 0 0 [.int a0] w w r :=
  mI_of (by decide +kernel) (Nat.le_of_ble_eq_true rfl) (fun G h1 h2 h3 h4 C hD RET => by subst h1 h2 h3 h4; exact wF_X9_bits_0 C hD RET  h)
def F_X9_comes_0 (a1 : Int32) (a2 : Int32) (a3 : Int32) (K : Mem) : Option Mem :=
  gd (inb 0 3058) <|
  nm (K 1 (Int32.toNatClampNeg 0)) fun v2 =>
  gd (inb 0 3058) <|
  gd (inb 0 3058) <|
  nm (up K 1 (Int32.toNatClampNeg 0) ((K 1 (Int32.toNatClampNeg 0)) + 1)) fun K5 =>
  bd (C_X9_sets v2 0 a1 K5) fun K7 =>
  bd (C_X9_sets v2 1 a2 K7) fun K9 =>
  bd (C_X9_sets v2 2 0 K9) fun K11 =>
  bd (C_X9_sets v2 3 a3 K11) fun K13 =>
  some K13
set_option maxRecDepth 100000 in
set_option maxHeartbeats 4000000 in
theorem wF_X9_comes_0 {G : Ctx} {ad : Nat → Nat} (C : Cx G RX9 cX9_comes 5 1 23) (hD : ∀ K, va_D (gA G) (wd (gC G) ad K 0 shsR)) {res : Mem} (RET : RV G cX9_comes 5 (wd (gC G) ad res 0 shsR)) {a1 : Int32} {a2 : Int32} {a3 : Int32} {K : Mem} (h : F_X9_comes_0 a1 a2 a3 K = some res) : V G 5 (wd (gC G) ad K 0 shsR) 0 [(0, .ref (ad 0)), (1, .int a1), (2, .int a2), (3, .int a3)] [] := by
  unfold F_X9_comes_0 at h
  refine v_aload_n C dX9_comes_0 rfl rfl 0 rfl ?_
  refine v_getr C dX9_comes_1 rfl ff_X9_7 sr_0 rfl ?_
  refine v_iconst C dX9_comes_4 rfl ic_0 ?_
  obtain ⟨b1, h⟩ := gdS h
  refine v_iald C dX9_comes_5 rfl sr_1 b1 ?_
  obtain ⟨v2, ev2, h⟩ := nmS h
  refine v_nmi ev2 ?_
  refine v_istore C dX9_comes_6 rfl (by decide) (L' := [(4, .int v2), (0, .ref (ad 0)), (1, .int a1), (2, .int a2), (3, .int a3)]) rfl ?_
  refine v_aload_n C dX9_comes_8 rfl rfl 1 rfl ?_
  refine v_getr C dX9_comes_9 rfl ff_X9_7 sr_0 rfl ?_
  refine v_iconst C dX9_comes_12 rfl ic_0 ?_
  refine v_dup2 C dX9_comes_13 rfl rfl rfl ?_
  obtain ⟨b3, h⟩ := gdS h
  refine v_iald C dX9_comes_14 rfl sr_1 b3 ?_
  refine v_iconst C dX9_comes_15 rfl ic_1 ?_
  refine v_iadd C dX9_comes_16 rfl ?_
  obtain ⟨b4, h⟩ := gdS h
  obtain ⟨K5, eK5, h⟩ := nmS h
  refine v_iast C hD dX9_comes_17 rfl sr_1 b4 eK5 ?_
  refine v_aload_n C dX9_comes_18 rfl rfl 1 rfl ?_
  refine v_iload C dX9_comes_19 rfl 0 rfl ?_
  refine v_iconst C dX9_comes_21 rfl ic_0 ?_
  refine v_iload_n C dX9_comes_22 rfl rfl 2 rfl ?_
  obtain ⟨K7, e6, h⟩ := bdS h
  refine v_callVv C yv_X9_sets m_959 (c_X9_sets e6) (Sub.whole hD _ _) ⟨_, _, _, _, _, wd_at sr_0, rfl⟩ (As := [.int v2, .int 0, .int a1]) rfl rfl (Nat.le_of_ble_eq_true rfl) ⟨Nat.le_of_ble_eq_true rfl, Nat.le_of_ble_eq_true rfl⟩ dX9_comes_23 rfl ?_
  refine v_aload_n C dX9_comes_26 rfl rfl 1 rfl ?_
  refine v_iload C dX9_comes_27 rfl 0 rfl ?_
  refine v_iconst C dX9_comes_29 rfl ic_1 ?_
  refine v_iload_n C dX9_comes_30 rfl rfl 3 rfl ?_
  obtain ⟨K9, e8, h⟩ := bdS h
  refine v_callVv C yv_X9_sets m_959 (c_X9_sets e8) (Sub.whole hD _ _) ⟨_, _, _, _, _, wd_at sr_0, rfl⟩ (As := [.int v2, .int 1, .int a2]) rfl rfl (Nat.le_of_ble_eq_true rfl) ⟨Nat.le_of_ble_eq_true rfl, Nat.le_of_ble_eq_true rfl⟩ dX9_comes_31 rfl ?_
  refine v_aload_n C dX9_comes_34 rfl rfl 1 rfl ?_
  refine v_iload C dX9_comes_35 rfl 0 rfl ?_
  refine v_iconst C dX9_comes_37 rfl ic_2 ?_
  refine v_iconst C dX9_comes_38 rfl ic_0 ?_
  obtain ⟨K11, e10, h⟩ := bdS h
  refine v_callVv C yv_X9_sets m_959 (c_X9_sets e10) (Sub.whole hD _ _) ⟨_, _, _, _, _, wd_at sr_0, rfl⟩ (As := [.int v2, .int 2, .int 0]) rfl rfl (Nat.le_of_ble_eq_true rfl) ⟨Nat.le_of_ble_eq_true rfl, Nat.le_of_ble_eq_true rfl⟩ dX9_comes_39 rfl ?_
  refine v_aload_n C dX9_comes_42 rfl rfl 1 rfl ?_
  refine v_iload C dX9_comes_43 rfl 0 rfl ?_
  refine v_iconst C dX9_comes_45 rfl ic_3 ?_
  refine v_iload_n C dX9_comes_46 rfl rfl 4 rfl ?_
  obtain ⟨K13, e12, h⟩ := bdS h
  refine v_callVv C yv_X9_sets m_959 (c_X9_sets e12) (Sub.whole hD _ _) ⟨_, _, _, _, _, wd_at sr_0, rfl⟩ (As := [.int v2, .int 3, .int a3]) rfl rfl (Nat.le_of_ble_eq_true rfl) ⟨Nat.le_of_ble_eq_true rfl, Nat.le_of_ble_eq_true rfl⟩ dX9_comes_47 rfl ?_
  obtain rfl := Option.some.inj h
  exact RET _ _ dX9_comes_50
def C_X9_comes (a1 : Int32) (a2 : Int32) (a3 : Int32) (K : Mem) : Option Mem := F_X9_comes_0 a1 a2 a3 K
set_option maxRecDepth 100000 in
theorem c_X9_comes {l : Launch} {D : va_G} {cA : FieldType → ClassId} {X : Ex} {ad : Nat → Nat} {a1 : Int32} {a2 : Int32} {a3 : Int32} {K : Mem} {K' : Mem} (h : C_X9_comes a1 a2 a3 K = some K') : MV l D cA X yX9_comes cX9_comes 5 1 23 [.ref (ad 0), .int a1, .int a2, .int a3] (wd cA ad K 0 shsR) (wd cA ad K' 0 shsR) :=
  mV_of (by decide +kernel) (Nat.le_of_ble_eq_true rfl) (fun G h1 h2 h3 h4 C hD RET => by subst h1 h2 h3 h4; exact wF_X9_comes_0 C (fun K' => wd_D K' hD) RET  h)
def F_X9_knit_0 (a1 : Int32) (a2 : Int32) (K : Mem) : Option (Int32 × Mem) :=
  bd (C_X9_isIn (Int32.toInt64 a1) 0 5) fun r2 =>
  if r2 = 0 then (
    some ((-1000000001), K)
  ) else (
    bd (C_X9_isIn (Int32.toInt64 a2) 1 9) fun r5 =>
    if r5 = 0 then (
      some ((-1000000001), K)
    ) else (
      gd (inb 0 3058) <|
      if (K 1 (Int32.toNatClampNeg 0)) = 12 then (
        some ((-1000000003), K)
      ) else (
        bd (C_X9_comes a1 a2 0 K) fun K10 =>
        gd (inb 0 3058) <|
        some ((K10 1 (Int32.toNatClampNeg 0)) - 1, K10)
      )
    )
  )
set_option maxRecDepth 100000 in
set_option maxHeartbeats 4000000 in
theorem wF_X9_knit_0 {G : Ctx} {ad : Nat → Nat} (C : Cx G RX9 cX9_knit 3 2 47) (hD : ∀ K, va_D (gA G) (wd (gC G) ad K 0 shsR)) {res : (Int32 × Mem)} (RET : RI G cX9_knit 3 (wd (gC G) ad res.2 0 shsR) res.1) {a1 : Int32} {a2 : Int32} {K : Mem} (h : F_X9_knit_0 a1 a2 K = some res) : V G 3 (wd (gC G) ad K 0 shsR) 0 [(0, .ref (ad 0)), (1, .int a1), (2, .int a2)] [] := by
  unfold F_X9_knit_0 at h
  refine v_iload_n C dX9_knit_0 rfl rfl 1 rfl ?_
  refine v_i2l C dX9_knit_1 rfl ?_
  refine v_lconst C dX9_knit_2 rfl (v := 0) (by decide) ?_
  refine v_ldc2 C dX9_knit_3 rfl m_948 ?_
  obtain ⟨r2, e1, h⟩ := bdS h
  refine v_callSi C ys_X9_isIn m_949 (c_X9_isIn e1) (Sub.whole hD _ _) (As := [.long (Int32.toInt64 a1), .long 0, .long 5]) rfl rfl (Nat.le_of_ble_eq_true rfl) ⟨Nat.le_of_ble_eq_true rfl, Nat.le_of_ble_eq_true rfl⟩ dX9_knit_6 rfl ?_
  refine v_if_eq C dX9_knit_9 (tgt := 24) (by decide) rfl (fun c3 => ?_) (fun c3 => ?_)
  · have h := ifp c3 h
    refine v_ldc C dX9_knit_24 rfl m_953 ?_
    obtain rfl := Option.some.inj h
    exact RET _ _ dX9_knit_26
  · have h := ifn c3 h
    refine v_iload_n C dX9_knit_12 rfl rfl 2 rfl ?_
    refine v_i2l C dX9_knit_13 rfl ?_
    refine v_lconst C dX9_knit_14 rfl (v := 1) (by decide) ?_
    refine v_ldc2 C dX9_knit_15 rfl m_952 ?_
    obtain ⟨r5, e4, h⟩ := bdS h
    refine v_callSi C ys_X9_isIn m_949 (c_X9_isIn e4) (Sub.whole hD _ _) (As := [.long (Int32.toInt64 a2), .long 1, .long 9]) rfl rfl (Nat.le_of_ble_eq_true rfl) ⟨Nat.le_of_ble_eq_true rfl, Nat.le_of_ble_eq_true rfl⟩ dX9_knit_18 rfl ?_
    refine v_if_ne C dX9_knit_21 (tgt := 27) (by decide) rfl (fun c6 => ?_) (fun c6 => ?_)
    · have h := ifn c6 h
      refine v_aload_n C dX9_knit_27 rfl rfl 0 rfl ?_
      refine v_getr C dX9_knit_28 rfl ff_X9_7 sr_0 rfl ?_
      refine v_iconst C dX9_knit_31 rfl ic_0 ?_
      obtain ⟨b7, h⟩ := gdS h
      refine v_iald C dX9_knit_32 rfl sr_1 b7 ?_
      refine v_bipush C dX9_knit_33 rfl bi_12 ?_
      refine v_icmp_ne C dX9_knit_35 (tgt := 41) (by decide) rfl (fun c8 => ?_) (fun c8 => ?_)
      · have h := ifn c8 h
        refine v_aload_n C dX9_knit_41 rfl rfl 0 rfl ?_
        refine v_iload_n C dX9_knit_42 rfl rfl 1 rfl ?_
        refine v_iload_n C dX9_knit_43 rfl rfl 2 rfl ?_
        refine v_iconst C dX9_knit_44 rfl ic_0 ?_
        obtain ⟨K10, e9, h⟩ := bdS h
        refine v_callVv C yv_X9_comes m_955 (c_X9_comes e9) (Sub.whole hD _ _) ⟨_, _, _, _, _, wd_at sr_0, rfl⟩ (As := [.int a1, .int a2, .int 0]) rfl rfl (Nat.le_of_ble_eq_true rfl) ⟨Nat.le_of_ble_eq_true rfl, Nat.le_of_ble_eq_true rfl⟩ dX9_knit_45 rfl ?_
        refine v_aload_n C dX9_knit_48 rfl rfl 0 rfl ?_
        refine v_getr C dX9_knit_49 rfl ff_X9_7 sr_0 rfl ?_
        refine v_iconst C dX9_knit_52 rfl ic_0 ?_
        obtain ⟨b11, h⟩ := gdS h
        refine v_iald C dX9_knit_53 rfl sr_1 b11 ?_
        refine v_iconst C dX9_knit_54 rfl ic_1 ?_
        refine v_isub C dX9_knit_55 rfl ?_
        obtain rfl := Option.some.inj h
        exact RET _ _ dX9_knit_56
      · have h := ifp c8 h
        refine v_ldc C dX9_knit_38 rfl m_954 ?_
        obtain rfl := Option.some.inj h
        exact RET _ _ dX9_knit_40
    · have h := ifp c6 h
      refine v_ldc C dX9_knit_24 rfl m_953 ?_
      obtain rfl := Option.some.inj h
      exact RET _ _ dX9_knit_26
def C_X9_knit (a1 : Int32) (a2 : Int32) (K : Mem) : Option (Int32 × Mem) := F_X9_knit_0 a1 a2 K
set_option maxRecDepth 100000 in
theorem c_X9_knit {l : Launch} {D : va_G} {cA : FieldType → ClassId} {X : Ex} {ad : Nat → Nat} {a1 : Int32} {a2 : Int32} {K : Mem} {r : Int32} {K' : Mem} (h : C_X9_knit a1 a2 K = some (r, K')) : MI l D cA X yX9_knit cX9_knit 3 (some .int) 2 47 [.ref (ad 0), .int a1, .int a2] (wd cA ad K 0 shsR) (wd cA ad K' 0 shsR) r :=
  mI_of (by decide +kernel) (Nat.le_of_ble_eq_true rfl) (fun G h1 h2 h3 h4 C hD RET => by subst h1 h2 h3 h4; exact wF_X9_knit_0 C (fun K' => wd_D K' hD) RET  h)
def F_X9_hangs_42 (K : Mem) (a2 : Int32) : Option Int32 :=
  some ((jshl 1 a2) ||| (jshl 1 (jrem (a2 + 1) 8)))
set_option maxRecDepth 100000 in
set_option maxHeartbeats 4000000 in
theorem wF_X9_hangs_42 {G : Ctx} {ad : Nat → Nat} {K : Mem} (C : Cx G RX9 cX9_hangs 3 1 22) (hD : ∀ K, va_D (gA G) (wd (gC G) ad K 0 shsR)) {res : Int32} (RET : RI G cX9_hangs 3 (wd (gC G) ad K 0 shsR) res) {a2 : Int32} (h : F_X9_hangs_42 K a2 = some res) : V G 3 (wd (gC G) ad K 0 shsR) 42 [(2, .int a2)] [] := by
  unfold F_X9_hangs_42 at h
  refine v_iconst C dX9_hangs_42 rfl ic_1 ?_
  refine v_iload_n C dX9_hangs_43 rfl rfl 0 rfl ?_
  refine v_ishl C dX9_hangs_44 rfl ?_
  refine v_iconst C dX9_hangs_45 rfl ic_1 ?_
  refine v_iload_n C dX9_hangs_46 rfl rfl 0 rfl ?_
  refine v_iconst C dX9_hangs_47 rfl ic_1 ?_
  refine v_iadd C dX9_hangs_48 rfl ?_
  refine v_bipush C dX9_hangs_49 rfl bi_8 ?_
  refine v_irem C dX9_hangs_51 rfl (by decide) ?_
  refine v_ishl C dX9_hangs_52 rfl ?_
  refine v_ior C dX9_hangs_53 rfl ?_
  obtain rfl := Option.some.inj h
  exact RET _ _ dX9_hangs_54
def F_X9_hangs_0 (K : Mem) (a1 : Int32) (a2 : Int32) : Option Int32 :=
  bd (C_X9_of K a1 0) fun r2 =>
  if r2 = 2 then (
    F_X9_hangs_42 K a2
  ) else (
    if r2 = 3 then (
      some (jshl 1 (a2 ^^^ 1))
    ) else (
      if r2 = 4 then (
        F_X9_hangs_42 K a2
      ) else (
        if r2 = 5 then (
          some 0
        ) else (
          some (jshl 1 a2)
        )
      )
    )
  )
set_option maxRecDepth 100000 in
set_option maxHeartbeats 4000000 in
theorem wF_X9_hangs_0 {G : Ctx} {ad : Nat → Nat} {K : Mem} (C : Cx G RX9 cX9_hangs 3 1 22) (hD : ∀ K, va_D (gA G) (wd (gC G) ad K 0 shsR)) {res : Int32} (RET : RI G cX9_hangs 3 (wd (gC G) ad K 0 shsR) res) {a1 : Int32} {a2 : Int32} (h : F_X9_hangs_0 K a1 a2 = some res) : V G 3 (wd (gC G) ad K 0 shsR) 0 [(0, .ref (ad 0)), (1, .int a1), (2, .int a2)] [] := by
  unfold F_X9_hangs_0 at h
  refine v_aload_n C dX9_hangs_0 rfl rfl 0 rfl ?_
  refine v_iload_n C dX9_hangs_1 rfl rfl 1 rfl ?_
  refine v_iconst C dX9_hangs_2 rfl ic_0 ?_
  obtain ⟨r2, e1, h⟩ := bdS h
  refine v_callVi C yv_X9_of m_980 (c_X9_of e1) (Sub.whole hD _ _) ⟨_, _, _, _, _, wd_at sr_0, rfl⟩ (As := [.int a1, .int 0]) rfl rfl (Nat.le_of_ble_eq_true rfl) ⟨Nat.le_of_ble_eq_true rfl, Nat.le_of_ble_eq_true rfl⟩ dX9_hangs_3 rfl ?_
  by_cases c3 : r2 = 2
  · have h := ifp c3 h
    refine v_tsIn C dX9_hangs_6 c3 (by decide) (by decide) (off := 36) (by decide) (tgt := 42) (by decide) ?_
    refine v_sub [2] rfl ?_
    exact wF_X9_hangs_42 C hD RET h
  · have h := ifn c3 h
    by_cases c4 : r2 = 3
    · have h := ifp c4 h
      refine v_tsIn C dX9_hangs_6 c4 (by decide) (by decide) (off := 30) (by decide) (tgt := 36) (by decide) ?_
      refine v_iconst C dX9_hangs_36 rfl ic_1 ?_
      refine v_iload_n C dX9_hangs_37 rfl rfl 2 rfl ?_
      refine v_iconst C dX9_hangs_38 rfl ic_1 ?_
      refine v_ixor C dX9_hangs_39 rfl ?_
      refine v_ishl C dX9_hangs_40 rfl ?_
      obtain rfl := Option.some.inj h
      exact RET _ _ dX9_hangs_41
    · have h := ifn c4 h
      by_cases c5 : r2 = 4
      · have h := ifp c5 h
        refine v_tsIn C dX9_hangs_6 c5 (by decide) (by decide) (off := 36) (by decide) (tgt := 42) (by decide) ?_
        refine v_sub [2] rfl ?_
        exact wF_X9_hangs_42 C hD RET h
      · have h := ifn c5 h
        by_cases c6 : r2 = 5
        · have h := ifp c6 h
          refine v_tsIn C dX9_hangs_6 c6 (by decide) (by decide) (off := 49) (by decide) (tgt := 55) (by decide) ?_
          refine v_iconst C dX9_hangs_55 rfl ic_0 ?_
          obtain rfl := Option.some.inj h
          exact RET _ _ dX9_hangs_56
        · have h := ifn c6 h
          refine v_tsOut C dX9_hangs_6 (by have ec3 := lv_neT c3 (k := 2) (a := 2) (by decide); have ec4 := lv_neT c4 (k := 3) (a := 3) (by decide); have ec5 := lv_neT c5 (k := 4) (a := 4) (by decide); have ec6 := lv_neT c6 (k := 5) (a := 5) (by decide); omega) (tgt := 57) (by decide) ?_
          refine v_iconst C dX9_hangs_57 rfl ic_1 ?_
          refine v_iload_n C dX9_hangs_58 rfl rfl 2 rfl ?_
          refine v_ishl C dX9_hangs_59 rfl ?_
          obtain rfl := Option.some.inj h
          exact RET _ _ dX9_hangs_60
def C_X9_hangs (K : Mem) (a1 : Int32) (a2 : Int32) : Option Int32 := F_X9_hangs_0 K a1 a2
set_option maxRecDepth 100000 in
theorem c_X9_hangs {l : Launch} {D : va_G} {cA : FieldType → ClassId} {X : Ex} {ad : Nat → Nat} {a1 : Int32} {a2 : Int32} {K : Mem} {r : Int32} (h : C_X9_hangs K a1 a2 = some r) : MI l D cA X yX9_hangs cX9_hangs 3 (some .int) 1 22 [.ref (ad 0), .int a1, .int a2] (wd cA ad K 0 shsR) (wd cA ad K 0 shsR) r :=
  mI_of (by decide +kernel) (Nat.le_of_ble_eq_true rfl) (fun G h1 h2 h3 h4 C hD RET => by subst h1 h2 h3 h4; exact wF_X9_hangs_0 C (fun K' => wd_D K' hD) RET  h)
def F_X9_holds_105 (k4 : Int32 → Int32 → Mem → Option (Int32 × Mem)) (k43 : Int32 → Int32 → Int32 → Int32 → Mem → Option (Int32 × Mem)) (a1 : Int32) (a2 : Int32) (a3 : Int32) (a4 : Int32) (a5 : Int32) (t0 : Int32) (t1 : Int32) (t2 : Int32) (K : Mem) : Option (Int32 × Mem) :=
  gd (inb t2 12) <|
  nm (up K 12 (Int32.toNatClampNeg t2) (t1 ||| t0)) fun K23 =>
  if a5 = 0 then (
    nm (a1 + 0) fun v25 =>
    nm (a4 + 1) fun v26 =>
    k43 v25 a2 a3 v26 K23
  ) else (
    nm (a1 + 1) fun v27 =>
    nm (a4 + 1) fun v28 =>
    k43 v27 a2 a3 v28 K23
  )
set_option maxRecDepth 100000 in
set_option maxHeartbeats 4000000 in
theorem wF_X9_holds_105 {G : Ctx} {ad : Nat → Nat} {k4 : Int32 → Int32 → Mem → Option (Int32 × Mem)} {k43 : Int32 → Int32 → Int32 → Int32 → Mem → Option (Int32 × Mem)} (C : Cx G RX9 cX9_holds 6 2 44) (hD : ∀ K, va_D (gA G) (wd (gC G) ad K 0 shsR)) {res : (Int32 × Mem)} (RET : RI G cX9_holds 6 (wd (gC G) ad res.2 0 shsR) res.1) (hk4 : ∀ {a1 : Int32} {a2 : Int32} {K : Mem} , k4 a1 a2 K = some res → V G 6 (wd (gC G) ad K 0 shsR) 4 [(0, .ref (ad 0)), (1, .int a1), (2, .int a2)] []) (hk43 : ∀ {a1 : Int32} {a2 : Int32} {a3 : Int32} {a4 : Int32} {K : Mem} , k43 a1 a2 a3 a4 K = some res → V G 6 (wd (gC G) ad K 0 shsR) 43 [(0, .ref (ad 0)), (1, .int a1), (2, .int a2), (3, .int a3), (4, .int a4)] []) {a1 : Int32} {a2 : Int32} {a3 : Int32} {a4 : Int32} {a5 : Int32} {t0 : Int32} {t1 : Int32} {t2 : Int32} {K : Mem} (h : F_X9_holds_105 k4 k43 a1 a2 a3 a4 a5 t0 t1 t2 K = some res) : V G 6 (wd (gC G) ad K 0 shsR) 105 [(0, .ref (ad 0)), (1, .int a1), (2, .int a2), (3, .int a3), (4, .int a4), (5, .int a5)] [.int t0, .int t1, .int t2, .ref (ad 12)] := by
  unfold F_X9_holds_105 at h
  refine v_ior C dX9_holds_105 rfl ?_
  obtain ⟨b22, h⟩ := gdS h
  obtain ⟨K23, eK23, h⟩ := nmS h
  refine v_iast C hD dX9_holds_106 rfl sr_12 b22 eK23 ?_
  refine v_iload_n C dX9_holds_107 rfl rfl 1 rfl ?_
  refine v_iload C dX9_holds_108 rfl 5 rfl ?_
  refine v_if_eq C dX9_holds_110 (tgt := 117) (by decide) rfl (fun c24 => ?_) (fun c24 => ?_)
  · have h := ifp c24 h
    refine v_iconst C dX9_holds_117 rfl ic_0 ?_
    refine v_iadd C dX9_holds_118 rfl ?_
    obtain ⟨v25, ev25, h⟩ := nmS h
    refine v_nmi ev25 ?_
    refine v_istore_n C dX9_holds_119 rfl rfl (by decide) (L' := [(1, .int v25), (0, .ref (ad 0)), (2, .int a2), (3, .int a3), (4, .int a4), (5, .int a5)]) rfl ?_
    obtain ⟨v26, ev26, h⟩ := nmS h
    refine v_iinc C dX9_holds_120 rfl 4 rfl (v := v26) (by rw [ev26]; rfl) (by decide) (L' := [(4, .int v26), (1, .int v25), (0, .ref (ad 0)), (2, .int a2), (3, .int a3), (5, .int a5)]) rfl ?_
    refine v_goto C dX9_holds_123 (tgt := 43) (by decide) ?_
    refine v_sub [2, 1, 3, 4, 0] rfl ?_
    exact hk43 h
  · have h := ifn c24 h
    refine v_iconst C dX9_holds_113 rfl ic_1 ?_
    refine v_goto C dX9_holds_114 (tgt := 118) (by decide) ?_
    refine v_iadd C dX9_holds_118 rfl ?_
    obtain ⟨v27, ev27, h⟩ := nmS h
    refine v_nmi ev27 ?_
    refine v_istore_n C dX9_holds_119 rfl rfl (by decide) (L' := [(1, .int v27), (0, .ref (ad 0)), (2, .int a2), (3, .int a3), (4, .int a4), (5, .int a5)]) rfl ?_
    obtain ⟨v28, ev28, h⟩ := nmS h
    refine v_iinc C dX9_holds_120 rfl 4 rfl (v := v28) (by rw [ev28]; rfl) (by decide) (L' := [(4, .int v28), (1, .int v27), (0, .ref (ad 0)), (2, .int a2), (3, .int a3), (5, .int a5)]) rfl ?_
    refine v_goto C dX9_holds_123 (tgt := 43) (by decide) ?_
    refine v_sub [2, 1, 3, 4, 0] rfl ?_
    exact hk43 h
def F_X9_holds_83 (k4 : Int32 → Int32 → Mem → Option (Int32 × Mem)) (k43 : Int32 → Int32 → Int32 → Int32 → Mem → Option (Int32 × Mem)) (a1 : Int32) (a2 : Int32) (a3 : Int32) (a4 : Int32) (t0 : Int32) (K : Mem) : Option (Int32 × Mem) :=
  gd (inb a2 12) <|
  if t0 = 0 then (
    F_X9_holds_105 k4 k43 a1 a2 a3 a4 t0 0 (K 12 (Int32.toNatClampNeg a2)) a2 K
  ) else (
    F_X9_holds_105 k4 k43 a1 a2 a3 a4 t0 (jshl 1 a4) (K 12 (Int32.toNatClampNeg a2)) a2 K
  )
set_option maxRecDepth 100000 in
set_option maxHeartbeats 4000000 in
theorem wF_X9_holds_83 {G : Ctx} {ad : Nat → Nat} {k4 : Int32 → Int32 → Mem → Option (Int32 × Mem)} {k43 : Int32 → Int32 → Int32 → Int32 → Mem → Option (Int32 × Mem)} (C : Cx G RX9 cX9_holds 6 2 44) (hD : ∀ K, va_D (gA G) (wd (gC G) ad K 0 shsR)) {res : (Int32 × Mem)} (RET : RI G cX9_holds 6 (wd (gC G) ad res.2 0 shsR) res.1) (hk4 : ∀ {a1 : Int32} {a2 : Int32} {K : Mem} , k4 a1 a2 K = some res → V G 6 (wd (gC G) ad K 0 shsR) 4 [(0, .ref (ad 0)), (1, .int a1), (2, .int a2)] []) (hk43 : ∀ {a1 : Int32} {a2 : Int32} {a3 : Int32} {a4 : Int32} {K : Mem} , k43 a1 a2 a3 a4 K = some res → V G 6 (wd (gC G) ad K 0 shsR) 43 [(0, .ref (ad 0)), (1, .int a1), (2, .int a2), (3, .int a3), (4, .int a4)] []) {a1 : Int32} {a2 : Int32} {a3 : Int32} {a4 : Int32} {t0 : Int32} {K : Mem} (h : F_X9_holds_83 k4 k43 a1 a2 a3 a4 t0 K = some res) : V G 6 (wd (gC G) ad K 0 shsR) 83 [(0, .ref (ad 0)), (1, .int a1), (2, .int a2), (3, .int a3), (4, .int a4)] [.int t0] := by
  unfold F_X9_holds_83 at h
  refine v_istore C dX9_holds_83 rfl (by decide) (L' := [(5, .int t0), (0, .ref (ad 0)), (1, .int a1), (2, .int a2), (3, .int a3), (4, .int a4)]) rfl ?_
  refine v_aload_n C dX9_holds_85 rfl rfl 1 rfl ?_
  refine v_getr C dX9_holds_86 rfl ff_X9_43 sr_0 rfl ?_
  refine v_iload_n C dX9_holds_89 rfl rfl 3 rfl ?_
  refine v_dup2 C dX9_holds_90 rfl rfl rfl ?_
  obtain ⟨b20, h⟩ := gdS h
  refine v_iald C dX9_holds_91 rfl sr_12 b20 ?_
  refine v_iload C dX9_holds_92 rfl 0 rfl ?_
  refine v_if_eq C dX9_holds_94 (tgt := 104) (by decide) rfl (fun c21 => ?_) (fun c21 => ?_)
  · have h := ifp c21 h
    refine v_iconst C dX9_holds_104 rfl ic_0 ?_
    refine v_sub [1, 2, 3, 4, 5, 0] rfl ?_
    exact wF_X9_holds_105 C hD RET hk4 hk43 h
  · have h := ifn c21 h
    refine v_iconst C dX9_holds_97 rfl ic_1 ?_
    refine v_iload C dX9_holds_98 rfl 5 rfl ?_
    refine v_ishl C dX9_holds_100 rfl ?_
    refine v_goto C dX9_holds_101 (tgt := 105) (by decide) ?_
    refine v_sub [1, 2, 3, 4, 5, 0] rfl ?_
    exact wF_X9_holds_105 C hD RET hk4 hk43 h
def F_X9_holds_43 (k4 : Int32 → Int32 → Mem → Option (Int32 × Mem)) (k43 : Int32 → Int32 → Int32 → Int32 → Mem → Option (Int32 × Mem)) (a1 : Int32) (a2 : Int32) (a3 : Int32) (a4 : Int32) (K : Mem) : Option (Int32 × Mem) :=
  if 8 ≤ a4 then (
    nm (a2 + 1) fun v11 =>
    k4 a1 v11 K
  ) else (
    bd (C_X9_of K a2 3) fun r13 =>
    bd (C_X9_isAmong r13 a4) fun r15 =>
    if r15 = 0 then (
      bd (C_X9_hangs K a2 a4) fun r18 =>
      if (r18 &&& (a3 ^^^ (-1))) = 0 then (
        F_X9_holds_83 k4 k43 a1 a2 a3 a4 1 K
      ) else (
        F_X9_holds_83 k4 k43 a1 a2 a3 a4 0 K
      )
    ) else (
      F_X9_holds_83 k4 k43 a1 a2 a3 a4 0 K
    )
  )
def L_X9_holds_43 (k4 : Int32 → Int32 → Mem → Option (Int32 × Mem)) : Nat → Int32 → Int32 → Int32 → Int32 → Mem → Option (Int32 × Mem)
  | 0, _, _, _, _, _ => none
  | n + 1, a1, a2, a3, a4, K => F_X9_holds_43 k4 (fun a1 a2 a3 a4 K => L_X9_holds_43 k4 n a1 a2 a3 a4 K) a1 a2 a3 a4 K
set_option maxRecDepth 100000 in
set_option maxHeartbeats 4000000 in
theorem wF_X9_holds_43 {G : Ctx} {ad : Nat → Nat} {k4 : Int32 → Int32 → Mem → Option (Int32 × Mem)} {k43 : Int32 → Int32 → Int32 → Int32 → Mem → Option (Int32 × Mem)} (C : Cx G RX9 cX9_holds 6 2 44) (hD : ∀ K, va_D (gA G) (wd (gC G) ad K 0 shsR)) {res : (Int32 × Mem)} (RET : RI G cX9_holds 6 (wd (gC G) ad res.2 0 shsR) res.1) (hk4 : ∀ {a1 : Int32} {a2 : Int32} {K : Mem} , k4 a1 a2 K = some res → V G 6 (wd (gC G) ad K 0 shsR) 4 [(0, .ref (ad 0)), (1, .int a1), (2, .int a2)] []) (hk43 : ∀ {a1 : Int32} {a2 : Int32} {a3 : Int32} {a4 : Int32} {K : Mem} , k43 a1 a2 a3 a4 K = some res → V G 6 (wd (gC G) ad K 0 shsR) 43 [(0, .ref (ad 0)), (1, .int a1), (2, .int a2), (3, .int a3), (4, .int a4)] []) {a1 : Int32} {a2 : Int32} {a3 : Int32} {a4 : Int32} {K : Mem} (h : F_X9_holds_43 k4 k43 a1 a2 a3 a4 K = some res) : V G 6 (wd (gC G) ad K 0 shsR) 43 [(0, .ref (ad 0)), (1, .int a1), (2, .int a2), (3, .int a3), (4, .int a4)] [] := by
  unfold F_X9_holds_43 at h
  refine v_iload C dX9_holds_43 rfl 4 rfl ?_
  refine v_bipush C dX9_holds_45 rfl bi_8 ?_
  refine v_icmp_ge C dX9_holds_47 (tgt := 126) (by decide) rfl (fun c10 => ?_) (fun c10 => ?_)
  · have h := ifp c10 h
    obtain ⟨v11, ev11, h⟩ := nmS h
    refine v_iinc C dX9_holds_126 rfl 2 rfl (v := v11) (by rw [ev11]; rfl) (by decide) (L' := [(2, .int v11), (0, .ref (ad 0)), (1, .int a1), (3, .int a3), (4, .int a4)]) rfl ?_
    refine v_goto C dX9_holds_129 (tgt := 4) (by decide) ?_
    refine v_sub [1, 2, 0] rfl ?_
    exact hk4 h
  · have h := ifn c10 h
    refine v_aload_n C dX9_holds_50 rfl rfl 0 rfl ?_
    refine v_iload_n C dX9_holds_51 rfl rfl 2 rfl ?_
    refine v_iconst C dX9_holds_52 rfl ic_3 ?_
    obtain ⟨r13, e12, h⟩ := bdS h
    refine v_callVi C yv_X9_of m_980 (c_X9_of e12) (Sub.whole hD _ _) ⟨_, _, _, _, _, wd_at sr_0, rfl⟩ (As := [.int a2, .int 3]) rfl rfl (Nat.le_of_ble_eq_true rfl) ⟨Nat.le_of_ble_eq_true rfl, Nat.le_of_ble_eq_true rfl⟩ dX9_holds_53 rfl ?_
    refine v_iload C dX9_holds_56 rfl 4 rfl ?_
    obtain ⟨r15, e14, h⟩ := bdS h
    refine v_callSi C ys_X9_isAmong m_984 (c_X9_isAmong e14) (Sub.whole hD _ _) (As := [.int r13, .int a4]) rfl rfl (Nat.le_of_ble_eq_true rfl) ⟨Nat.le_of_ble_eq_true rfl, Nat.le_of_ble_eq_true rfl⟩ dX9_holds_58 rfl ?_
    refine v_if_ne C dX9_holds_61 (tgt := 82) (by decide) rfl (fun c16 => ?_) (fun c16 => ?_)
    · have h := ifn c16 h
      refine v_iconst C dX9_holds_82 rfl ic_0 ?_
      exact wF_X9_holds_83 C hD RET hk4 hk43 h
    · have h := ifp c16 h
      refine v_aload_n C dX9_holds_64 rfl rfl 0 rfl ?_
      refine v_iload_n C dX9_holds_65 rfl rfl 2 rfl ?_
      refine v_iload C dX9_holds_66 rfl 4 rfl ?_
      obtain ⟨r18, e17, h⟩ := bdS h
      refine v_callVi C yv_X9_hangs m_987 (c_X9_hangs e17) (Sub.whole hD _ _) ⟨_, _, _, _, _, wd_at sr_0, rfl⟩ (As := [.int a2, .int a4]) rfl rfl (Nat.le_of_ble_eq_true rfl) ⟨Nat.le_of_ble_eq_true rfl, Nat.le_of_ble_eq_true rfl⟩ dX9_holds_68 rfl ?_
      refine v_iload_n C dX9_holds_71 rfl rfl 3 rfl ?_
      refine v_iconst C dX9_holds_72 rfl ic_n1 ?_
      refine v_ixor C dX9_holds_73 rfl ?_
      refine v_iand C dX9_holds_74 rfl ?_
      refine v_if_ne C dX9_holds_75 (tgt := 82) (by decide) rfl (fun c19 => ?_) (fun c19 => ?_)
      · have h := ifn c19 h
        refine v_iconst C dX9_holds_82 rfl ic_0 ?_
        exact wF_X9_holds_83 C hD RET hk4 hk43 h
      · have h := ifp c19 h
        refine v_iconst C dX9_holds_78 rfl ic_1 ?_
        refine v_goto C dX9_holds_79 (tgt := 83) (by decide) ?_
        exact wF_X9_holds_83 C hD RET hk4 hk43 h
theorem wL_X9_holds_43 {G : Ctx} {ad : Nat → Nat} {k4 : Int32 → Int32 → Mem → Option (Int32 × Mem)} (C : Cx G RX9 cX9_holds 6 2 44) (hD : ∀ K, va_D (gA G) (wd (gC G) ad K 0 shsR)) {res : (Int32 × Mem)} (RET : RI G cX9_holds 6 (wd (gC G) ad res.2 0 shsR) res.1) (hk4 : ∀ {a1 : Int32} {a2 : Int32} {K : Mem} , k4 a1 a2 K = some res → V G 6 (wd (gC G) ad K 0 shsR) 4 [(0, .ref (ad 0)), (1, .int a1), (2, .int a2)] []) : ∀ (n : Nat) {a1 : Int32} {a2 : Int32} {a3 : Int32} {a4 : Int32} {K : Mem} (h : L_X9_holds_43 k4 n a1 a2 a3 a4 K = some res), V G 6 (wd (gC G) ad K 0 shsR) 43 [(0, .ref (ad 0)), (1, .int a1), (2, .int a2), (3, .int a3), (4, .int a4)] [] := by
  intro n
  induction n with
  | zero =>
    intro a1 a2 a3 a4 K h
    cases (show (none : Option (Int32 × Mem)) = some res from h)
  | succ n ih =>
    intro a1 a2 a3 a4 K h
    exact wF_X9_holds_43 (k43 := fun a1 a2 a3 a4 K => L_X9_holds_43 k4 n a1 a2 a3 a4 K) C hD RET hk4 (fun h => ih h) h
def F_X9_holds_4 (k4 : Int32 → Int32 → Mem → Option (Int32 × Mem)) (a1 : Int32) (a2 : Int32) (K : Mem) : Option (Int32 × Mem) :=
  gd (inb 0 3058) <|
  if (K 1 (Int32.toNatClampNeg 0)) ≤ a2 then (
    some (a1, K)
  ) else (
    if a2 = 0 then (
      gd (inb a2 12) <|
      nm (up K 12 (Int32.toNatClampNeg a2) 0) fun K9 =>
      L_X9_holds_43 k4 FU a1 a2 255 0 K9
    ) else (
      gd (inb (a2 - 1) 12) <|
      nm (K 12 (Int32.toNatClampNeg (a2 - 1))) fun v5 =>
      gd (inb a2 12) <|
      nm (up K 12 (Int32.toNatClampNeg a2) 0) fun K7 =>
      L_X9_holds_43 k4 FU a1 a2 v5 0 K7
    )
  )
def L_X9_holds_4 : Nat → Int32 → Int32 → Mem → Option (Int32 × Mem)
  | 0, _, _, _ => none
  | n + 1, a1, a2, K => F_X9_holds_4 (fun a1 a2 K => L_X9_holds_4 n a1 a2 K) a1 a2 K
set_option maxRecDepth 100000 in
set_option maxHeartbeats 4000000 in
theorem wF_X9_holds_4 {G : Ctx} {ad : Nat → Nat} {k4 : Int32 → Int32 → Mem → Option (Int32 × Mem)} (C : Cx G RX9 cX9_holds 6 2 44) (hD : ∀ K, va_D (gA G) (wd (gC G) ad K 0 shsR)) {res : (Int32 × Mem)} (RET : RI G cX9_holds 6 (wd (gC G) ad res.2 0 shsR) res.1) (hk4 : ∀ {a1 : Int32} {a2 : Int32} {K : Mem} , k4 a1 a2 K = some res → V G 6 (wd (gC G) ad K 0 shsR) 4 [(0, .ref (ad 0)), (1, .int a1), (2, .int a2)] []) {a1 : Int32} {a2 : Int32} {K : Mem} (h : F_X9_holds_4 k4 a1 a2 K = some res) : V G 6 (wd (gC G) ad K 0 shsR) 4 [(0, .ref (ad 0)), (1, .int a1), (2, .int a2)] [] := by
  unfold F_X9_holds_4 at h
  refine v_iload_n C dX9_holds_4 rfl rfl 2 rfl ?_
  refine v_aload_n C dX9_holds_5 rfl rfl 0 rfl ?_
  refine v_getr C dX9_holds_6 rfl ff_X9_7 sr_0 rfl ?_
  refine v_iconst C dX9_holds_9 rfl ic_0 ?_
  obtain ⟨b1, h⟩ := gdS h
  refine v_iald C dX9_holds_10 rfl sr_1 b1 ?_
  refine v_icmp_ge C dX9_holds_11 (tgt := 132) (by decide) rfl (fun c2 => ?_) (fun c2 => ?_)
  · have h := ifp c2 h
    refine v_iload_n C dX9_holds_132 rfl rfl 1 rfl ?_
    obtain rfl := Option.some.inj h
    exact RET _ _ dX9_holds_133
  · have h := ifn c2 h
    refine v_iload_n C dX9_holds_14 rfl rfl 2 rfl ?_
    refine v_if_ne C dX9_holds_15 (tgt := 24) (by decide) rfl (fun c3 => ?_) (fun c3 => ?_)
    · have h := ifn c3 h
      refine v_aload_n C dX9_holds_24 rfl rfl 0 rfl ?_
      refine v_getr C dX9_holds_25 rfl ff_X9_43 sr_0 rfl ?_
      refine v_iload_n C dX9_holds_28 rfl rfl 2 rfl ?_
      refine v_iconst C dX9_holds_29 rfl ic_1 ?_
      refine v_isub C dX9_holds_30 rfl ?_
      obtain ⟨b4, h⟩ := gdS h
      refine v_iald C dX9_holds_31 rfl sr_12 b4 ?_
      obtain ⟨v5, ev5, h⟩ := nmS h
      refine v_nmi ev5 ?_
      refine v_istore_n C dX9_holds_32 rfl rfl (by decide) (L' := [(3, .int v5), (0, .ref (ad 0)), (1, .int a1), (2, .int a2)]) rfl ?_
      refine v_aload_n C dX9_holds_33 rfl rfl 1 rfl ?_
      refine v_getr C dX9_holds_34 rfl ff_X9_43 sr_0 rfl ?_
      refine v_iload_n C dX9_holds_37 rfl rfl 3 rfl ?_
      refine v_iconst C dX9_holds_38 rfl ic_0 ?_
      obtain ⟨b6, h⟩ := gdS h
      obtain ⟨K7, eK7, h⟩ := nmS h
      refine v_iast C hD dX9_holds_39 rfl sr_12 b6 eK7 ?_
      refine v_iconst C dX9_holds_40 rfl ic_0 ?_
      refine v_istore C dX9_holds_41 rfl (by decide) (L' := [(4, .int 0), (3, .int v5), (0, .ref (ad 0)), (1, .int a1), (2, .int a2)]) rfl ?_
      refine v_sub [2, 3, 4, 1, 0] rfl ?_
      exact wL_X9_holds_43 C hD RET hk4 FU h
    · have h := ifp c3 h
      refine v_sipush C dX9_holds_18 rfl si_255 ?_
      refine v_goto C dX9_holds_21 (tgt := 32) (by decide) ?_
      refine v_istore_n C dX9_holds_32 rfl rfl (by decide) (L' := [(3, .int 255), (0, .ref (ad 0)), (1, .int a1), (2, .int a2)]) rfl ?_
      refine v_aload_n C dX9_holds_33 rfl rfl 1 rfl ?_
      refine v_getr C dX9_holds_34 rfl ff_X9_43 sr_0 rfl ?_
      refine v_iload_n C dX9_holds_37 rfl rfl 3 rfl ?_
      refine v_iconst C dX9_holds_38 rfl ic_0 ?_
      obtain ⟨b8, h⟩ := gdS h
      obtain ⟨K9, eK9, h⟩ := nmS h
      refine v_iast C hD dX9_holds_39 rfl sr_12 b8 eK9 ?_
      refine v_iconst C dX9_holds_40 rfl ic_0 ?_
      refine v_istore C dX9_holds_41 rfl (by decide) (L' := [(4, .int 0), (3, .int 255), (0, .ref (ad 0)), (1, .int a1), (2, .int a2)]) rfl ?_
      refine v_sub [2, 3, 4, 1, 0] rfl ?_
      exact wL_X9_holds_43 C hD RET hk4 FU h
theorem wL_X9_holds_4 {G : Ctx} {ad : Nat → Nat} (C : Cx G RX9 cX9_holds 6 2 44) (hD : ∀ K, va_D (gA G) (wd (gC G) ad K 0 shsR)) {res : (Int32 × Mem)} (RET : RI G cX9_holds 6 (wd (gC G) ad res.2 0 shsR) res.1) : ∀ (n : Nat) {a1 : Int32} {a2 : Int32} {K : Mem} (h : L_X9_holds_4 n a1 a2 K = some res), V G 6 (wd (gC G) ad K 0 shsR) 4 [(0, .ref (ad 0)), (1, .int a1), (2, .int a2)] [] := by
  intro n
  induction n with
  | zero =>
    intro a1 a2 K h
    cases (show (none : Option (Int32 × Mem)) = some res from h)
  | succ n ih =>
    intro a1 a2 K h
    exact wF_X9_holds_4 (k4 := fun a1 a2 K => L_X9_holds_4  n a1 a2 K) C hD RET (fun h => ih h) h
def F_X9_holds_0 (K : Mem) : Option (Int32 × Mem) :=
  L_X9_holds_4 FU 0 0 K
set_option maxRecDepth 100000 in
set_option maxHeartbeats 4000000 in
theorem wF_X9_holds_0 {G : Ctx} {ad : Nat → Nat} (C : Cx G RX9 cX9_holds 6 2 44) (hD : ∀ K, va_D (gA G) (wd (gC G) ad K 0 shsR)) {res : (Int32 × Mem)} (RET : RI G cX9_holds 6 (wd (gC G) ad res.2 0 shsR) res.1) {K : Mem} (h : F_X9_holds_0 K = some res) : V G 6 (wd (gC G) ad K 0 shsR) 0 [(0, .ref (ad 0))] [] := by
  unfold F_X9_holds_0 at h
  refine v_iconst C dX9_holds_0 rfl ic_0 ?_
  refine v_istore_n C dX9_holds_1 rfl rfl (by decide) (L' := [(1, .int 0), (0, .ref (ad 0))]) rfl ?_
  refine v_iconst C dX9_holds_2 rfl ic_0 ?_
  refine v_istore_n C dX9_holds_3 rfl rfl (by decide) (L' := [(2, .int 0), (1, .int 0), (0, .ref (ad 0))]) rfl ?_
  refine v_sub [2, 1, 0] rfl ?_
  exact wL_X9_holds_4 C hD RET FU h
def C_X9_holds (K : Mem) : Option (Int32 × Mem) := F_X9_holds_0 K
set_option maxRecDepth 100000 in
theorem c_X9_holds {l : Launch} {D : va_G} {cA : FieldType → ClassId} {X : Ex} {ad : Nat → Nat} {K : Mem} {r : Int32} {K' : Mem} (h : C_X9_holds K = some (r, K')) : MI l D cA X yX9_holds cX9_holds 6 (some .int) 2 44 [.ref (ad 0)] (wd cA ad K 0 shsR) (wd cA ad K' 0 shsR) r :=
  mI_of (by decide +kernel) (Nat.le_of_ble_eq_true rfl) (fun G h1 h2 h3 h4 C hD RET => by subst h1 h2 h3 h4; exact wF_X9_holds_0 C (fun K' => wd_D K' hD) RET  h)
def F_X9_counts_4 (k4 : Int32 → Int32 → Int32 → Option Int32) (K : Mem) (a1 : Int32) (a2 : Int32) (a3 : Int32) : Option Int32 :=
  gd (inb 1 3058) <|
  if (K 1 (Int32.toNatClampNeg 1)) ≤ a3 then (
    some a2
  ) else (
    bd (C_X9_textAt K a3) fun r4 =>
    gd (inb r4 3058) <|
    if (K 1 (Int32.toNatClampNeg r4)) = a1 then (
      nm (a3 + 1) fun v8 =>
      k4 a1 a3 v8
    ) else (
      nm (a3 + 1) fun v7 =>
      k4 a1 a2 v7
    )
  )
def L_X9_counts_4 (K : Mem) : Nat → Int32 → Int32 → Int32 → Option Int32
  | 0, _, _, _ => none
  | n + 1, a1, a2, a3 => F_X9_counts_4 (fun a1 a2 a3 => L_X9_counts_4 K n a1 a2 a3) K a1 a2 a3
set_option maxRecDepth 100000 in
set_option maxHeartbeats 4000000 in
theorem wF_X9_counts_4 {G : Ctx} {ad : Nat → Nat} {K : Mem} {k4 : Int32 → Int32 → Int32 → Option Int32} (C : Cx G RX9 cX9_counts 4 1 21) (hD : ∀ K, va_D (gA G) (wd (gC G) ad K 0 shsR)) {res : Int32} (RET : RI G cX9_counts 4 (wd (gC G) ad K 0 shsR) res) (hk4 : ∀ {a1 : Int32} {a2 : Int32} {a3 : Int32} , k4 a1 a2 a3 = some res → V G 4 (wd (gC G) ad K 0 shsR) 4 [(0, .ref (ad 0)), (1, .int a1), (2, .int a2), (3, .int a3)] []) {a1 : Int32} {a2 : Int32} {a3 : Int32} (h : F_X9_counts_4 k4 K a1 a2 a3 = some res) : V G 4 (wd (gC G) ad K 0 shsR) 4 [(0, .ref (ad 0)), (1, .int a1), (2, .int a2), (3, .int a3)] [] := by
  unfold F_X9_counts_4 at h
  refine v_iload_n C dX9_counts_4 rfl rfl 3 rfl ?_
  refine v_aload_n C dX9_counts_5 rfl rfl 0 rfl ?_
  refine v_getr C dX9_counts_6 rfl ff_X9_7 sr_0 rfl ?_
  refine v_iconst C dX9_counts_9 rfl ic_1 ?_
  obtain ⟨b1, h⟩ := gdS h
  refine v_iald C dX9_counts_10 rfl sr_1 b1 ?_
  refine v_icmp_ge C dX9_counts_11 (tgt := 40) (by decide) rfl (fun c2 => ?_) (fun c2 => ?_)
  · have h := ifp c2 h
    refine v_iload_n C dX9_counts_40 rfl rfl 2 rfl ?_
    obtain rfl := Option.some.inj h
    exact RET _ _ dX9_counts_41
  · have h := ifn c2 h
    refine v_aload_n C dX9_counts_14 rfl rfl 0 rfl ?_
    refine v_getr C dX9_counts_15 rfl ff_X9_7 sr_0 rfl ?_
    refine v_aload_n C dX9_counts_18 rfl rfl 0 rfl ?_
    refine v_iload_n C dX9_counts_19 rfl rfl 3 rfl ?_
    obtain ⟨r4, e3, h⟩ := bdS h
    refine v_callVi C yv_X9_textAt m_1003 (c_X9_textAt e3) (Sub.whole hD _ _) ⟨_, _, _, _, _, wd_at sr_0, rfl⟩ (As := [.int a3]) rfl rfl (Nat.le_of_ble_eq_true rfl) ⟨Nat.le_of_ble_eq_true rfl, Nat.le_of_ble_eq_true rfl⟩ dX9_counts_20 rfl ?_
    obtain ⟨b5, h⟩ := gdS h
    refine v_iald C dX9_counts_23 rfl sr_1 b5 ?_
    refine v_iload_n C dX9_counts_24 rfl rfl 1 rfl ?_
    refine v_icmp_ne C dX9_counts_25 (tgt := 32) (by decide) rfl (fun c6 => ?_) (fun c6 => ?_)
    · have h := ifn c6 h
      refine v_iload_n C dX9_counts_32 rfl rfl 2 rfl ?_
      refine v_istore_n C dX9_counts_33 rfl rfl (by decide) (L' := [(2, .int a2), (0, .ref (ad 0)), (1, .int a1), (3, .int a3)]) rfl ?_
      obtain ⟨v7, ev7, h⟩ := nmS h
      refine v_iinc C dX9_counts_34 rfl 3 rfl (v := v7) (by rw [ev7]; rfl) (by decide) (L' := [(3, .int v7), (2, .int a2), (0, .ref (ad 0)), (1, .int a1)]) rfl ?_
      refine v_goto C dX9_counts_37 (tgt := 4) (by decide) ?_
      refine v_sub [2, 3, 1, 0] rfl ?_
      exact hk4 h
    · have h := ifp c6 h
      refine v_iload_n C dX9_counts_28 rfl rfl 3 rfl ?_
      refine v_goto C dX9_counts_29 (tgt := 33) (by decide) ?_
      refine v_istore_n C dX9_counts_33 rfl rfl (by decide) (L' := [(2, .int a3), (0, .ref (ad 0)), (1, .int a1), (3, .int a3)]) rfl ?_
      obtain ⟨v8, ev8, h⟩ := nmS h
      refine v_iinc C dX9_counts_34 rfl 3 rfl (v := v8) (by rw [ev8]; rfl) (by decide) (L' := [(3, .int v8), (2, .int a3), (0, .ref (ad 0)), (1, .int a1)]) rfl ?_
      refine v_goto C dX9_counts_37 (tgt := 4) (by decide) ?_
      refine v_sub [2, 3, 1, 0] rfl ?_
      exact hk4 h
theorem wL_X9_counts_4 {G : Ctx} {ad : Nat → Nat} {K : Mem} (C : Cx G RX9 cX9_counts 4 1 21) (hD : ∀ K, va_D (gA G) (wd (gC G) ad K 0 shsR)) {res : Int32} (RET : RI G cX9_counts 4 (wd (gC G) ad K 0 shsR) res) : ∀ (n : Nat) {a1 : Int32} {a2 : Int32} {a3 : Int32} (h : L_X9_counts_4 K n a1 a2 a3 = some res), V G 4 (wd (gC G) ad K 0 shsR) 4 [(0, .ref (ad 0)), (1, .int a1), (2, .int a2), (3, .int a3)] [] := by
  intro n
  induction n with
  | zero =>
    intro a1 a2 a3 h
    cases (show (none : Option Int32) = some res from h)
  | succ n ih =>
    intro a1 a2 a3 h
    exact wF_X9_counts_4 (k4 := fun a1 a2 a3 => L_X9_counts_4 K n a1 a2 a3) C hD RET (fun h => ih h) h
def F_X9_counts_0 (K : Mem) (a1 : Int32) : Option Int32 :=
  L_X9_counts_4 K FU a1 (-1) 0
set_option maxRecDepth 100000 in
set_option maxHeartbeats 4000000 in
theorem wF_X9_counts_0 {G : Ctx} {ad : Nat → Nat} {K : Mem} (C : Cx G RX9 cX9_counts 4 1 21) (hD : ∀ K, va_D (gA G) (wd (gC G) ad K 0 shsR)) {res : Int32} (RET : RI G cX9_counts 4 (wd (gC G) ad K 0 shsR) res) {a1 : Int32} (h : F_X9_counts_0 K a1 = some res) : V G 4 (wd (gC G) ad K 0 shsR) 0 [(0, .ref (ad 0)), (1, .int a1)] [] := by
  unfold F_X9_counts_0 at h
  refine v_iconst C dX9_counts_0 rfl ic_n1 ?_
  refine v_istore_n C dX9_counts_1 rfl rfl (by decide) (L' := [(2, .int (-1)), (0, .ref (ad 0)), (1, .int a1)]) rfl ?_
  refine v_iconst C dX9_counts_2 rfl ic_0 ?_
  refine v_istore_n C dX9_counts_3 rfl rfl (by decide) (L' := [(3, .int 0), (2, .int (-1)), (0, .ref (ad 0)), (1, .int a1)]) rfl ?_
  refine v_sub [2, 3, 1, 0] rfl ?_
  exact wL_X9_counts_4 C hD RET FU h
def C_X9_counts (K : Mem) (a1 : Int32) : Option Int32 := F_X9_counts_0 K a1
set_option maxRecDepth 100000 in
theorem c_X9_counts {l : Launch} {D : va_G} {cA : FieldType → ClassId} {X : Ex} {ad : Nat → Nat} {a1 : Int32} {K : Mem} {r : Int32} (h : C_X9_counts K a1 = some r) : MI l D cA X yX9_counts cX9_counts 4 (some .int) 1 21 [.ref (ad 0), .int a1] (wd cA ad K 0 shsR) (wd cA ad K 0 shsR) r :=
  mI_of (by decide +kernel) (Nat.le_of_ble_eq_true rfl) (fun G h1 h2 h3 h4 C hD RET => by subst h1 h2 h3 h4; exact wF_X9_counts_0 C (fun K' => wd_D K' hD) RET  h)
def F_X9_joined_197 (a1 : Int32) (a2 : Int32) : Option Int32 :=
  if a1 = 0 then (
    if a2 = 0 then (
      some 0
    ) else (
      some 1
    )
  ) else (
    some 1
  )
set_option maxRecDepth 100000 in
set_option maxHeartbeats 4000000 in
theorem wF_X9_joined_197 {G : Ctx} {w : va_W} (C : Cx G RX9 cX9_joined 3 0 0) (hD : va_D (gA G) w) {res : Int32} (RET : RI G cX9_joined 3 w res) {a1 : Int32} {a2 : Int32} (h : F_X9_joined_197 a1 a2 = some res) : V G 3 w 197 [(1, .int a1), (2, .int a2)] [] := by
  unfold F_X9_joined_197 at h
  refine v_iload_n C dX9_joined_197 rfl rfl 0 rfl ?_
  refine v_if_ne C dX9_joined_198 (tgt := 205) (by decide) rfl (fun c34 => ?_) (fun c34 => ?_)
  · have h := ifn c34 h
    refine v_iconst C dX9_joined_205 rfl ic_1 ?_
    refine v_goto C dX9_joined_206 (tgt := 210) (by decide) ?_
    obtain rfl := Option.some.inj h
    exact RET _ _ dX9_joined_210
  · have h := ifp c34 h
    refine v_iload_n C dX9_joined_201 rfl rfl 1 rfl ?_
    refine v_if_eq C dX9_joined_202 (tgt := 209) (by decide) rfl (fun c35 => ?_) (fun c35 => ?_)
    · have h := ifp c35 h
      refine v_iconst C dX9_joined_209 rfl ic_0 ?_
      obtain rfl := Option.some.inj h
      exact RET _ _ dX9_joined_210
    · have h := ifn c35 h
      refine v_iconst C dX9_joined_205 rfl ic_1 ?_
      refine v_goto C dX9_joined_206 (tgt := 210) (by decide) ?_
      obtain rfl := Option.some.inj h
      exact RET _ _ dX9_joined_210
def F_X9_joined_0 (a0 : Int32) (a1 : Int32) (a2 : Int32) : Option Int32 :=
  if a0 = 38 then (
    if a1 = 0 then (
      some 0
    ) else (
      if a2 = 0 then (
        some 0
      ) else (
        some 1
      )
    )
  ) else (
    if a0 = 39 then (
      F_X9_joined_197 a1 a2
    ) else (
      if a0 = 40 then (
        F_X9_joined_197 a1 a2
      ) else (
        if a0 = 41 then (
          F_X9_joined_197 a1 a2
        ) else (
          if a0 = 42 then (
            some (a1 * a2)
          ) else (
            if a0 = 43 then (
              some (a1 + a2)
            ) else (
              if a0 = 44 then (
                F_X9_joined_197 a1 a2
              ) else (
                if a0 = 45 then (
                  some (a1 - a2)
                ) else (
                  if a0 = 46 then (
                    F_X9_joined_197 a1 a2
                  ) else (
                    if a0 = 47 then (
                      if a2 = 0 then (
                        some 0
                      ) else (
                        if a2 = (-1) then (
                          some (-a1)
                        ) else (
                          gd (nz a2) <|
                          some (a1 / a2)
                        )
                      )
                    ) else (
                      if a0 = 48 then (
                        F_X9_joined_197 a1 a2
                      ) else (
                        if a0 = 49 then (
                          F_X9_joined_197 a1 a2
                        ) else (
                          if a0 = 50 then (
                            F_X9_joined_197 a1 a2
                          ) else (
                            if a0 = 51 then (
                              F_X9_joined_197 a1 a2
                            ) else (
                              if a0 = 52 then (
                                F_X9_joined_197 a1 a2
                              ) else (
                                if a0 = 53 then (
                                  F_X9_joined_197 a1 a2
                                ) else (
                                  if a0 = 54 then (
                                    F_X9_joined_197 a1 a2
                                  ) else (
                                    if a0 = 55 then (
                                      F_X9_joined_197 a1 a2
                                    ) else (
                                      if a0 = 56 then (
                                        F_X9_joined_197 a1 a2
                                      ) else (
                                        if a0 = 57 then (
                                          F_X9_joined_197 a1 a2
                                        ) else (
                                          if a0 = 58 then (
                                            F_X9_joined_197 a1 a2
                                          ) else (
                                            if a0 = 59 then (
                                              F_X9_joined_197 a1 a2
                                            ) else (
                                              if a0 = 60 then (
                                                if a2 ≤ a1 then (
                                                  some 0
                                                ) else (
                                                  some 1
                                                )
                                              ) else (
                                                if a0 = 61 then (
                                                  if a1 = a2 then (
                                                    some 1
                                                  ) else (
                                                    some 0
                                                  )
                                                ) else (
                                                  if a0 = 62 then (
                                                    if a1 ≤ a2 then (
                                                      some 0
                                                    ) else (
                                                      some 1
                                                    )
                                                  ) else (
                                                    F_X9_joined_197 a1 a2
                                                  )
                                                )
                                              )
                                            )
                                          )
                                        )
                                      )
                                    )
                                  )
                                )
                              )
                            )
                          )
                        )
                      )
                    )
                  )
                )
              )
            )
          )
        )
      )
    )
  )
set_option maxRecDepth 100000 in
set_option maxHeartbeats 4000000 in
theorem wF_X9_joined_0 {G : Ctx} {w : va_W} (C : Cx G RX9 cX9_joined 3 0 0) (hD : va_D (gA G) w) {res : Int32} (RET : RI G cX9_joined 3 w res) {a0 : Int32} {a1 : Int32} {a2 : Int32} (h : F_X9_joined_0 a0 a1 a2 = some res) : V G 3 w 0 [(0, .int a0), (1, .int a1), (2, .int a2)] [] := by
  unfold F_X9_joined_0 at h
  refine v_iload_n C dX9_joined_0 rfl rfl 0 rfl ?_
  by_cases c1 : a0 = 38
  · have h := ifp c1 h
    refine v_tsIn C dX9_joined_1 c1 (by decide) (by decide) (off := 182) (by decide) (tgt := 183) (by decide) ?_
    refine v_iload_n C dX9_joined_183 rfl rfl 1 rfl ?_
    refine v_if_eq C dX9_joined_184 (tgt := 195) (by decide) rfl (fun c2 => ?_) (fun c2 => ?_)
    · have h := ifp c2 h
      refine v_iconst C dX9_joined_195 rfl ic_0 ?_
      obtain rfl := Option.some.inj h
      exact RET _ _ dX9_joined_196
    · have h := ifn c2 h
      refine v_iload_n C dX9_joined_187 rfl rfl 2 rfl ?_
      refine v_if_eq C dX9_joined_188 (tgt := 195) (by decide) rfl (fun c3 => ?_) (fun c3 => ?_)
      · have h := ifp c3 h
        refine v_iconst C dX9_joined_195 rfl ic_0 ?_
        obtain rfl := Option.some.inj h
        exact RET _ _ dX9_joined_196
      · have h := ifn c3 h
        refine v_iconst C dX9_joined_191 rfl ic_1 ?_
        refine v_goto C dX9_joined_192 (tgt := 196) (by decide) ?_
        obtain rfl := Option.some.inj h
        exact RET _ _ dX9_joined_196
  · have h := ifn c1 h
    by_cases c4 : a0 = 39
    · have h := ifp c4 h
      refine v_tsIn C dX9_joined_1 c4 (by decide) (by decide) (off := 196) (by decide) (tgt := 197) (by decide) ?_
      refine v_sub [1, 2] rfl ?_
      exact wF_X9_joined_197 C hD RET h
    · have h := ifn c4 h
      by_cases c5 : a0 = 40
      · have h := ifp c5 h
        refine v_tsIn C dX9_joined_1 c5 (by decide) (by decide) (off := 196) (by decide) (tgt := 197) (by decide) ?_
        refine v_sub [1, 2] rfl ?_
        exact wF_X9_joined_197 C hD RET h
      · have h := ifn c5 h
        by_cases c6 : a0 = 41
        · have h := ifp c6 h
          refine v_tsIn C dX9_joined_1 c6 (by decide) (by decide) (off := 196) (by decide) (tgt := 197) (by decide) ?_
          refine v_sub [1, 2] rfl ?_
          exact wF_X9_joined_197 C hD RET h
        · have h := ifn c6 h
          by_cases c7 : a0 = 42
          · have h := ifp c7 h
            refine v_tsIn C dX9_joined_1 c7 (by decide) (by decide) (off := 123) (by decide) (tgt := 124) (by decide) ?_
            refine v_iload_n C dX9_joined_124 rfl rfl 1 rfl ?_
            refine v_iload_n C dX9_joined_125 rfl rfl 2 rfl ?_
            refine v_imul C dX9_joined_126 rfl ?_
            obtain rfl := Option.some.inj h
            exact RET _ _ dX9_joined_127
          · have h := ifn c7 h
            by_cases c8 : a0 = 43
            · have h := ifp c8 h
              refine v_tsIn C dX9_joined_1 c8 (by decide) (by decide) (off := 115) (by decide) (tgt := 116) (by decide) ?_
              refine v_iload_n C dX9_joined_116 rfl rfl 1 rfl ?_
              refine v_iload_n C dX9_joined_117 rfl rfl 2 rfl ?_
              refine v_iadd C dX9_joined_118 rfl ?_
              obtain rfl := Option.some.inj h
              exact RET _ _ dX9_joined_119
            · have h := ifn c8 h
              by_cases c9 : a0 = 44
              · have h := ifp c9 h
                refine v_tsIn C dX9_joined_1 c9 (by decide) (by decide) (off := 196) (by decide) (tgt := 197) (by decide) ?_
                refine v_sub [1, 2] rfl ?_
                exact wF_X9_joined_197 C hD RET h
              · have h := ifn c9 h
                by_cases c10 : a0 = 45
                · have h := ifp c10 h
                  refine v_tsIn C dX9_joined_1 c10 (by decide) (by decide) (off := 119) (by decide) (tgt := 120) (by decide) ?_
                  refine v_iload_n C dX9_joined_120 rfl rfl 1 rfl ?_
                  refine v_iload_n C dX9_joined_121 rfl rfl 2 rfl ?_
                  refine v_isub C dX9_joined_122 rfl ?_
                  obtain rfl := Option.some.inj h
                  exact RET _ _ dX9_joined_123
                · have h := ifn c10 h
                  by_cases c11 : a0 = 46
                  · have h := ifp c11 h
                    refine v_tsIn C dX9_joined_1 c11 (by decide) (by decide) (off := 196) (by decide) (tgt := 197) (by decide) ?_
                    refine v_sub [1, 2] rfl ?_
                    exact wF_X9_joined_197 C hD RET h
                  · have h := ifn c11 h
                    by_cases c12 : a0 = 47
                    · have h := ifp c12 h
                      refine v_tsIn C dX9_joined_1 c12 (by decide) (by decide) (off := 127) (by decide) (tgt := 128) (by decide) ?_
                      refine v_iload_n C dX9_joined_128 rfl rfl 2 rfl ?_
                      refine v_if_ne C dX9_joined_129 (tgt := 136) (by decide) rfl (fun c13 => ?_) (fun c13 => ?_)
                      · have h := ifn c13 h
                        refine v_iload_n C dX9_joined_136 rfl rfl 2 rfl ?_
                        refine v_iconst C dX9_joined_137 rfl ic_n1 ?_
                        refine v_icmp_ne C dX9_joined_138 (tgt := 146) (by decide) rfl (fun c14 => ?_) (fun c14 => ?_)
                        · have h := ifn c14 h
                          refine v_iload_n C dX9_joined_146 rfl rfl 1 rfl ?_
                          refine v_iload_n C dX9_joined_147 rfl rfl 2 rfl ?_
                          obtain ⟨b15, h⟩ := gdS h
                          refine v_idiv C dX9_joined_148 rfl (nzS b15) ?_
                          obtain rfl := Option.some.inj h
                          exact RET _ _ dX9_joined_149
                        · have h := ifp c14 h
                          refine v_iload_n C dX9_joined_141 rfl rfl 1 rfl ?_
                          refine v_ineg C dX9_joined_142 rfl ?_
                          refine v_goto C dX9_joined_143 (tgt := 149) (by decide) ?_
                          obtain rfl := Option.some.inj h
                          exact RET _ _ dX9_joined_149
                      · have h := ifp c13 h
                        refine v_iconst C dX9_joined_132 rfl ic_0 ?_
                        refine v_goto C dX9_joined_133 (tgt := 149) (by decide) ?_
                        obtain rfl := Option.some.inj h
                        exact RET _ _ dX9_joined_149
                    · have h := ifn c12 h
                      by_cases c16 : a0 = 48
                      · have h := ifp c16 h
                        refine v_tsIn C dX9_joined_1 c16 (by decide) (by decide) (off := 196) (by decide) (tgt := 197) (by decide) ?_
                        refine v_sub [1, 2] rfl ?_
                        exact wF_X9_joined_197 C hD RET h
                      · have h := ifn c16 h
                        by_cases c17 : a0 = 49
                        · have h := ifp c17 h
                          refine v_tsIn C dX9_joined_1 c17 (by decide) (by decide) (off := 196) (by decide) (tgt := 197) (by decide) ?_
                          refine v_sub [1, 2] rfl ?_
                          exact wF_X9_joined_197 C hD RET h
                        · have h := ifn c17 h
                          by_cases c18 : a0 = 50
                          · have h := ifp c18 h
                            refine v_tsIn C dX9_joined_1 c18 (by decide) (by decide) (off := 196) (by decide) (tgt := 197) (by decide) ?_
                            refine v_sub [1, 2] rfl ?_
                            exact wF_X9_joined_197 C hD RET h
                          · have h := ifn c18 h
                            by_cases c19 : a0 = 51
                            · have h := ifp c19 h
                              refine v_tsIn C dX9_joined_1 c19 (by decide) (by decide) (off := 196) (by decide) (tgt := 197) (by decide) ?_
                              refine v_sub [1, 2] rfl ?_
                              exact wF_X9_joined_197 C hD RET h
                            · have h := ifn c19 h
                              by_cases c20 : a0 = 52
                              · have h := ifp c20 h
                                refine v_tsIn C dX9_joined_1 c20 (by decide) (by decide) (off := 196) (by decide) (tgt := 197) (by decide) ?_
                                refine v_sub [1, 2] rfl ?_
                                exact wF_X9_joined_197 C hD RET h
                              · have h := ifn c20 h
                                by_cases c21 : a0 = 53
                                · have h := ifp c21 h
                                  refine v_tsIn C dX9_joined_1 c21 (by decide) (by decide) (off := 196) (by decide) (tgt := 197) (by decide) ?_
                                  refine v_sub [1, 2] rfl ?_
                                  exact wF_X9_joined_197 C hD RET h
                                · have h := ifn c21 h
                                  by_cases c22 : a0 = 54
                                  · have h := ifp c22 h
                                    refine v_tsIn C dX9_joined_1 c22 (by decide) (by decide) (off := 196) (by decide) (tgt := 197) (by decide) ?_
                                    refine v_sub [1, 2] rfl ?_
                                    exact wF_X9_joined_197 C hD RET h
                                  · have h := ifn c22 h
                                    by_cases c23 : a0 = 55
                                    · have h := ifp c23 h
                                      refine v_tsIn C dX9_joined_1 c23 (by decide) (by decide) (off := 196) (by decide) (tgt := 197) (by decide) ?_
                                      refine v_sub [1, 2] rfl ?_
                                      exact wF_X9_joined_197 C hD RET h
                                    · have h := ifn c23 h
                                      by_cases c24 : a0 = 56
                                      · have h := ifp c24 h
                                        refine v_tsIn C dX9_joined_1 c24 (by decide) (by decide) (off := 196) (by decide) (tgt := 197) (by decide) ?_
                                        refine v_sub [1, 2] rfl ?_
                                        exact wF_X9_joined_197 C hD RET h
                                      · have h := ifn c24 h
                                        by_cases c25 : a0 = 57
                                        · have h := ifp c25 h
                                          refine v_tsIn C dX9_joined_1 c25 (by decide) (by decide) (off := 196) (by decide) (tgt := 197) (by decide) ?_
                                          refine v_sub [1, 2] rfl ?_
                                          exact wF_X9_joined_197 C hD RET h
                                        · have h := ifn c25 h
                                          by_cases c26 : a0 = 58
                                          · have h := ifp c26 h
                                            refine v_tsIn C dX9_joined_1 c26 (by decide) (by decide) (off := 196) (by decide) (tgt := 197) (by decide) ?_
                                            refine v_sub [1, 2] rfl ?_
                                            exact wF_X9_joined_197 C hD RET h
                                          · have h := ifn c26 h
                                            by_cases c27 : a0 = 59
                                            · have h := ifp c27 h
                                              refine v_tsIn C dX9_joined_1 c27 (by decide) (by decide) (off := 196) (by decide) (tgt := 197) (by decide) ?_
                                              refine v_sub [1, 2] rfl ?_
                                              exact wF_X9_joined_197 C hD RET h
                                            · have h := ifn c27 h
                                              by_cases c28 : a0 = 60
                                              · have h := ifp c28 h
                                                refine v_tsIn C dX9_joined_1 c28 (by decide) (by decide) (off := 149) (by decide) (tgt := 150) (by decide) ?_
                                                refine v_iload_n C dX9_joined_150 rfl rfl 1 rfl ?_
                                                refine v_iload_n C dX9_joined_151 rfl rfl 2 rfl ?_
                                                refine v_icmp_ge C dX9_joined_152 (tgt := 159) (by decide) rfl (fun c29 => ?_) (fun c29 => ?_)
                                                · have h := ifp c29 h
                                                  refine v_iconst C dX9_joined_159 rfl ic_0 ?_
                                                  obtain rfl := Option.some.inj h
                                                  exact RET _ _ dX9_joined_160
                                                · have h := ifn c29 h
                                                  refine v_iconst C dX9_joined_155 rfl ic_1 ?_
                                                  refine v_goto C dX9_joined_156 (tgt := 160) (by decide) ?_
                                                  obtain rfl := Option.some.inj h
                                                  exact RET _ _ dX9_joined_160
                                              · have h := ifn c28 h
                                                by_cases c30 : a0 = 61
                                                · have h := ifp c30 h
                                                  refine v_tsIn C dX9_joined_1 c30 (by decide) (by decide) (off := 171) (by decide) (tgt := 172) (by decide) ?_
                                                  refine v_iload_n C dX9_joined_172 rfl rfl 1 rfl ?_
                                                  refine v_iload_n C dX9_joined_173 rfl rfl 2 rfl ?_
                                                  refine v_icmp_ne C dX9_joined_174 (tgt := 181) (by decide) rfl (fun c31 => ?_) (fun c31 => ?_)
                                                  · have h := ifn c31 h
                                                    refine v_iconst C dX9_joined_181 rfl ic_0 ?_
                                                    obtain rfl := Option.some.inj h
                                                    exact RET _ _ dX9_joined_182
                                                  · have h := ifp c31 h
                                                    refine v_iconst C dX9_joined_177 rfl ic_1 ?_
                                                    refine v_goto C dX9_joined_178 (tgt := 182) (by decide) ?_
                                                    obtain rfl := Option.some.inj h
                                                    exact RET _ _ dX9_joined_182
                                                · have h := ifn c30 h
                                                  by_cases c32 : a0 = 62
                                                  · have h := ifp c32 h
                                                    refine v_tsIn C dX9_joined_1 c32 (by decide) (by decide) (off := 160) (by decide) (tgt := 161) (by decide) ?_
                                                    refine v_iload_n C dX9_joined_161 rfl rfl 1 rfl ?_
                                                    refine v_iload_n C dX9_joined_162 rfl rfl 2 rfl ?_
                                                    refine v_icmp_le C dX9_joined_163 (tgt := 170) (by decide) rfl (fun c33 => ?_) (fun c33 => ?_)
                                                    · have h := ifp c33 h
                                                      refine v_iconst C dX9_joined_170 rfl ic_0 ?_
                                                      obtain rfl := Option.some.inj h
                                                      exact RET _ _ dX9_joined_171
                                                    · have h := ifn c33 h
                                                      refine v_iconst C dX9_joined_166 rfl ic_1 ?_
                                                      refine v_goto C dX9_joined_167 (tgt := 171) (by decide) ?_
                                                      obtain rfl := Option.some.inj h
                                                      exact RET _ _ dX9_joined_171
                                                  · have h := ifn c32 h
                                                    refine v_tsOut C dX9_joined_1 (by have ec1 := lv_neT c1 (k := 38) (a := 38) (by decide); have ec4 := lv_neT c4 (k := 39) (a := 39) (by decide); have ec5 := lv_neT c5 (k := 40) (a := 40) (by decide); have ec6 := lv_neT c6 (k := 41) (a := 41) (by decide); have ec7 := lv_neT c7 (k := 42) (a := 42) (by decide); have ec8 := lv_neT c8 (k := 43) (a := 43) (by decide); have ec9 := lv_neT c9 (k := 44) (a := 44) (by decide); have ec10 := lv_neT c10 (k := 45) (a := 45) (by decide); have ec11 := lv_neT c11 (k := 46) (a := 46) (by decide); have ec12 := lv_neT c12 (k := 47) (a := 47) (by decide); have ec16 := lv_neT c16 (k := 48) (a := 48) (by decide); have ec17 := lv_neT c17 (k := 49) (a := 49) (by decide); have ec18 := lv_neT c18 (k := 50) (a := 50) (by decide); have ec19 := lv_neT c19 (k := 51) (a := 51) (by decide); have ec20 := lv_neT c20 (k := 52) (a := 52) (by decide); have ec21 := lv_neT c21 (k := 53) (a := 53) (by decide); have ec22 := lv_neT c22 (k := 54) (a := 54) (by decide); have ec23 := lv_neT c23 (k := 55) (a := 55) (by decide); have ec24 := lv_neT c24 (k := 56) (a := 56) (by decide); have ec25 := lv_neT c25 (k := 57) (a := 57) (by decide); have ec26 := lv_neT c26 (k := 58) (a := 58) (by decide); have ec27 := lv_neT c27 (k := 59) (a := 59) (by decide); have ec28 := lv_neT c28 (k := 60) (a := 60) (by decide); have ec30 := lv_neT c30 (k := 61) (a := 61) (by decide); have ec32 := lv_neT c32 (k := 62) (a := 62) (by decide); omega) (tgt := 197) (by decide) ?_
                                                    refine v_sub [1, 2] rfl ?_
                                                    exact wF_X9_joined_197 C hD RET h
def C_X9_joined (a0 : Int32) (a1 : Int32) (a2 : Int32) : Option Int32 := F_X9_joined_0 a0 a1 a2
set_option maxRecDepth 100000 in
theorem c_X9_joined {l : Launch} {D : va_G} {cA : FieldType → ClassId} {X : Ex} {w : va_W} {a0 : Int32} {a1 : Int32} {a2 : Int32} {r : Int32} (h : C_X9_joined a0 a1 a2 = some r) : MI l D cA X yX9_joined cX9_joined 3 (some .int) 0 0 [.int a0, .int a1, .int a2] w w r :=
  mI_of (by decide +kernel) (Nat.le_of_ble_eq_true rfl) (fun G h1 h2 h3 h4 C hD RET => by subst h1 h2 h3 h4; exact wF_X9_joined_0 C hD RET  h)
def F_X9_worked_4 (k4 : Int32 → Int32 → Int32 → Mem → Option (Int32 × Mem)) (a1 : Int32) (a2 : Int32) (a3 : Int32) (K : Mem) : Option (Int32 × Mem) :=
  bd (C_X9_textAt K a1) fun r2 =>
  gd (inb (r2 + 2) 3058) <|
  if (K 1 (Int32.toNatClampNeg (r2 + 2))) ≤ a3 then (
    gd (inb 0 100) <|
    some (K 17 (Int32.toNatClampNeg 0), K)
  ) else (
    bd (C_X9_textAt K a1) fun r7 =>
    gd (inb ((r7 + 4) + (2 * a3)) 3058) <|
    nm (K 1 (Int32.toNatClampNeg ((r7 + 4) + (2 * a3)))) fun v9 =>
    bd (C_X9_textAt K a1) fun r11 =>
    gd (inb (((r11 + 4) + (2 * a3)) + 1) 3058) <|
    nm (K 1 (Int32.toNatClampNeg (((r11 + 4) + (2 * a3)) + 1))) fun v13 =>
    if v9 = 2 then (
      if v13 = 33 then (
        gd (inb (a2 - 1) 100) <|
        if (K 17 (Int32.toNatClampNeg (a2 - 1))) = 0 then (
          gd (inb (a2 - 1) 100) <|
          nm (up K 17 (Int32.toNatClampNeg (a2 - 1)) 1) fun K30 =>
          nm (a3 + 1) fun v31 =>
          k4 a1 a2 v31 K30
        ) else (
          gd (inb (a2 - 1) 100) <|
          nm (up K 17 (Int32.toNatClampNeg (a2 - 1)) 0) fun K27 =>
          nm (a3 + 1) fun v28 =>
          k4 a1 a2 v28 K27
        )
      ) else (
        nm (a2 + (-1)) fun v16 =>
        gd (inb (v16 - 1) 100) <|
        gd (inb v16 100) <|
        bd (C_X9_joined v13 (K 17 (Int32.toNatClampNeg (v16 - 1))) (K 17 (Int32.toNatClampNeg v16))) fun r20 =>
        gd (inb (v16 - 1) 100) <|
        nm (up K 17 (Int32.toNatClampNeg (v16 - 1)) r20) fun K22 =>
        nm (a3 + 1) fun v23 =>
        k4 a1 v16 v23 K22
      )
    ) else (
      if v9 = 0 then (
        gd (inb a2 100) <|
        nm (up K 17 (Int32.toNatClampNeg a2) v13) fun K39 =>
        nm (a2 + 1) fun v40 =>
        nm (a3 + 1) fun v41 =>
        k4 a1 v40 v41 K39
      ) else (
        gd (inb v13 128) <|
        gd (inb a2 100) <|
        nm (up K 17 (Int32.toNatClampNeg a2) (K 16 (Int32.toNatClampNeg v13))) fun K35 =>
        nm (a2 + 1) fun v36 =>
        nm (a3 + 1) fun v37 =>
        k4 a1 v36 v37 K35
      )
    )
  )
def L_X9_worked_4 : Nat → Int32 → Int32 → Int32 → Mem → Option (Int32 × Mem)
  | 0, _, _, _, _ => none
  | n + 1, a1, a2, a3, K => F_X9_worked_4 (fun a1 a2 a3 K => L_X9_worked_4 n a1 a2 a3 K) a1 a2 a3 K
set_option maxRecDepth 100000 in
set_option maxHeartbeats 4000000 in
theorem wF_X9_worked_4 {G : Ctx} {ad : Nat → Nat} {k4 : Int32 → Int32 → Int32 → Mem → Option (Int32 × Mem)} (C : Cx G RX9 cX9_worked 6 1 22) (hD : ∀ K, va_D (gA G) (wd (gC G) ad K 0 shsR)) {res : (Int32 × Mem)} (RET : RI G cX9_worked 6 (wd (gC G) ad res.2 0 shsR) res.1) (hk4 : ∀ {a1 : Int32} {a2 : Int32} {a3 : Int32} {K : Mem} , k4 a1 a2 a3 K = some res → V G 6 (wd (gC G) ad K 0 shsR) 4 [(0, .ref (ad 0)), (1, .int a1), (2, .int a2), (3, .int a3)] []) {a1 : Int32} {a2 : Int32} {a3 : Int32} {K : Mem} (h : F_X9_worked_4 k4 a1 a2 a3 K = some res) : V G 6 (wd (gC G) ad K 0 shsR) 4 [(0, .ref (ad 0)), (1, .int a1), (2, .int a2), (3, .int a3)] [] := by
  unfold F_X9_worked_4 at h
  refine v_iload_n C dX9_worked_4 rfl rfl 3 rfl ?_
  refine v_aload_n C dX9_worked_5 rfl rfl 0 rfl ?_
  refine v_getr C dX9_worked_6 rfl ff_X9_7 sr_0 rfl ?_
  refine v_aload_n C dX9_worked_9 rfl rfl 0 rfl ?_
  refine v_iload_n C dX9_worked_10 rfl rfl 1 rfl ?_
  obtain ⟨r2, e1, h⟩ := bdS h
  refine v_callVi C yv_X9_textAt m_1003 (c_X9_textAt e1) (Sub.whole hD _ _) ⟨_, _, _, _, _, wd_at sr_0, rfl⟩ (As := [.int a1]) rfl rfl (Nat.le_of_ble_eq_true rfl) ⟨Nat.le_of_ble_eq_true rfl, Nat.le_of_ble_eq_true rfl⟩ dX9_worked_11 rfl ?_
  refine v_iconst C dX9_worked_14 rfl ic_2 ?_
  refine v_iadd C dX9_worked_15 rfl ?_
  obtain ⟨b3, h⟩ := gdS h
  refine v_iald C dX9_worked_16 rfl sr_1 b3 ?_
  refine v_icmp_ge C dX9_worked_17 (tgt := 163) (by decide) rfl (fun c4 => ?_) (fun c4 => ?_)
  · have h := ifp c4 h
    refine v_aload_n C dX9_worked_163 rfl rfl 0 rfl ?_
    refine v_getr C dX9_worked_164 rfl ff_X9_58 sr_0 rfl ?_
    refine v_iconst C dX9_worked_167 rfl ic_0 ?_
    obtain ⟨b5, h⟩ := gdS h
    refine v_iald C dX9_worked_168 rfl sr_17 b5 ?_
    obtain rfl := Option.some.inj h
    exact RET _ _ dX9_worked_169
  · have h := ifn c4 h
    refine v_aload_n C dX9_worked_20 rfl rfl 0 rfl ?_
    refine v_getr C dX9_worked_21 rfl ff_X9_7 sr_0 rfl ?_
    refine v_aload_n C dX9_worked_24 rfl rfl 0 rfl ?_
    refine v_iload_n C dX9_worked_25 rfl rfl 1 rfl ?_
    obtain ⟨r7, e6, h⟩ := bdS h
    refine v_callVi C yv_X9_textAt m_1003 (c_X9_textAt e6) (Sub.whole hD _ _) ⟨_, _, _, _, _, wd_at sr_0, rfl⟩ (As := [.int a1]) rfl rfl (Nat.le_of_ble_eq_true rfl) ⟨Nat.le_of_ble_eq_true rfl, Nat.le_of_ble_eq_true rfl⟩ dX9_worked_26 rfl ?_
    refine v_iconst C dX9_worked_29 rfl ic_4 ?_
    refine v_iadd C dX9_worked_30 rfl ?_
    refine v_iconst C dX9_worked_31 rfl ic_2 ?_
    refine v_iload_n C dX9_worked_32 rfl rfl 3 rfl ?_
    refine v_imul C dX9_worked_33 rfl ?_
    refine v_iadd C dX9_worked_34 rfl ?_
    obtain ⟨b8, h⟩ := gdS h
    refine v_iald C dX9_worked_35 rfl sr_1 b8 ?_
    obtain ⟨v9, ev9, h⟩ := nmS h
    refine v_nmi ev9 ?_
    refine v_istore C dX9_worked_36 rfl (by decide) (L' := [(4, .int v9), (0, .ref (ad 0)), (1, .int a1), (2, .int a2), (3, .int a3)]) rfl ?_
    refine v_aload_n C dX9_worked_38 rfl rfl 1 rfl ?_
    refine v_getr C dX9_worked_39 rfl ff_X9_7 sr_0 rfl ?_
    refine v_aload_n C dX9_worked_42 rfl rfl 1 rfl ?_
    refine v_iload_n C dX9_worked_43 rfl rfl 2 rfl ?_
    obtain ⟨r11, e10, h⟩ := bdS h
    refine v_callVi C yv_X9_textAt m_1003 (c_X9_textAt e10) (Sub.whole hD _ _) ⟨_, _, _, _, _, wd_at sr_0, rfl⟩ (As := [.int a1]) rfl rfl (Nat.le_of_ble_eq_true rfl) ⟨Nat.le_of_ble_eq_true rfl, Nat.le_of_ble_eq_true rfl⟩ dX9_worked_44 rfl ?_
    refine v_iconst C dX9_worked_47 rfl ic_4 ?_
    refine v_iadd C dX9_worked_48 rfl ?_
    refine v_iconst C dX9_worked_49 rfl ic_2 ?_
    refine v_iload_n C dX9_worked_50 rfl rfl 4 rfl ?_
    refine v_imul C dX9_worked_51 rfl ?_
    refine v_iadd C dX9_worked_52 rfl ?_
    refine v_iconst C dX9_worked_53 rfl ic_1 ?_
    refine v_iadd C dX9_worked_54 rfl ?_
    obtain ⟨b12, h⟩ := gdS h
    refine v_iald C dX9_worked_55 rfl sr_1 b12 ?_
    obtain ⟨v13, ev13, h⟩ := nmS h
    refine v_nmi ev13 ?_
    refine v_istore C dX9_worked_56 rfl (by decide) (L' := [(5, .int v13), (4, .int v9), (0, .ref (ad 0)), (1, .int a1), (2, .int a2), (3, .int a3)]) rfl ?_
    refine v_iload C dX9_worked_58 rfl 1 rfl ?_
    refine v_iconst C dX9_worked_60 rfl ic_2 ?_
    refine v_icmp_eq C dX9_worked_61 (tgt := 93) (by decide) rfl (fun c14 => ?_) (fun c14 => ?_)
    · have h := ifp c14 h
      refine v_iload C dX9_worked_93 rfl 0 rfl ?_
      refine v_bipush C dX9_worked_95 rfl bi_33 ?_
      refine v_icmp_ne C dX9_worked_97 (tgt := 127) (by decide) rfl (fun c15 => ?_) (fun c15 => ?_)
      · have h := ifn c15 h
        obtain ⟨v16, ev16, h⟩ := nmS h
        refine v_iinc C dX9_worked_127 rfl 4 rfl (v := v16) (by rw [ev16]; rfl) (by decide) (L' := [(2, .int v16), (5, .int v13), (4, .int v9), (0, .ref (ad 0)), (1, .int a1), (3, .int a3)]) rfl ?_
        refine v_aload_n C dX9_worked_130 rfl rfl 3 rfl ?_
        refine v_getr C dX9_worked_131 rfl ff_X9_58 sr_0 rfl ?_
        refine v_iload_n C dX9_worked_134 rfl rfl 0 rfl ?_
        refine v_iconst C dX9_worked_135 rfl ic_1 ?_
        refine v_isub C dX9_worked_136 rfl ?_
        refine v_iload C dX9_worked_137 rfl 1 rfl ?_
        refine v_aload_n C dX9_worked_139 rfl rfl 3 rfl ?_
        refine v_getr C dX9_worked_140 rfl ff_X9_58 sr_0 rfl ?_
        refine v_iload_n C dX9_worked_143 rfl rfl 0 rfl ?_
        refine v_iconst C dX9_worked_144 rfl ic_1 ?_
        refine v_isub C dX9_worked_145 rfl ?_
        obtain ⟨b17, h⟩ := gdS h
        refine v_iald C dX9_worked_146 rfl sr_17 b17 ?_
        refine v_aload_n C dX9_worked_147 rfl rfl 3 rfl ?_
        refine v_getr C dX9_worked_148 rfl ff_X9_58 sr_0 rfl ?_
        refine v_iload_n C dX9_worked_151 rfl rfl 0 rfl ?_
        obtain ⟨b18, h⟩ := gdS h
        refine v_iald C dX9_worked_152 rfl sr_17 b18 ?_
        obtain ⟨r20, e19, h⟩ := bdS h
        refine v_callSi C ys_X9_joined m_1011 (c_X9_joined e19) (Sub.whole hD _ _) (As := [.int v13, .int (K 17 (Int32.toNatClampNeg (v16 - 1))), .int (K 17 (Int32.toNatClampNeg v16))]) rfl rfl (Nat.le_of_ble_eq_true rfl) ⟨Nat.le_of_ble_eq_true rfl, Nat.le_of_ble_eq_true rfl⟩ dX9_worked_153 rfl ?_
        obtain ⟨b21, h⟩ := gdS h
        obtain ⟨K22, eK22, h⟩ := nmS h
        refine v_iast C hD dX9_worked_156 rfl sr_17 b21 eK22 ?_
        obtain ⟨v23, ev23, h⟩ := nmS h
        refine v_iinc C dX9_worked_157 rfl 5 rfl (v := v23) (by rw [ev23]; rfl) (by decide) (L' := [(3, .int v23), (2, .int v16), (5, .int v13), (4, .int v9), (0, .ref (ad 0)), (1, .int a1)]) rfl ?_
        refine v_goto C dX9_worked_160 (tgt := 4) (by decide) ?_
        refine v_sub [4, 5, 1, 0] rfl ?_
        exact hk4 h
      · have h := ifp c15 h
        refine v_aload_n C dX9_worked_100 rfl rfl 2 rfl ?_
        refine v_getr C dX9_worked_101 rfl ff_X9_58 sr_0 rfl ?_
        refine v_iload_n C dX9_worked_104 rfl rfl 4 rfl ?_
        refine v_iconst C dX9_worked_105 rfl ic_1 ?_
        refine v_isub C dX9_worked_106 rfl ?_
        refine v_aload_n C dX9_worked_107 rfl rfl 2 rfl ?_
        refine v_getr C dX9_worked_108 rfl ff_X9_58 sr_0 rfl ?_
        refine v_iload_n C dX9_worked_111 rfl rfl 4 rfl ?_
        refine v_iconst C dX9_worked_112 rfl ic_1 ?_
        refine v_isub C dX9_worked_113 rfl ?_
        obtain ⟨b24, h⟩ := gdS h
        refine v_iald C dX9_worked_114 rfl sr_17 b24 ?_
        refine v_if_ne C dX9_worked_115 (tgt := 122) (by decide) rfl (fun c25 => ?_) (fun c25 => ?_)
        · have h := ifn c25 h
          refine v_iconst C dX9_worked_122 rfl ic_0 ?_
          obtain ⟨b26, h⟩ := gdS h
          obtain ⟨K27, eK27, h⟩ := nmS h
          refine v_iast C hD dX9_worked_123 rfl sr_17 b26 eK27 ?_
          refine v_goto C dX9_worked_124 (tgt := 157) (by decide) ?_
          obtain ⟨v28, ev28, h⟩ := nmS h
          refine v_iinc C dX9_worked_157 rfl 5 rfl (v := v28) (by rw [ev28]; rfl) (by decide) (L' := [(3, .int v28), (5, .int v13), (4, .int v9), (0, .ref (ad 0)), (1, .int a1), (2, .int a2)]) rfl ?_
          refine v_goto C dX9_worked_160 (tgt := 4) (by decide) ?_
          refine v_sub [3, 4, 5, 0] rfl ?_
          exact hk4 h
        · have h := ifp c25 h
          refine v_iconst C dX9_worked_118 rfl ic_1 ?_
          refine v_goto C dX9_worked_119 (tgt := 123) (by decide) ?_
          obtain ⟨b29, h⟩ := gdS h
          obtain ⟨K30, eK30, h⟩ := nmS h
          refine v_iast C hD dX9_worked_123 rfl sr_17 b29 eK30 ?_
          refine v_goto C dX9_worked_124 (tgt := 157) (by decide) ?_
          obtain ⟨v31, ev31, h⟩ := nmS h
          refine v_iinc C dX9_worked_157 rfl 5 rfl (v := v31) (by rw [ev31]; rfl) (by decide) (L' := [(3, .int v31), (5, .int v13), (4, .int v9), (0, .ref (ad 0)), (1, .int a1), (2, .int a2)]) rfl ?_
          refine v_goto C dX9_worked_160 (tgt := 4) (by decide) ?_
          refine v_sub [3, 4, 5, 0] rfl ?_
          exact hk4 h
    · have h := ifn c14 h
      refine v_aload_n C dX9_worked_64 rfl rfl 2 rfl ?_
      refine v_getr C dX9_worked_65 rfl ff_X9_58 sr_0 rfl ?_
      refine v_iload_n C dX9_worked_68 rfl rfl 4 rfl ?_
      refine v_iload C dX9_worked_69 rfl 1 rfl ?_
      refine v_if_ne C dX9_worked_71 (tgt := 79) (by decide) rfl (fun c32 => ?_) (fun c32 => ?_)
      · have h := ifn c32 h
        refine v_aload_n C dX9_worked_79 rfl rfl 2 rfl ?_
        refine v_getr C dX9_worked_80 rfl ff_X9_55 sr_0 rfl ?_
        refine v_iload C dX9_worked_83 rfl 0 rfl ?_
        obtain ⟨b33, h⟩ := gdS h
        refine v_iald C dX9_worked_85 rfl sr_16 b33 ?_
        obtain ⟨b34, h⟩ := gdS h
        obtain ⟨K35, eK35, h⟩ := nmS h
        refine v_iast C hD dX9_worked_86 rfl sr_17 b34 eK35 ?_
        obtain ⟨v36, ev36, h⟩ := nmS h
        refine v_iinc C dX9_worked_87 rfl 4 rfl (v := v36) (by rw [ev36]; rfl) (by decide) (L' := [(2, .int v36), (5, .int v13), (4, .int v9), (0, .ref (ad 0)), (1, .int a1), (3, .int a3)]) rfl ?_
        refine v_goto C dX9_worked_90 (tgt := 157) (by decide) ?_
        obtain ⟨v37, ev37, h⟩ := nmS h
        refine v_iinc C dX9_worked_157 rfl 5 rfl (v := v37) (by rw [ev37]; rfl) (by decide) (L' := [(3, .int v37), (2, .int v36), (5, .int v13), (4, .int v9), (0, .ref (ad 0)), (1, .int a1)]) rfl ?_
        refine v_goto C dX9_worked_160 (tgt := 4) (by decide) ?_
        refine v_sub [4, 5, 1, 0] rfl ?_
        exact hk4 h
      · have h := ifp c32 h
        refine v_iload C dX9_worked_74 rfl 0 rfl ?_
        refine v_goto C dX9_worked_76 (tgt := 86) (by decide) ?_
        obtain ⟨b38, h⟩ := gdS h
        obtain ⟨K39, eK39, h⟩ := nmS h
        refine v_iast C hD dX9_worked_86 rfl sr_17 b38 eK39 ?_
        obtain ⟨v40, ev40, h⟩ := nmS h
        refine v_iinc C dX9_worked_87 rfl 4 rfl (v := v40) (by rw [ev40]; rfl) (by decide) (L' := [(2, .int v40), (5, .int v13), (4, .int v9), (0, .ref (ad 0)), (1, .int a1), (3, .int a3)]) rfl ?_
        refine v_goto C dX9_worked_90 (tgt := 157) (by decide) ?_
        obtain ⟨v41, ev41, h⟩ := nmS h
        refine v_iinc C dX9_worked_157 rfl 5 rfl (v := v41) (by rw [ev41]; rfl) (by decide) (L' := [(3, .int v41), (2, .int v40), (5, .int v13), (4, .int v9), (0, .ref (ad 0)), (1, .int a1)]) rfl ?_
        refine v_goto C dX9_worked_160 (tgt := 4) (by decide) ?_
        refine v_sub [4, 5, 1, 0] rfl ?_
        exact hk4 h
theorem wL_X9_worked_4 {G : Ctx} {ad : Nat → Nat} (C : Cx G RX9 cX9_worked 6 1 22) (hD : ∀ K, va_D (gA G) (wd (gC G) ad K 0 shsR)) {res : (Int32 × Mem)} (RET : RI G cX9_worked 6 (wd (gC G) ad res.2 0 shsR) res.1) : ∀ (n : Nat) {a1 : Int32} {a2 : Int32} {a3 : Int32} {K : Mem} (h : L_X9_worked_4 n a1 a2 a3 K = some res), V G 6 (wd (gC G) ad K 0 shsR) 4 [(0, .ref (ad 0)), (1, .int a1), (2, .int a2), (3, .int a3)] [] := by
  intro n
  induction n with
  | zero =>
    intro a1 a2 a3 K h
    cases (show (none : Option (Int32 × Mem)) = some res from h)
  | succ n ih =>
    intro a1 a2 a3 K h
    exact wF_X9_worked_4 (k4 := fun a1 a2 a3 K => L_X9_worked_4  n a1 a2 a3 K) C hD RET (fun h => ih h) h
def F_X9_worked_0 (a1 : Int32) (K : Mem) : Option (Int32 × Mem) :=
  L_X9_worked_4 FU a1 0 0 K
set_option maxRecDepth 100000 in
set_option maxHeartbeats 4000000 in
theorem wF_X9_worked_0 {G : Ctx} {ad : Nat → Nat} (C : Cx G RX9 cX9_worked 6 1 22) (hD : ∀ K, va_D (gA G) (wd (gC G) ad K 0 shsR)) {res : (Int32 × Mem)} (RET : RI G cX9_worked 6 (wd (gC G) ad res.2 0 shsR) res.1) {a1 : Int32} {K : Mem} (h : F_X9_worked_0 a1 K = some res) : V G 6 (wd (gC G) ad K 0 shsR) 0 [(0, .ref (ad 0)), (1, .int a1)] [] := by
  unfold F_X9_worked_0 at h
  refine v_iconst C dX9_worked_0 rfl ic_0 ?_
  refine v_istore_n C dX9_worked_1 rfl rfl (by decide) (L' := [(2, .int 0), (0, .ref (ad 0)), (1, .int a1)]) rfl ?_
  refine v_iconst C dX9_worked_2 rfl ic_0 ?_
  refine v_istore_n C dX9_worked_3 rfl rfl (by decide) (L' := [(3, .int 0), (2, .int 0), (0, .ref (ad 0)), (1, .int a1)]) rfl ?_
  refine v_sub [2, 3, 1, 0] rfl ?_
  exact wL_X9_worked_4 C hD RET FU h
def C_X9_worked (a1 : Int32) (K : Mem) : Option (Int32 × Mem) := F_X9_worked_0 a1 K
set_option maxRecDepth 100000 in
theorem c_X9_worked {l : Launch} {D : va_G} {cA : FieldType → ClassId} {X : Ex} {ad : Nat → Nat} {a1 : Int32} {K : Mem} {r : Int32} {K' : Mem} (h : C_X9_worked a1 K = some (r, K')) : MI l D cA X yX9_worked cX9_worked 6 (some .int) 1 22 [.ref (ad 0), .int a1] (wd cA ad K 0 shsR) (wd cA ad K' 0 shsR) r :=
  mI_of (by decide +kernel) (Nat.le_of_ble_eq_true rfl) (fun G h1 h2 h3 h4 C hD RET => by subst h1 h2 h3 h4; exact wF_X9_worked_0 C (fun K' => wd_D K' hD) RET  h)
def F_X9_plain_0 (a1 : Int32) (K : Mem) : Option (Int32 × Mem) :=
  bd (C_X9_counts K 0) fun r2 =>
  if 0 ≤ r2 then (
    bd (C_X9_of K a1 1) fun r5 =>
    gd (inb 103 128) <|
    nm (up K 16 (Int32.toNatClampNeg 103) r5) fun K7 =>
    bd (C_X9_of K7 a1 2) fun r9 =>
    gd (inb 119 128) <|
    nm (up K7 16 (Int32.toNatClampNeg 119) r9) fun K11 =>
    gd (inb 2 3058) <|
    gd (inb 110 128) <|
    nm (up K11 16 (Int32.toNatClampNeg 110) (K11 1 (Int32.toNatClampNeg 2))) fun K14 =>
    bd2 (C_X9_worked r2 K14) fun r17 K16 =>
    bd (C_X9_within r17 99) fun r19 =>
    some (r19, K16)
  ) else (
    some (6, K)
  )
set_option maxRecDepth 100000 in
set_option maxHeartbeats 4000000 in
theorem wF_X9_plain_0 {G : Ctx} {ad : Nat → Nat} (C : Cx G RX9 cX9_plain 3 2 47) (hD : ∀ K, va_D (gA G) (wd (gC G) ad K 0 shsR)) {res : (Int32 × Mem)} (RET : RI G cX9_plain 3 (wd (gC G) ad res.2 0 shsR) res.1) {a1 : Int32} {K : Mem} (h : F_X9_plain_0 a1 K = some res) : V G 3 (wd (gC G) ad K 0 shsR) 0 [(0, .ref (ad 0)), (1, .int a1)] [] := by
  unfold F_X9_plain_0 at h
  refine v_aload_n C dX9_plain_0 rfl rfl 0 rfl ?_
  refine v_iconst C dX9_plain_1 rfl ic_0 ?_
  obtain ⟨r2, e1, h⟩ := bdS h
  refine v_callVi C yv_X9_counts m_999 (c_X9_counts e1) (Sub.whole hD _ _) ⟨_, _, _, _, _, wd_at sr_0, rfl⟩ (As := [.int 0]) rfl rfl (Nat.le_of_ble_eq_true rfl) ⟨Nat.le_of_ble_eq_true rfl, Nat.le_of_ble_eq_true rfl⟩ dX9_plain_2 rfl ?_
  refine v_istore_n C dX9_plain_5 rfl rfl (by decide) (L' := [(2, .int r2), (0, .ref (ad 0)), (1, .int a1)]) rfl ?_
  refine v_iload_n C dX9_plain_6 rfl rfl 0 rfl ?_
  refine v_if_ge C dX9_plain_7 (tgt := 13) (by decide) rfl (fun c3 => ?_) (fun c3 => ?_)
  · have h := ifp c3 h
    refine v_aload_n C dX9_plain_13 rfl rfl 1 rfl ?_
    refine v_getr C dX9_plain_14 rfl ff_X9_55 sr_0 rfl ?_
    refine v_bipush C dX9_plain_17 rfl bi_103 ?_
    refine v_aload_n C dX9_plain_19 rfl rfl 1 rfl ?_
    refine v_iload_n C dX9_plain_20 rfl rfl 2 rfl ?_
    refine v_iconst C dX9_plain_21 rfl ic_1 ?_
    obtain ⟨r5, e4, h⟩ := bdS h
    refine v_callVi C yv_X9_of m_980 (c_X9_of e4) (Sub.whole hD _ _) ⟨_, _, _, _, _, wd_at sr_0, rfl⟩ (As := [.int a1, .int 1]) rfl rfl (Nat.le_of_ble_eq_true rfl) ⟨Nat.le_of_ble_eq_true rfl, Nat.le_of_ble_eq_true rfl⟩ dX9_plain_22 rfl ?_
    obtain ⟨b6, h⟩ := gdS h
    obtain ⟨K7, eK7, h⟩ := nmS h
    refine v_iast C hD dX9_plain_25 rfl sr_16 b6 eK7 ?_
    refine v_aload_n C dX9_plain_26 rfl rfl 1 rfl ?_
    refine v_getr C dX9_plain_27 rfl ff_X9_55 sr_0 rfl ?_
    refine v_bipush C dX9_plain_30 rfl bi_119 ?_
    refine v_aload_n C dX9_plain_32 rfl rfl 1 rfl ?_
    refine v_iload_n C dX9_plain_33 rfl rfl 2 rfl ?_
    refine v_iconst C dX9_plain_34 rfl ic_2 ?_
    obtain ⟨r9, e8, h⟩ := bdS h
    refine v_callVi C yv_X9_of m_980 (c_X9_of e8) (Sub.whole hD _ _) ⟨_, _, _, _, _, wd_at sr_0, rfl⟩ (As := [.int a1, .int 2]) rfl rfl (Nat.le_of_ble_eq_true rfl) ⟨Nat.le_of_ble_eq_true rfl, Nat.le_of_ble_eq_true rfl⟩ dX9_plain_35 rfl ?_
    obtain ⟨b10, h⟩ := gdS h
    obtain ⟨K11, eK11, h⟩ := nmS h
    refine v_iast C hD dX9_plain_38 rfl sr_16 b10 eK11 ?_
    refine v_aload_n C dX9_plain_39 rfl rfl 1 rfl ?_
    refine v_getr C dX9_plain_40 rfl ff_X9_55 sr_0 rfl ?_
    refine v_bipush C dX9_plain_43 rfl bi_110 ?_
    refine v_aload_n C dX9_plain_45 rfl rfl 1 rfl ?_
    refine v_getr C dX9_plain_46 rfl ff_X9_7 sr_0 rfl ?_
    refine v_iconst C dX9_plain_49 rfl ic_2 ?_
    obtain ⟨b12, h⟩ := gdS h
    refine v_iald C dX9_plain_50 rfl sr_1 b12 ?_
    obtain ⟨b13, h⟩ := gdS h
    obtain ⟨K14, eK14, h⟩ := nmS h
    refine v_iast C hD dX9_plain_51 rfl sr_16 b13 eK14 ?_
    refine v_aload_n C dX9_plain_52 rfl rfl 1 rfl ?_
    refine v_iload_n C dX9_plain_53 rfl rfl 0 rfl ?_
    obtain ⟨r17, K16, e15, h⟩ := bd2S h
    refine v_callVi C yv_X9_worked m_1007 (c_X9_worked e15) (Sub.whole hD _ _) ⟨_, _, _, _, _, wd_at sr_0, rfl⟩ (As := [.int r2]) rfl rfl (Nat.le_of_ble_eq_true rfl) ⟨Nat.le_of_ble_eq_true rfl, Nat.le_of_ble_eq_true rfl⟩ dX9_plain_54 rfl ?_
    refine v_bipush C dX9_plain_57 rfl bi_99 ?_
    obtain ⟨r19, e18, h⟩ := bdS h
    refine v_callSi C ys_X9_within m_1014 (c_X9_within e18) (Sub.whole hD _ _) (As := [.int r17, .int 99]) rfl rfl (Nat.le_of_ble_eq_true rfl) ⟨Nat.le_of_ble_eq_true rfl, Nat.le_of_ble_eq_true rfl⟩ dX9_plain_59 rfl ?_
    obtain rfl := Option.some.inj h
    exact RET _ _ dX9_plain_62
  · have h := ifn c3 h
    refine v_bipush C dX9_plain_10 rfl bi_6 ?_
    obtain rfl := Option.some.inj h
    exact RET _ _ dX9_plain_12
def C_X9_plain (a1 : Int32) (K : Mem) : Option (Int32 × Mem) := F_X9_plain_0 a1 K
set_option maxRecDepth 100000 in
theorem c_X9_plain {l : Launch} {D : va_G} {cA : FieldType → ClassId} {X : Ex} {ad : Nat → Nat} {a1 : Int32} {K : Mem} {r : Int32} {K' : Mem} (h : C_X9_plain a1 K = some (r, K')) : MI l D cA X yX9_plain cX9_plain 3 (some .int) 2 47 [.ref (ad 0), .int a1] (wd cA ad K 0 shsR) (wd cA ad K' 0 shsR) r :=
  mI_of (by decide +kernel) (Nat.le_of_ble_eq_true rfl) (fun G h1 h2 h3 h4 C hD RET => by subst h1 h2 h3 h4; exact wF_X9_plain_0 C (fun K' => wd_D K' hD) RET  h)
def F_X9_wears_0 (a1 : Int32) (K : Mem) : Option (Int32 × Mem) :=
  bd2 (C_X9_plain a1 K) fun r3 K2 =>
  bd (C_X9_of K2 a1 0) fun r5 =>
  if r5 = 1 then (
    if r3 ≤ 2 then (
      some (0, K2)
    ) else (
      some (r3 - 2, K2)
    )
  ) else (
    if r5 = 2 then (
      some (2 * r3, K2)
    ) else (
      if r5 = 3 then (
        if r3 ≤ 2 then (
          some (0, K2)
        ) else (
          some (r3 - 2, K2)
        )
      ) else (
        if r5 = 4 then (
          if (2 * r3) ≤ 3 then (
            some (0, K2)
          ) else (
            some ((2 * r3) - 3, K2)
          )
        ) else (
          if r5 = 5 then (
            some (1, K2)
          ) else (
            some (r3, K2)
          )
        )
      )
    )
  )
set_option maxRecDepth 100000 in
set_option maxHeartbeats 4000000 in
theorem wF_X9_wears_0 {G : Ctx} {ad : Nat → Nat} (C : Cx G RX9 cX9_wears 3 3 69) (hD : ∀ K, va_D (gA G) (wd (gC G) ad K 0 shsR)) {res : (Int32 × Mem)} (RET : RI G cX9_wears 3 (wd (gC G) ad res.2 0 shsR) res.1) {a1 : Int32} {K : Mem} (h : F_X9_wears_0 a1 K = some res) : V G 3 (wd (gC G) ad K 0 shsR) 0 [(0, .ref (ad 0)), (1, .int a1)] [] := by
  unfold F_X9_wears_0 at h
  refine v_aload_n C dX9_wears_0 rfl rfl 0 rfl ?_
  refine v_iload_n C dX9_wears_1 rfl rfl 1 rfl ?_
  obtain ⟨r3, K2, e1, h⟩ := bd2S h
  refine v_callVi C yv_X9_plain m_995 (c_X9_plain e1) (Sub.whole hD _ _) ⟨_, _, _, _, _, wd_at sr_0, rfl⟩ (As := [.int a1]) rfl rfl (Nat.le_of_ble_eq_true rfl) ⟨Nat.le_of_ble_eq_true rfl, Nat.le_of_ble_eq_true rfl⟩ dX9_wears_2 rfl ?_
  refine v_istore_n C dX9_wears_5 rfl rfl (by decide) (L' := [(2, .int r3), (0, .ref (ad 0)), (1, .int a1)]) rfl ?_
  refine v_aload_n C dX9_wears_6 rfl rfl 1 rfl ?_
  refine v_iload_n C dX9_wears_7 rfl rfl 2 rfl ?_
  refine v_iconst C dX9_wears_8 rfl ic_0 ?_
  obtain ⟨r5, e4, h⟩ := bdS h
  refine v_callVi C yv_X9_of m_980 (c_X9_of e4) (Sub.whole hD _ _) ⟨_, _, _, _, _, wd_at sr_0, rfl⟩ (As := [.int a1, .int 0]) rfl rfl (Nat.le_of_ble_eq_true rfl) ⟨Nat.le_of_ble_eq_true rfl, Nat.le_of_ble_eq_true rfl⟩ dX9_wears_9 rfl ?_
  by_cases c6 : r5 = 1
  · have h := ifp c6 h
    refine v_tsIn C dX9_wears_12 c6 (by decide) (by decide) (off := 36) (by decide) (tgt := 48) (by decide) ?_
    refine v_iload_n C dX9_wears_48 rfl rfl 0 rfl ?_
    refine v_iconst C dX9_wears_49 rfl ic_2 ?_
    refine v_icmp_le C dX9_wears_50 (tgt := 59) (by decide) rfl (fun c7 => ?_) (fun c7 => ?_)
    · have h := ifp c7 h
      refine v_iconst C dX9_wears_59 rfl ic_0 ?_
      obtain rfl := Option.some.inj h
      exact RET _ _ dX9_wears_60
    · have h := ifn c7 h
      refine v_iload_n C dX9_wears_53 rfl rfl 0 rfl ?_
      refine v_iconst C dX9_wears_54 rfl ic_2 ?_
      refine v_isub C dX9_wears_55 rfl ?_
      refine v_goto C dX9_wears_56 (tgt := 60) (by decide) ?_
      obtain rfl := Option.some.inj h
      exact RET _ _ dX9_wears_60
  · have h := ifn c6 h
    by_cases c8 : r5 = 2
    · have h := ifp c8 h
      refine v_tsIn C dX9_wears_12 c8 (by decide) (by decide) (off := 49) (by decide) (tgt := 61) (by decide) ?_
      refine v_iconst C dX9_wears_61 rfl ic_2 ?_
      refine v_iload_n C dX9_wears_62 rfl rfl 0 rfl ?_
      refine v_imul C dX9_wears_63 rfl ?_
      obtain rfl := Option.some.inj h
      exact RET _ _ dX9_wears_64
    · have h := ifn c8 h
      by_cases c9 : r5 = 3
      · have h := ifp c9 h
        refine v_tsIn C dX9_wears_12 c9 (by decide) (by decide) (off := 36) (by decide) (tgt := 48) (by decide) ?_
        refine v_iload_n C dX9_wears_48 rfl rfl 0 rfl ?_
        refine v_iconst C dX9_wears_49 rfl ic_2 ?_
        refine v_icmp_le C dX9_wears_50 (tgt := 59) (by decide) rfl (fun c10 => ?_) (fun c10 => ?_)
        · have h := ifp c10 h
          refine v_iconst C dX9_wears_59 rfl ic_0 ?_
          obtain rfl := Option.some.inj h
          exact RET _ _ dX9_wears_60
        · have h := ifn c10 h
          refine v_iload_n C dX9_wears_53 rfl rfl 0 rfl ?_
          refine v_iconst C dX9_wears_54 rfl ic_2 ?_
          refine v_isub C dX9_wears_55 rfl ?_
          refine v_goto C dX9_wears_56 (tgt := 60) (by decide) ?_
          obtain rfl := Option.some.inj h
          exact RET _ _ dX9_wears_60
      · have h := ifn c9 h
        by_cases c11 : r5 = 4
        · have h := ifp c11 h
          refine v_tsIn C dX9_wears_12 c11 (by decide) (by decide) (off := 53) (by decide) (tgt := 65) (by decide) ?_
          refine v_iconst C dX9_wears_65 rfl ic_2 ?_
          refine v_iload_n C dX9_wears_66 rfl rfl 0 rfl ?_
          refine v_imul C dX9_wears_67 rfl ?_
          refine v_iconst C dX9_wears_68 rfl ic_3 ?_
          refine v_icmp_le C dX9_wears_69 (tgt := 80) (by decide) rfl (fun c12 => ?_) (fun c12 => ?_)
          · have h := ifp c12 h
            refine v_iconst C dX9_wears_80 rfl ic_0 ?_
            obtain rfl := Option.some.inj h
            exact RET _ _ dX9_wears_81
          · have h := ifn c12 h
            refine v_iconst C dX9_wears_72 rfl ic_2 ?_
            refine v_iload_n C dX9_wears_73 rfl rfl 0 rfl ?_
            refine v_imul C dX9_wears_74 rfl ?_
            refine v_iconst C dX9_wears_75 rfl ic_3 ?_
            refine v_isub C dX9_wears_76 rfl ?_
            refine v_goto C dX9_wears_77 (tgt := 81) (by decide) ?_
            obtain rfl := Option.some.inj h
            exact RET _ _ dX9_wears_81
        · have h := ifn c11 h
          by_cases c13 : r5 = 5
          · have h := ifp c13 h
            refine v_tsIn C dX9_wears_12 c13 (by decide) (by decide) (off := 70) (by decide) (tgt := 82) (by decide) ?_
            refine v_iconst C dX9_wears_82 rfl ic_1 ?_
            obtain rfl := Option.some.inj h
            exact RET _ _ dX9_wears_83
          · have h := ifn c13 h
            refine v_tsOut C dX9_wears_12 (by have ec6 := lv_neT c6 (k := 1) (a := 1) (by decide); have ec8 := lv_neT c8 (k := 2) (a := 2) (by decide); have ec9 := lv_neT c9 (k := 3) (a := 3) (by decide); have ec11 := lv_neT c11 (k := 4) (a := 4) (by decide); have ec13 := lv_neT c13 (k := 5) (a := 5) (by decide); omega) (tgt := 84) (by decide) ?_
            refine v_iload_n C dX9_wears_84 rfl rfl 0 rfl ?_
            obtain rfl := Option.some.inj h
            exact RET _ _ dX9_wears_85
def C_X9_wears (a1 : Int32) (K : Mem) : Option (Int32 × Mem) := F_X9_wears_0 a1 K
set_option maxRecDepth 100000 in
theorem c_X9_wears {l : Launch} {D : va_G} {cA : FieldType → ClassId} {X : Ex} {ad : Nat → Nat} {a1 : Int32} {K : Mem} {r : Int32} {K' : Mem} (h : C_X9_wears a1 K = some (r, K')) : MI l D cA X yX9_wears cX9_wears 3 (some .int) 3 69 [.ref (ad 0), .int a1] (wd cA ad K 0 shsR) (wd cA ad K' 0 shsR) r :=
  mI_of (by decide +kernel) (Nat.le_of_ble_eq_true rfl) (fun G h1 h2 h3 h4 C hD RET => by subst h1 h2 h3 h4; exact wF_X9_wears_0 C (fun K' => wd_D K' hD) RET  h)
def F_X9_bears_0 (K : Mem) (a1 : Int32) : Option Int32 :=
  bd (C_X9_of K a1 1) fun r2 =>
  nm (10 * r2) fun v3 =>
  bd (C_X9_of K a1 0) fun r5 =>
  if r5 = 3 then (
    some (v3 + 5)
  ) else (
    bd (C_X9_of K a1 0) fun r8 =>
    if r8 = 4 then (
      some (2 * v3)
    ) else (
      some v3
    )
  )
set_option maxRecDepth 100000 in
set_option maxHeartbeats 4000000 in
theorem wF_X9_bears_0 {G : Ctx} {ad : Nat → Nat} {K : Mem} (C : Cx G RX9 cX9_bears 3 1 22) (hD : ∀ K, va_D (gA G) (wd (gC G) ad K 0 shsR)) {res : Int32} (RET : RI G cX9_bears 3 (wd (gC G) ad K 0 shsR) res) {a1 : Int32} (h : F_X9_bears_0 K a1 = some res) : V G 3 (wd (gC G) ad K 0 shsR) 0 [(0, .ref (ad 0)), (1, .int a1)] [] := by
  unfold F_X9_bears_0 at h
  refine v_bipush C dX9_bears_0 rfl bi_10 ?_
  refine v_aload_n C dX9_bears_2 rfl rfl 0 rfl ?_
  refine v_iload_n C dX9_bears_3 rfl rfl 1 rfl ?_
  refine v_iconst C dX9_bears_4 rfl ic_1 ?_
  obtain ⟨r2, e1, h⟩ := bdS h
  refine v_callVi C yv_X9_of m_980 (c_X9_of e1) (Sub.whole hD _ _) ⟨_, _, _, _, _, wd_at sr_0, rfl⟩ (As := [.int a1, .int 1]) rfl rfl (Nat.le_of_ble_eq_true rfl) ⟨Nat.le_of_ble_eq_true rfl, Nat.le_of_ble_eq_true rfl⟩ dX9_bears_5 rfl ?_
  refine v_imul C dX9_bears_8 rfl ?_
  obtain ⟨v3, ev3, h⟩ := nmS h
  refine v_nmi ev3 ?_
  refine v_istore_n C dX9_bears_9 rfl rfl (by decide) (L' := [(2, .int v3), (0, .ref (ad 0)), (1, .int a1)]) rfl ?_
  refine v_aload_n C dX9_bears_10 rfl rfl 1 rfl ?_
  refine v_iload_n C dX9_bears_11 rfl rfl 2 rfl ?_
  refine v_iconst C dX9_bears_12 rfl ic_0 ?_
  obtain ⟨r5, e4, h⟩ := bdS h
  refine v_callVi C yv_X9_of m_980 (c_X9_of e4) (Sub.whole hD _ _) ⟨_, _, _, _, _, wd_at sr_0, rfl⟩ (As := [.int a1, .int 0]) rfl rfl (Nat.le_of_ble_eq_true rfl) ⟨Nat.le_of_ble_eq_true rfl, Nat.le_of_ble_eq_true rfl⟩ dX9_bears_13 rfl ?_
  refine v_iconst C dX9_bears_16 rfl ic_3 ?_
  refine v_icmp_ne C dX9_bears_17 (tgt := 26) (by decide) rfl (fun c6 => ?_) (fun c6 => ?_)
  · have h := ifn c6 h
    refine v_aload_n C dX9_bears_26 rfl rfl 1 rfl ?_
    refine v_iload_n C dX9_bears_27 rfl rfl 2 rfl ?_
    refine v_iconst C dX9_bears_28 rfl ic_0 ?_
    obtain ⟨r8, e7, h⟩ := bdS h
    refine v_callVi C yv_X9_of m_980 (c_X9_of e7) (Sub.whole hD _ _) ⟨_, _, _, _, _, wd_at sr_0, rfl⟩ (As := [.int a1, .int 0]) rfl rfl (Nat.le_of_ble_eq_true rfl) ⟨Nat.le_of_ble_eq_true rfl, Nat.le_of_ble_eq_true rfl⟩ dX9_bears_29 rfl ?_
    refine v_iconst C dX9_bears_32 rfl ic_4 ?_
    refine v_icmp_ne C dX9_bears_33 (tgt := 42) (by decide) rfl (fun c9 => ?_) (fun c9 => ?_)
    · have h := ifn c9 h
      refine v_iload_n C dX9_bears_42 rfl rfl 0 rfl ?_
      obtain rfl := Option.some.inj h
      exact RET _ _ dX9_bears_43
    · have h := ifp c9 h
      refine v_iconst C dX9_bears_36 rfl ic_2 ?_
      refine v_iload_n C dX9_bears_37 rfl rfl 0 rfl ?_
      refine v_imul C dX9_bears_38 rfl ?_
      refine v_goto C dX9_bears_39 (tgt := 43) (by decide) ?_
      obtain rfl := Option.some.inj h
      exact RET _ _ dX9_bears_43
  · have h := ifp c6 h
    refine v_iload_n C dX9_bears_20 rfl rfl 0 rfl ?_
    refine v_iconst C dX9_bears_21 rfl ic_5 ?_
    refine v_iadd C dX9_bears_22 rfl ?_
    refine v_goto C dX9_bears_23 (tgt := 43) (by decide) ?_
    obtain rfl := Option.some.inj h
    exact RET _ _ dX9_bears_43
def C_X9_bears (K : Mem) (a1 : Int32) : Option Int32 := F_X9_bears_0 K a1
set_option maxRecDepth 100000 in
theorem c_X9_bears {l : Launch} {D : va_G} {cA : FieldType → ClassId} {X : Ex} {ad : Nat → Nat} {a1 : Int32} {K : Mem} {r : Int32} (h : C_X9_bears K a1 = some r) : MI l D cA X yX9_bears cX9_bears 3 (some .int) 1 22 [.ref (ad 0), .int a1] (wd cA ad K 0 shsR) (wd cA ad K 0 shsR) r :=
  mI_of (by decide +kernel) (Nat.le_of_ble_eq_true rfl) (fun G h1 h2 h3 h4 C hD RET => by subst h1 h2 h3 h4; exact wF_X9_bears_0 C (fun K' => wd_D K' hD) RET  h)
def F_X9_worth_0 (K : Mem) (a1 : Int32) : Option Int32 :=
  bd (C_X9_of K a1 1) fun r2 =>
  bd (C_X9_of K a1 0) fun r4 =>
  if r4 = 1 then (
    some (r2 + 4)
  ) else (
    if r4 = 2 then (
      some (50 - r2)
    ) else (
      if r4 = 3 then (
        some (2 * (r2 + 4))
      ) else (
        if r4 = 4 then (
          some (44 - r2)
        ) else (
          if r4 = 5 then (
            some 7
          ) else (
            some r2
          )
        )
      )
    )
  )
set_option maxRecDepth 100000 in
set_option maxHeartbeats 4000000 in
theorem wF_X9_worth_0 {G : Ctx} {ad : Nat → Nat} {K : Mem} (C : Cx G RX9 cX9_worth 3 1 22) (hD : ∀ K, va_D (gA G) (wd (gC G) ad K 0 shsR)) {res : Int32} (RET : RI G cX9_worth 3 (wd (gC G) ad K 0 shsR) res) {a1 : Int32} (h : F_X9_worth_0 K a1 = some res) : V G 3 (wd (gC G) ad K 0 shsR) 0 [(0, .ref (ad 0)), (1, .int a1)] [] := by
  unfold F_X9_worth_0 at h
  refine v_aload_n C dX9_worth_0 rfl rfl 0 rfl ?_
  refine v_iload_n C dX9_worth_1 rfl rfl 1 rfl ?_
  refine v_iconst C dX9_worth_2 rfl ic_1 ?_
  obtain ⟨r2, e1, h⟩ := bdS h
  refine v_callVi C yv_X9_of m_980 (c_X9_of e1) (Sub.whole hD _ _) ⟨_, _, _, _, _, wd_at sr_0, rfl⟩ (As := [.int a1, .int 1]) rfl rfl (Nat.le_of_ble_eq_true rfl) ⟨Nat.le_of_ble_eq_true rfl, Nat.le_of_ble_eq_true rfl⟩ dX9_worth_3 rfl ?_
  refine v_istore_n C dX9_worth_6 rfl rfl (by decide) (L' := [(2, .int r2), (0, .ref (ad 0)), (1, .int a1)]) rfl ?_
  refine v_aload_n C dX9_worth_7 rfl rfl 1 rfl ?_
  refine v_iload_n C dX9_worth_8 rfl rfl 2 rfl ?_
  refine v_iconst C dX9_worth_9 rfl ic_0 ?_
  obtain ⟨r4, e3, h⟩ := bdS h
  refine v_callVi C yv_X9_of m_980 (c_X9_of e3) (Sub.whole hD _ _) ⟨_, _, _, _, _, wd_at sr_0, rfl⟩ (As := [.int a1, .int 0]) rfl rfl (Nat.le_of_ble_eq_true rfl) ⟨Nat.le_of_ble_eq_true rfl, Nat.le_of_ble_eq_true rfl⟩ dX9_worth_10 rfl ?_
  by_cases c5 : r4 = 1
  · have h := ifp c5 h
    refine v_tsIn C dX9_worth_13 c5 (by decide) (by decide) (off := 35) (by decide) (tgt := 48) (by decide) ?_
    refine v_iload_n C dX9_worth_48 rfl rfl 0 rfl ?_
    refine v_iconst C dX9_worth_49 rfl ic_4 ?_
    refine v_iadd C dX9_worth_50 rfl ?_
    obtain rfl := Option.some.inj h
    exact RET _ _ dX9_worth_51
  · have h := ifn c5 h
    by_cases c6 : r4 = 2
    · have h := ifp c6 h
      refine v_tsIn C dX9_worth_13 c6 (by decide) (by decide) (off := 39) (by decide) (tgt := 52) (by decide) ?_
      refine v_bipush C dX9_worth_52 rfl bi_50 ?_
      refine v_iload_n C dX9_worth_54 rfl rfl 0 rfl ?_
      refine v_isub C dX9_worth_55 rfl ?_
      obtain rfl := Option.some.inj h
      exact RET _ _ dX9_worth_56
    · have h := ifn c6 h
      by_cases c7 : r4 = 3
      · have h := ifp c7 h
        refine v_tsIn C dX9_worth_13 c7 (by decide) (by decide) (off := 44) (by decide) (tgt := 57) (by decide) ?_
        refine v_iconst C dX9_worth_57 rfl ic_2 ?_
        refine v_iload_n C dX9_worth_58 rfl rfl 0 rfl ?_
        refine v_iconst C dX9_worth_59 rfl ic_4 ?_
        refine v_iadd C dX9_worth_60 rfl ?_
        refine v_imul C dX9_worth_61 rfl ?_
        obtain rfl := Option.some.inj h
        exact RET _ _ dX9_worth_62
      · have h := ifn c7 h
        by_cases c8 : r4 = 4
        · have h := ifp c8 h
          refine v_tsIn C dX9_worth_13 c8 (by decide) (by decide) (off := 50) (by decide) (tgt := 63) (by decide) ?_
          refine v_bipush C dX9_worth_63 rfl bi_44 ?_
          refine v_iload_n C dX9_worth_65 rfl rfl 0 rfl ?_
          refine v_isub C dX9_worth_66 rfl ?_
          obtain rfl := Option.some.inj h
          exact RET _ _ dX9_worth_67
        · have h := ifn c8 h
          by_cases c9 : r4 = 5
          · have h := ifp c9 h
            refine v_tsIn C dX9_worth_13 c9 (by decide) (by decide) (off := 55) (by decide) (tgt := 68) (by decide) ?_
            refine v_bipush C dX9_worth_68 rfl bi_7 ?_
            obtain rfl := Option.some.inj h
            exact RET _ _ dX9_worth_70
          · have h := ifn c9 h
            refine v_tsOut C dX9_worth_13 (by have ec5 := lv_neT c5 (k := 1) (a := 1) (by decide); have ec6 := lv_neT c6 (k := 2) (a := 2) (by decide); have ec7 := lv_neT c7 (k := 3) (a := 3) (by decide); have ec8 := lv_neT c8 (k := 4) (a := 4) (by decide); have ec9 := lv_neT c9 (k := 5) (a := 5) (by decide); omega) (tgt := 71) (by decide) ?_
            refine v_iload_n C dX9_worth_71 rfl rfl 0 rfl ?_
            obtain rfl := Option.some.inj h
            exact RET _ _ dX9_worth_72
def C_X9_worth (K : Mem) (a1 : Int32) : Option Int32 := F_X9_worth_0 K a1
set_option maxRecDepth 100000 in
theorem c_X9_worth {l : Launch} {D : va_G} {cA : FieldType → ClassId} {X : Ex} {ad : Nat → Nat} {a1 : Int32} {K : Mem} {r : Int32} (h : C_X9_worth K a1 = some r) : MI l D cA X yX9_worth cX9_worth 3 (some .int) 1 22 [.ref (ad 0), .int a1] (wd cA ad K 0 shsR) (wd cA ad K 0 shsR) r :=
  mI_of (by decide +kernel) (Nat.le_of_ble_eq_true rfl) (fun G h1 h2 h3 h4 C hD RET => by subst h1 h2 h3 h4; exact wF_X9_worth_0 C (fun K' => wd_D K' hD) RET  h)
def F_X9_holding_0 (a1 : Int32) (K : Mem) : Option (Int32 × Mem) :=
  bd2 (C_X9_holds K) fun r3 K2 =>
  if 0 ≤ r3 then (
    gd (inb a1 12) <|
    some (K2 12 (Int32.toNatClampNeg a1), K2)
  ) else (
    some (0, K2)
  )
set_option maxRecDepth 100000 in
set_option maxHeartbeats 4000000 in
theorem wF_X9_holding_0 {G : Ctx} {ad : Nat → Nat} (C : Cx G RX9 cX9_holding 3 3 69) (hD : ∀ K, va_D (gA G) (wd (gC G) ad K 0 shsR)) {res : (Int32 × Mem)} (RET : RI G cX9_holding 3 (wd (gC G) ad res.2 0 shsR) res.1) {a1 : Int32} {K : Mem} (h : F_X9_holding_0 a1 K = some res) : V G 3 (wd (gC G) ad K 0 shsR) 0 [(0, .ref (ad 0)), (1, .int a1)] [] := by
  unfold F_X9_holding_0 at h
  refine v_aload_n C dX9_holding_0 rfl rfl 0 rfl ?_
  obtain ⟨r3, K2, e1, h⟩ := bd2S h
  refine v_callVi C yv_X9_holds m_976 (c_X9_holds e1) (Sub.whole hD _ _) ⟨_, _, _, _, _, wd_at sr_0, rfl⟩ (As := []) rfl rfl (Nat.le_of_ble_eq_true rfl) ⟨Nat.le_of_ble_eq_true rfl, Nat.le_of_ble_eq_true rfl⟩ dX9_holding_1 rfl ?_
  refine v_istore_n C dX9_holding_4 rfl rfl (by decide) (L' := [(2, .int r3), (0, .ref (ad 0)), (1, .int a1)]) rfl ?_
  refine v_iload_n C dX9_holding_5 rfl rfl 0 rfl ?_
  refine v_if_ge C dX9_holding_6 (tgt := 13) (by decide) rfl (fun c4 => ?_) (fun c4 => ?_)
  · have h := ifp c4 h
    refine v_aload_n C dX9_holding_13 rfl rfl 1 rfl ?_
    refine v_getr C dX9_holding_14 rfl ff_X9_43 sr_0 rfl ?_
    refine v_iload_n C dX9_holding_17 rfl rfl 2 rfl ?_
    obtain ⟨b5, h⟩ := gdS h
    refine v_iald C dX9_holding_18 rfl sr_12 b5 ?_
    obtain rfl := Option.some.inj h
    exact RET _ _ dX9_holding_19
  · have h := ifn c4 h
    refine v_iconst C dX9_holding_9 rfl ic_0 ?_
    refine v_goto C dX9_holding_10 (tgt := 19) (by decide) ?_
    obtain rfl := Option.some.inj h
    exact RET _ _ dX9_holding_19
def C_X9_holding (a1 : Int32) (K : Mem) : Option (Int32 × Mem) := F_X9_holding_0 a1 K
set_option maxRecDepth 100000 in
theorem c_X9_holding {l : Launch} {D : va_G} {cA : FieldType → ClassId} {X : Ex} {ad : Nat → Nat} {a1 : Int32} {K : Mem} {r : Int32} {K' : Mem} (h : C_X9_holding a1 K = some (r, K')) : MI l D cA X yX9_holding cX9_holding 3 (some .int) 3 69 [.ref (ad 0), .int a1] (wd cA ad K 0 shsR) (wd cA ad K' 0 shsR) r :=
  mI_of (by decide +kernel) (Nat.le_of_ble_eq_true rfl) (fun G h1 h2 h3 h4 C hD RET => by subst h1 h2 h3 h4; exact wF_X9_holding_0 C (fun K' => wd_D K' hD) RET  h)
def F_X9_told_0 (a1 : Int32) (a2 : Int32) (K : Mem) : Option (Int32 × Mem) :=
  bd (C_X9_isCourse K a1) fun r2 =>
  if r2 = 0 then (
    some ((-1000000001), K)
  ) else (
    bd (C_X9_isIn (Int32.toInt64 a2) 0 7) fun r5 =>
    if r5 = 0 then (
      some ((-1000000001), K)
    ) else (
      if a2 = 4 then (
        bd2 (C_X9_holding a1 K) fun r10 K9 =>
        some (r10, K9)
      ) else (
        if a2 = 5 then (
          bd2 (C_X9_wears a1 K) fun r14 K13 =>
          some (r14, K13)
        ) else (
          if a2 = 6 then (
            bd (C_X9_bears K a1) fun r17 =>
            some (r17, K)
          ) else (
            if a2 = 7 then (
              bd (C_X9_worth K a1) fun r20 =>
              some (r20, K)
            ) else (
              bd (C_X9_of K a1 a2) fun r22 =>
              some (r22, K)
            )
          )
        )
      )
    )
  )
set_option maxRecDepth 100000 in
set_option maxHeartbeats 4000000 in
theorem wF_X9_told_0 {G : Ctx} {ad : Nat → Nat} (C : Cx G RX9 cX9_told 3 4 91) (hD : ∀ K, va_D (gA G) (wd (gC G) ad K 0 shsR)) {res : (Int32 × Mem)} (RET : RI G cX9_told 3 (wd (gC G) ad res.2 0 shsR) res.1) {a1 : Int32} {a2 : Int32} {K : Mem} (h : F_X9_told_0 a1 a2 K = some res) : V G 3 (wd (gC G) ad K 0 shsR) 0 [(0, .ref (ad 0)), (1, .int a1), (2, .int a2)] [] := by
  unfold F_X9_told_0 at h
  refine v_aload_n C dX9_told_0 rfl rfl 0 rfl ?_
  refine v_iload_n C dX9_told_1 rfl rfl 1 rfl ?_
  obtain ⟨r2, e1, h⟩ := bdS h
  refine v_callVi C yv_X9_isCourse m_967 (c_X9_isCourse e1) (Sub.whole hD _ _) ⟨_, _, _, _, _, wd_at sr_0, rfl⟩ (As := [.int a1]) rfl rfl (Nat.le_of_ble_eq_true rfl) ⟨Nat.le_of_ble_eq_true rfl, Nat.le_of_ble_eq_true rfl⟩ dX9_told_2 rfl ?_
  refine v_if_eq C dX9_told_5 (tgt := 20) (by decide) rfl (fun c3 => ?_) (fun c3 => ?_)
  · have h := ifp c3 h
    refine v_ldc C dX9_told_20 rfl m_953 ?_
    obtain rfl := Option.some.inj h
    exact RET _ _ dX9_told_22
  · have h := ifn c3 h
    refine v_iload_n C dX9_told_8 rfl rfl 2 rfl ?_
    refine v_i2l C dX9_told_9 rfl ?_
    refine v_lconst C dX9_told_10 rfl (v := 0) (by decide) ?_
    refine v_ldc2 C dX9_told_11 rfl m_971 ?_
    obtain ⟨r5, e4, h⟩ := bdS h
    refine v_callSi C ys_X9_isIn m_949 (c_X9_isIn e4) (Sub.whole hD _ _) (As := [.long (Int32.toInt64 a2), .long 0, .long 7]) rfl rfl (Nat.le_of_ble_eq_true rfl) ⟨Nat.le_of_ble_eq_true rfl, Nat.le_of_ble_eq_true rfl⟩ dX9_told_14 rfl ?_
    refine v_if_ne C dX9_told_17 (tgt := 23) (by decide) rfl (fun c6 => ?_) (fun c6 => ?_)
    · have h := ifn c6 h
      refine v_iload_n C dX9_told_23 rfl rfl 2 rfl ?_
      by_cases c7 : a2 = 4
      · have h := ifp c7 h
        refine v_tsIn C dX9_told_24 c7 (by decide) (by decide) (off := 32) (by decide) (tgt := 56) (by decide) ?_
        refine v_aload_n C dX9_told_56 rfl rfl 0 rfl ?_
        refine v_iload_n C dX9_told_57 rfl rfl 1 rfl ?_
        obtain ⟨r10, K9, e8, h⟩ := bd2S h
        refine v_callVi C yv_X9_holding m_972 (c_X9_holding e8) (Sub.whole hD _ _) ⟨_, _, _, _, _, wd_at sr_0, rfl⟩ (As := [.int a1]) rfl rfl (Nat.le_of_ble_eq_true rfl) ⟨Nat.le_of_ble_eq_true rfl, Nat.le_of_ble_eq_true rfl⟩ dX9_told_58 rfl ?_
        obtain rfl := Option.some.inj h
        exact RET _ _ dX9_told_61
      · have h := ifn c7 h
        by_cases c11 : a2 = 5
        · have h := ifp c11 h
          refine v_tsIn C dX9_told_24 c11 (by decide) (by decide) (off := 38) (by decide) (tgt := 62) (by decide) ?_
          refine v_aload_n C dX9_told_62 rfl rfl 0 rfl ?_
          refine v_iload_n C dX9_told_63 rfl rfl 1 rfl ?_
          obtain ⟨r14, K13, e12, h⟩ := bd2S h
          refine v_callVi C yv_X9_wears m_991 (c_X9_wears e12) (Sub.whole hD _ _) ⟨_, _, _, _, _, wd_at sr_0, rfl⟩ (As := [.int a1]) rfl rfl (Nat.le_of_ble_eq_true rfl) ⟨Nat.le_of_ble_eq_true rfl, Nat.le_of_ble_eq_true rfl⟩ dX9_told_64 rfl ?_
          obtain rfl := Option.some.inj h
          exact RET _ _ dX9_told_67
        · have h := ifn c11 h
          by_cases c15 : a2 = 6
          · have h := ifp c15 h
            refine v_tsIn C dX9_told_24 c15 (by decide) (by decide) (off := 44) (by decide) (tgt := 68) (by decide) ?_
            refine v_aload_n C dX9_told_68 rfl rfl 0 rfl ?_
            refine v_iload_n C dX9_told_69 rfl rfl 1 rfl ?_
            obtain ⟨r17, e16, h⟩ := bdS h
            refine v_callVi C yv_X9_bears m_1017 (c_X9_bears e16) (Sub.whole hD _ _) ⟨_, _, _, _, _, wd_at sr_0, rfl⟩ (As := [.int a1]) rfl rfl (Nat.le_of_ble_eq_true rfl) ⟨Nat.le_of_ble_eq_true rfl, Nat.le_of_ble_eq_true rfl⟩ dX9_told_70 rfl ?_
            obtain rfl := Option.some.inj h
            exact RET _ _ dX9_told_73
          · have h := ifn c15 h
            by_cases c18 : a2 = 7
            · have h := ifp c18 h
              refine v_tsIn C dX9_told_24 c18 (by decide) (by decide) (off := 50) (by decide) (tgt := 74) (by decide) ?_
              refine v_aload_n C dX9_told_74 rfl rfl 0 rfl ?_
              refine v_iload_n C dX9_told_75 rfl rfl 1 rfl ?_
              obtain ⟨r20, e19, h⟩ := bdS h
              refine v_callVi C yv_X9_worth m_1021 (c_X9_worth e19) (Sub.whole hD _ _) ⟨_, _, _, _, _, wd_at sr_0, rfl⟩ (As := [.int a1]) rfl rfl (Nat.le_of_ble_eq_true rfl) ⟨Nat.le_of_ble_eq_true rfl, Nat.le_of_ble_eq_true rfl⟩ dX9_told_76 rfl ?_
              obtain rfl := Option.some.inj h
              exact RET _ _ dX9_told_79
            · have h := ifn c18 h
              refine v_tsOut C dX9_told_24 (by have ec7 := lv_neT c7 (k := 4) (a := 4) (by decide); have ec11 := lv_neT c11 (k := 5) (a := 5) (by decide); have ec15 := lv_neT c15 (k := 6) (a := 6) (by decide); have ec18 := lv_neT c18 (k := 7) (a := 7) (by decide); omega) (tgt := 80) (by decide) ?_
              refine v_aload_n C dX9_told_80 rfl rfl 0 rfl ?_
              refine v_iload_n C dX9_told_81 rfl rfl 1 rfl ?_
              refine v_iload_n C dX9_told_82 rfl rfl 2 rfl ?_
              obtain ⟨r22, e21, h⟩ := bdS h
              refine v_callVi C yv_X9_of m_980 (c_X9_of e21) (Sub.whole hD _ _) ⟨_, _, _, _, _, wd_at sr_0, rfl⟩ (As := [.int a1, .int a2]) rfl rfl (Nat.le_of_ble_eq_true rfl) ⟨Nat.le_of_ble_eq_true rfl, Nat.le_of_ble_eq_true rfl⟩ dX9_told_83 rfl ?_
              obtain rfl := Option.some.inj h
              exact RET _ _ dX9_told_86
    · have h := ifp c6 h
      refine v_ldc C dX9_told_20 rfl m_953 ?_
      obtain rfl := Option.some.inj h
      exact RET _ _ dX9_told_22
def C_X9_told (a1 : Int32) (a2 : Int32) (K : Mem) : Option (Int32 × Mem) := F_X9_told_0 a1 a2 K
set_option maxRecDepth 100000 in
theorem c_X9_told {l : Launch} {D : va_G} {cA : FieldType → ClassId} {X : Ex} {ad : Nat → Nat} {a1 : Int32} {a2 : Int32} {K : Mem} {r : Int32} {K' : Mem} (h : C_X9_told a1 a2 K = some (r, K')) : MI l D cA X yX9_told cX9_told 3 (some .int) 4 91 [.ref (ad 0), .int a1, .int a2] (wd cA ad K 0 shsR) (wd cA ad K' 0 shsR) r :=
  mI_of (by decide +kernel) (Nat.le_of_ble_eq_true rfl) (fun G h1 h2 h3 h4 C hD RET => by subst h1 h2 h3 h4; exact wF_X9_told_0 C (fun K' => wd_D K' hD) RET  h)
def F_X9_as_0 (K : Mem) (a1 : Int32) (a2 : Int32) : Option Int32 :=
  bd (C_X9_isCourse K a1) fun r2 =>
  if r2 = 0 then (
    some (-1000000001)
  ) else (
    bd (C_X9_isIn (Int32.toInt64 a2) 0 5) fun r5 =>
    if r5 = 0 then (
      some (-1000000001)
    ) else (
      bd (C_X9_of K a1 0) fun r8 =>
      bd (C_X9_isOf r8 a2) fun r10 =>
      if r10 = 0 then (
        some (-1000000012)
      ) else (
        bd (C_X9_of K a1 2) fun r13 =>
        some r13
      )
    )
  )
set_option maxRecDepth 100000 in
set_option maxHeartbeats 4000000 in
theorem wF_X9_as_0 {G : Ctx} {ad : Nat → Nat} {K : Mem} (C : Cx G RX9 cX9_as 3 2 46) (hD : ∀ K, va_D (gA G) (wd (gC G) ad K 0 shsR)) {res : Int32} (RET : RI G cX9_as 3 (wd (gC G) ad K 0 shsR) res) {a1 : Int32} {a2 : Int32} (h : F_X9_as_0 K a1 a2 = some res) : V G 3 (wd (gC G) ad K 0 shsR) 0 [(0, .ref (ad 0)), (1, .int a1), (2, .int a2)] [] := by
  unfold F_X9_as_0 at h
  refine v_aload_n C dX9_as_0 rfl rfl 0 rfl ?_
  refine v_iload_n C dX9_as_1 rfl rfl 1 rfl ?_
  obtain ⟨r2, e1, h⟩ := bdS h
  refine v_callVi C yv_X9_isCourse m_967 (c_X9_isCourse e1) (Sub.whole hD _ _) ⟨_, _, _, _, _, wd_at sr_0, rfl⟩ (As := [.int a1]) rfl rfl (Nat.le_of_ble_eq_true rfl) ⟨Nat.le_of_ble_eq_true rfl, Nat.le_of_ble_eq_true rfl⟩ dX9_as_2 rfl ?_
  refine v_if_eq C dX9_as_5 (tgt := 20) (by decide) rfl (fun c3 => ?_) (fun c3 => ?_)
  · have h := ifp c3 h
    refine v_ldc C dX9_as_20 rfl m_953 ?_
    obtain rfl := Option.some.inj h
    exact RET _ _ dX9_as_22
  · have h := ifn c3 h
    refine v_iload_n C dX9_as_8 rfl rfl 2 rfl ?_
    refine v_i2l C dX9_as_9 rfl ?_
    refine v_lconst C dX9_as_10 rfl (v := 0) (by decide) ?_
    refine v_ldc2 C dX9_as_11 rfl m_948 ?_
    obtain ⟨r5, e4, h⟩ := bdS h
    refine v_callSi C ys_X9_isIn m_949 (c_X9_isIn e4) (Sub.whole hD _ _) (As := [.long (Int32.toInt64 a2), .long 0, .long 5]) rfl rfl (Nat.le_of_ble_eq_true rfl) ⟨Nat.le_of_ble_eq_true rfl, Nat.le_of_ble_eq_true rfl⟩ dX9_as_14 rfl ?_
    refine v_if_ne C dX9_as_17 (tgt := 23) (by decide) rfl (fun c6 => ?_) (fun c6 => ?_)
    · have h := ifn c6 h
      refine v_aload_n C dX9_as_23 rfl rfl 0 rfl ?_
      refine v_iload_n C dX9_as_24 rfl rfl 1 rfl ?_
      refine v_iconst C dX9_as_25 rfl ic_0 ?_
      obtain ⟨r8, e7, h⟩ := bdS h
      refine v_callVi C yv_X9_of m_980 (c_X9_of e7) (Sub.whole hD _ _) ⟨_, _, _, _, _, wd_at sr_0, rfl⟩ (As := [.int a1, .int 0]) rfl rfl (Nat.le_of_ble_eq_true rfl) ⟨Nat.le_of_ble_eq_true rfl, Nat.le_of_ble_eq_true rfl⟩ dX9_as_26 rfl ?_
      refine v_iload_n C dX9_as_29 rfl rfl 2 rfl ?_
      obtain ⟨r10, e9, h⟩ := bdS h
      refine v_callSi C ys_X9_isOf m_1029 (c_X9_isOf e9) (Sub.whole hD _ _) (As := [.int r8, .int a2]) rfl rfl (Nat.le_of_ble_eq_true rfl) ⟨Nat.le_of_ble_eq_true rfl, Nat.le_of_ble_eq_true rfl⟩ dX9_as_30 rfl ?_
      refine v_if_eq C dX9_as_33 (tgt := 45) (by decide) rfl (fun c11 => ?_) (fun c11 => ?_)
      · have h := ifp c11 h
        refine v_ldc C dX9_as_45 rfl m_1032 ?_
        obtain rfl := Option.some.inj h
        exact RET _ _ dX9_as_47
      · have h := ifn c11 h
        refine v_aload_n C dX9_as_36 rfl rfl 0 rfl ?_
        refine v_iload_n C dX9_as_37 rfl rfl 1 rfl ?_
        refine v_iconst C dX9_as_38 rfl ic_2 ?_
        obtain ⟨r13, e12, h⟩ := bdS h
        refine v_callVi C yv_X9_of m_980 (c_X9_of e12) (Sub.whole hD _ _) ⟨_, _, _, _, _, wd_at sr_0, rfl⟩ (As := [.int a1, .int 2]) rfl rfl (Nat.le_of_ble_eq_true rfl) ⟨Nat.le_of_ble_eq_true rfl, Nat.le_of_ble_eq_true rfl⟩ dX9_as_39 rfl ?_
        refine v_goto C dX9_as_42 (tgt := 47) (by decide) ?_
        obtain rfl := Option.some.inj h
        exact RET _ _ dX9_as_47
    · have h := ifp c6 h
      refine v_ldc C dX9_as_20 rfl m_953 ?_
      obtain rfl := Option.some.inj h
      exact RET _ _ dX9_as_22
def C_X9_as (K : Mem) (a1 : Int32) (a2 : Int32) : Option Int32 := F_X9_as_0 K a1 a2
set_option maxRecDepth 100000 in
theorem c_X9_as {l : Launch} {D : va_G} {cA : FieldType → ClassId} {X : Ex} {ad : Nat → Nat} {a1 : Int32} {a2 : Int32} {K : Mem} {r : Int32} (h : C_X9_as K a1 a2 = some r) : MI l D cA X yX9_as cX9_as 3 (some .int) 2 46 [.ref (ad 0), .int a1, .int a2] (wd cA ad K 0 shsR) (wd cA ad K 0 shsR) r :=
  mI_of (by decide +kernel) (Nat.le_of_ble_eq_true rfl) (fun G h1 h2 h3 h4 C hD RET => by subst h1 h2 h3 h4; exact wF_X9_as_0 C (fun K' => wd_D K' hD) RET  h)
def F_X9_turns_0 (a1 : Int32) (a2 : Int32) (K : Mem) : Option (Int32 × Mem) :=
  bd (C_X9_isCourse K a1) fun r2 =>
  if r2 = 0 then (
    some ((-1000000001), K)
  ) else (
    bd (C_X9_isIn (Int32.toInt64 a2) 0 5) fun r5 =>
    if r5 = 0 then (
      some ((-1000000001), K)
    ) else (
      bd2 (C_X9_changes (10 + (4 * a1)) a2 K) fun r9 K8 =>
      some (r9, K8)
    )
  )
set_option maxRecDepth 100000 in
set_option maxHeartbeats 4000000 in
theorem wF_X9_turns_0 {G : Ctx} {ad : Nat → Nat} (C : Cx G RX9 cX9_turns 3 2 46) (hD : ∀ K, va_D (gA G) (wd (gC G) ad K 0 shsR)) {res : (Int32 × Mem)} (RET : RI G cX9_turns 3 (wd (gC G) ad res.2 0 shsR) res.1) {a1 : Int32} {a2 : Int32} {K : Mem} (h : F_X9_turns_0 a1 a2 K = some res) : V G 3 (wd (gC G) ad K 0 shsR) 0 [(0, .ref (ad 0)), (1, .int a1), (2, .int a2)] [] := by
  unfold F_X9_turns_0 at h
  refine v_aload_n C dX9_turns_0 rfl rfl 0 rfl ?_
  refine v_iload_n C dX9_turns_1 rfl rfl 1 rfl ?_
  obtain ⟨r2, e1, h⟩ := bdS h
  refine v_callVi C yv_X9_isCourse m_967 (c_X9_isCourse e1) (Sub.whole hD _ _) ⟨_, _, _, _, _, wd_at sr_0, rfl⟩ (As := [.int a1]) rfl rfl (Nat.le_of_ble_eq_true rfl) ⟨Nat.le_of_ble_eq_true rfl, Nat.le_of_ble_eq_true rfl⟩ dX9_turns_2 rfl ?_
  refine v_if_eq C dX9_turns_5 (tgt := 34) (by decide) rfl (fun c3 => ?_) (fun c3 => ?_)
  · have h := ifp c3 h
    refine v_ldc C dX9_turns_34 rfl m_953 ?_
    obtain rfl := Option.some.inj h
    exact RET _ _ dX9_turns_36
  · have h := ifn c3 h
    refine v_iload_n C dX9_turns_8 rfl rfl 2 rfl ?_
    refine v_i2l C dX9_turns_9 rfl ?_
    refine v_lconst C dX9_turns_10 rfl (v := 0) (by decide) ?_
    refine v_ldc2 C dX9_turns_11 rfl m_948 ?_
    obtain ⟨r5, e4, h⟩ := bdS h
    refine v_callSi C ys_X9_isIn m_949 (c_X9_isIn e4) (Sub.whole hD _ _) (As := [.long (Int32.toInt64 a2), .long 0, .long 5]) rfl rfl (Nat.le_of_ble_eq_true rfl) ⟨Nat.le_of_ble_eq_true rfl, Nat.le_of_ble_eq_true rfl⟩ dX9_turns_14 rfl ?_
    refine v_if_eq C dX9_turns_17 (tgt := 34) (by decide) rfl (fun c6 => ?_) (fun c6 => ?_)
    · have h := ifp c6 h
      refine v_ldc C dX9_turns_34 rfl m_953 ?_
      obtain rfl := Option.some.inj h
      exact RET _ _ dX9_turns_36
    · have h := ifn c6 h
      refine v_aload_n C dX9_turns_20 rfl rfl 0 rfl ?_
      refine v_bipush C dX9_turns_21 rfl bi_10 ?_
      refine v_iconst C dX9_turns_23 rfl ic_4 ?_
      refine v_iload_n C dX9_turns_24 rfl rfl 1 rfl ?_
      refine v_imul C dX9_turns_25 rfl ?_
      refine v_iadd C dX9_turns_26 rfl ?_
      refine v_iload_n C dX9_turns_27 rfl rfl 2 rfl ?_
      obtain ⟨r9, K8, e7, h⟩ := bd2S h
      refine v_callVi C yv_X9_changes m_1037 (c_X9_changes e7) (Sub.whole hD _ _) ⟨_, _, _, _, _, wd_at sr_0, rfl⟩ (As := [.int (10 + (4 * a1)), .int a2]) rfl rfl (Nat.le_of_ble_eq_true rfl) ⟨Nat.le_of_ble_eq_true rfl, Nat.le_of_ble_eq_true rfl⟩ dX9_turns_28 rfl ?_
      refine v_goto C dX9_turns_31 (tgt := 36) (by decide) ?_
      obtain rfl := Option.some.inj h
      exact RET _ _ dX9_turns_36
def C_X9_turns (a1 : Int32) (a2 : Int32) (K : Mem) : Option (Int32 × Mem) := F_X9_turns_0 a1 a2 K
set_option maxRecDepth 100000 in
theorem c_X9_turns {l : Launch} {D : va_G} {cA : FieldType → ClassId} {X : Ex} {ad : Nat → Nat} {a1 : Int32} {a2 : Int32} {K : Mem} {r : Int32} {K' : Mem} (h : C_X9_turns a1 a2 K = some (r, K')) : MI l D cA X yX9_turns cX9_turns 3 (some .int) 2 46 [.ref (ad 0), .int a1, .int a2] (wd cA ad K 0 shsR) (wd cA ad K' 0 shsR) r :=
  mI_of (by decide +kernel) (Nat.le_of_ble_eq_true rfl) (fun G h1 h2 h3 h4 C hD RET => by subst h1 h2 h3 h4; exact wF_X9_turns_0 C (fun K' => wd_D K' hD) RET  h)
def F_X9_set_55 (a1 : Int32) (a2 : Int32) (a3 : Int32) (K : Mem) : Option (Int32 × Mem) :=
  bd2 (C_X9_changes ((10 + (4 * a1)) + a2) a3 K) fun r16 K15 =>
  some (r16, K15)
set_option maxRecDepth 100000 in
set_option maxHeartbeats 4000000 in
theorem wF_X9_set_55 {G : Ctx} {ad : Nat → Nat} (C : Cx G RX9 cX9_set 4 2 46) (hD : ∀ K, va_D (gA G) (wd (gC G) ad K 0 shsR)) {res : (Int32 × Mem)} (RET : RI G cX9_set 4 (wd (gC G) ad res.2 0 shsR) res.1) {a1 : Int32} {a2 : Int32} {a3 : Int32} {K : Mem} (h : F_X9_set_55 a1 a2 a3 K = some res) : V G 4 (wd (gC G) ad K 0 shsR) 55 [(0, .ref (ad 0)), (1, .int a1), (2, .int a2), (3, .int a3)] [] := by
  unfold F_X9_set_55 at h
  refine v_aload_n C dX9_set_55 rfl rfl 0 rfl ?_
  refine v_bipush C dX9_set_56 rfl bi_10 ?_
  refine v_iconst C dX9_set_58 rfl ic_4 ?_
  refine v_iload_n C dX9_set_59 rfl rfl 1 rfl ?_
  refine v_imul C dX9_set_60 rfl ?_
  refine v_iadd C dX9_set_61 rfl ?_
  refine v_iload_n C dX9_set_62 rfl rfl 2 rfl ?_
  refine v_iadd C dX9_set_63 rfl ?_
  refine v_iload_n C dX9_set_64 rfl rfl 3 rfl ?_
  obtain ⟨r16, K15, e14, h⟩ := bd2S h
  refine v_callVi C yv_X9_changes m_1037 (c_X9_changes e14) (Sub.whole hD _ _) ⟨_, _, _, _, _, wd_at sr_0, rfl⟩ (As := [.int ((10 + (4 * a1)) + a2), .int a3]) rfl rfl (Nat.le_of_ble_eq_true rfl) ⟨Nat.le_of_ble_eq_true rfl, Nat.le_of_ble_eq_true rfl⟩ dX9_set_65 rfl ?_
  obtain rfl := Option.some.inj h
  exact RET _ _ dX9_set_68
def F_X9_set_0 (a1 : Int32) (a2 : Int32) (a3 : Int32) (K : Mem) : Option (Int32 × Mem) :=
  bd (C_X9_isCourse K a1) fun r2 =>
  if r2 = 0 then (
    some ((-1000000001), K)
  ) else (
    bd (C_X9_isIn (Int32.toInt64 a2) 1 2) fun r5 =>
    if r5 = 0 then (
      some ((-1000000001), K)
    ) else (
      if a2 = 1 then (
        bd (C_X9_isIn (Int32.toInt64 a3) 1 9) fun r12 =>
        if r12 = 0 then (
          some ((-1000000001), K)
        ) else (
          F_X9_set_55 a1 a2 a3 K
        )
      ) else (
        bd (C_X9_isIn (Int32.toInt64 a3) 0 99) fun r9 =>
        if r9 = 0 then (
          some ((-1000000001), K)
        ) else (
          F_X9_set_55 a1 a2 a3 K
        )
      )
    )
  )
set_option maxRecDepth 100000 in
set_option maxHeartbeats 4000000 in
theorem wF_X9_set_0 {G : Ctx} {ad : Nat → Nat} (C : Cx G RX9 cX9_set 4 2 46) (hD : ∀ K, va_D (gA G) (wd (gC G) ad K 0 shsR)) {res : (Int32 × Mem)} (RET : RI G cX9_set 4 (wd (gC G) ad res.2 0 shsR) res.1) {a1 : Int32} {a2 : Int32} {a3 : Int32} {K : Mem} (h : F_X9_set_0 a1 a2 a3 K = some res) : V G 4 (wd (gC G) ad K 0 shsR) 0 [(0, .ref (ad 0)), (1, .int a1), (2, .int a2), (3, .int a3)] [] := by
  unfold F_X9_set_0 at h
  refine v_aload_n C dX9_set_0 rfl rfl 0 rfl ?_
  refine v_iload_n C dX9_set_1 rfl rfl 1 rfl ?_
  obtain ⟨r2, e1, h⟩ := bdS h
  refine v_callVi C yv_X9_isCourse m_967 (c_X9_isCourse e1) (Sub.whole hD _ _) ⟨_, _, _, _, _, wd_at sr_0, rfl⟩ (As := [.int a1]) rfl rfl (Nat.le_of_ble_eq_true rfl) ⟨Nat.le_of_ble_eq_true rfl, Nat.le_of_ble_eq_true rfl⟩ dX9_set_2 rfl ?_
  refine v_if_eq C dX9_set_5 (tgt := 52) (by decide) rfl (fun c3 => ?_) (fun c3 => ?_)
  · have h := ifp c3 h
    refine v_ldc C dX9_set_52 rfl m_953 ?_
    obtain rfl := Option.some.inj h
    exact RET _ _ dX9_set_54
  · have h := ifn c3 h
    refine v_iload_n C dX9_set_8 rfl rfl 2 rfl ?_
    refine v_i2l C dX9_set_9 rfl ?_
    refine v_lconst C dX9_set_10 rfl (v := 1) (by decide) ?_
    refine v_ldc2 C dX9_set_11 rfl m_1045 ?_
    obtain ⟨r5, e4, h⟩ := bdS h
    refine v_callSi C ys_X9_isIn m_949 (c_X9_isIn e4) (Sub.whole hD _ _) (As := [.long (Int32.toInt64 a2), .long 1, .long 2]) rfl rfl (Nat.le_of_ble_eq_true rfl) ⟨Nat.le_of_ble_eq_true rfl, Nat.le_of_ble_eq_true rfl⟩ dX9_set_14 rfl ?_
    refine v_if_eq C dX9_set_17 (tgt := 52) (by decide) rfl (fun c6 => ?_) (fun c6 => ?_)
    · have h := ifp c6 h
      refine v_ldc C dX9_set_52 rfl m_953 ?_
      obtain rfl := Option.some.inj h
      exact RET _ _ dX9_set_54
    · have h := ifn c6 h
      refine v_iload_n C dX9_set_20 rfl rfl 2 rfl ?_
      refine v_iconst C dX9_set_21 rfl ic_1 ?_
      refine v_icmp_ne C dX9_set_22 (tgt := 40) (by decide) rfl (fun c7 => ?_) (fun c7 => ?_)
      · have h := ifn c7 h
        refine v_iload_n C dX9_set_40 rfl rfl 3 rfl ?_
        refine v_i2l C dX9_set_41 rfl ?_
        refine v_lconst C dX9_set_42 rfl (v := 0) (by decide) ?_
        refine v_ldc2 C dX9_set_43 rfl m_1046 ?_
        obtain ⟨r9, e8, h⟩ := bdS h
        refine v_callSi C ys_X9_isIn m_949 (c_X9_isIn e8) (Sub.whole hD _ _) (As := [.long (Int32.toInt64 a3), .long 0, .long 99]) rfl rfl (Nat.le_of_ble_eq_true rfl) ⟨Nat.le_of_ble_eq_true rfl, Nat.le_of_ble_eq_true rfl⟩ dX9_set_46 rfl ?_
        refine v_if_ne C dX9_set_49 (tgt := 55) (by decide) rfl (fun c10 => ?_) (fun c10 => ?_)
        · have h := ifn c10 h
          exact wF_X9_set_55 C hD RET h
        · have h := ifp c10 h
          refine v_ldc C dX9_set_52 rfl m_953 ?_
          obtain rfl := Option.some.inj h
          exact RET _ _ dX9_set_54
      · have h := ifp c7 h
        refine v_iload_n C dX9_set_25 rfl rfl 3 rfl ?_
        refine v_i2l C dX9_set_26 rfl ?_
        refine v_lconst C dX9_set_27 rfl (v := 1) (by decide) ?_
        refine v_ldc2 C dX9_set_28 rfl m_952 ?_
        obtain ⟨r12, e11, h⟩ := bdS h
        refine v_callSi C ys_X9_isIn m_949 (c_X9_isIn e11) (Sub.whole hD _ _) (As := [.long (Int32.toInt64 a3), .long 1, .long 9]) rfl rfl (Nat.le_of_ble_eq_true rfl) ⟨Nat.le_of_ble_eq_true rfl, Nat.le_of_ble_eq_true rfl⟩ dX9_set_31 rfl ?_
        refine v_if_eq C dX9_set_34 (tgt := 52) (by decide) rfl (fun c13 => ?_) (fun c13 => ?_)
        · have h := ifp c13 h
          refine v_ldc C dX9_set_52 rfl m_953 ?_
          obtain rfl := Option.some.inj h
          exact RET _ _ dX9_set_54
        · have h := ifn c13 h
          refine v_goto C dX9_set_37 (tgt := 55) (by decide) ?_
          exact wF_X9_set_55 C hD RET h
def C_X9_set (a1 : Int32) (a2 : Int32) (a3 : Int32) (K : Mem) : Option (Int32 × Mem) := F_X9_set_0 a1 a2 a3 K
set_option maxRecDepth 100000 in
theorem c_X9_set {l : Launch} {D : va_G} {cA : FieldType → ClassId} {X : Ex} {ad : Nat → Nat} {a1 : Int32} {a2 : Int32} {a3 : Int32} {K : Mem} {r : Int32} {K' : Mem} (h : C_X9_set a1 a2 a3 K = some (r, K')) : MI l D cA X yX9_set cX9_set 4 (some .int) 2 46 [.ref (ad 0), .int a1, .int a2, .int a3] (wd cA ad K 0 shsR) (wd cA ad K' 0 shsR) r :=
  mI_of (by decide +kernel) (Nat.le_of_ble_eq_true rfl) (fun G h1 h2 h3 h4 C hD RET => by subst h1 h2 h3 h4; exact wF_X9_set_0 C (fun K' => wd_D K' hD) RET  h)
def F_X9_isLost_0 (K : Mem) (a1 : Int32) (a2 : Int32) : Option Int32 :=
  bd (C_X9_of K a1 3) fun r2 =>
  bd (C_X9_isAmong r2 a2) fun r4 =>
  gd (z01 r4) <|
  some r4
set_option maxRecDepth 100000 in
set_option maxHeartbeats 4000000 in
theorem wF_X9_isLost_0 {G : Ctx} {ad : Nat → Nat} {K : Mem} (C : Cx G RX9 cX9_isLost 3 1 22) (hD : ∀ K, va_D (gA G) (wd (gC G) ad K 0 shsR)) {res : Int32} (RET : RZ G cX9_isLost 3 (wd (gC G) ad K 0 shsR) res) {a1 : Int32} {a2 : Int32} (h : F_X9_isLost_0 K a1 a2 = some res) : V G 3 (wd (gC G) ad K 0 shsR) 0 [(0, .ref (ad 0)), (1, .int a1), (2, .int a2)] [] := by
  unfold F_X9_isLost_0 at h
  refine v_aload_n C dX9_isLost_0 rfl rfl 0 rfl ?_
  refine v_iload_n C dX9_isLost_1 rfl rfl 1 rfl ?_
  refine v_iconst C dX9_isLost_2 rfl ic_3 ?_
  obtain ⟨r2, e1, h⟩ := bdS h
  refine v_callVi C yv_X9_of m_980 (c_X9_of e1) (Sub.whole hD _ _) ⟨_, _, _, _, _, wd_at sr_0, rfl⟩ (As := [.int a1, .int 3]) rfl rfl (Nat.le_of_ble_eq_true rfl) ⟨Nat.le_of_ble_eq_true rfl, Nat.le_of_ble_eq_true rfl⟩ dX9_isLost_3 rfl ?_
  refine v_iload_n C dX9_isLost_6 rfl rfl 2 rfl ?_
  obtain ⟨r4, e3, h⟩ := bdS h
  refine v_callSi C ys_X9_isAmong m_984 (c_X9_isAmong e3) (Sub.whole hD _ _) (As := [.int r2, .int a2]) rfl rfl (Nat.le_of_ble_eq_true rfl) ⟨Nat.le_of_ble_eq_true rfl, Nat.le_of_ble_eq_true rfl⟩ dX9_isLost_7 rfl ?_
  obtain ⟨b5, h⟩ := gdS h
  obtain rfl := Option.some.inj h
  exact RET _ _ dX9_isLost_10 (z01S b5)
def C_X9_isLost (K : Mem) (a1 : Int32) (a2 : Int32) : Option Int32 := F_X9_isLost_0 K a1 a2
set_option maxRecDepth 100000 in
theorem c_X9_isLost {l : Launch} {D : va_G} {cA : FieldType → ClassId} {X : Ex} {ad : Nat → Nat} {a1 : Int32} {a2 : Int32} {K : Mem} {r : Int32} (h : C_X9_isLost K a1 a2 = some r) : MI l D cA X yX9_isLost cX9_isLost 3 (some .boolean) 1 22 [.ref (ad 0), .int a1, .int a2] (wd cA ad K 0 shsR) (wd cA ad K 0 shsR) r :=
  mZ_of (by decide +kernel) (Nat.le_of_ble_eq_true rfl) (fun G h1 h2 h3 h4 C hD RET => by subst h1 h2 h3 h4; exact wF_X9_isLost_0 C (fun K' => wd_D K' hD) RET  h)
def F_X9_losesOrNot_0 (a1 : Int32) (a2 : Int32) (K : Mem) : Option Mem :=
  bd (C_X9_of K a1 3) fun r2 =>
  bd (C_X9_sets a1 3 (r2 ^^^ (jshl 1 a2)) K) fun K4 =>
  some K4
set_option maxRecDepth 100000 in
set_option maxHeartbeats 4000000 in
theorem wF_X9_losesOrNot_0 {G : Ctx} {ad : Nat → Nat} (C : Cx G RX9 cX9_losesOrNot 3 1 23) (hD : ∀ K, va_D (gA G) (wd (gC G) ad K 0 shsR)) {res : Mem} (RET : RV G cX9_losesOrNot 3 (wd (gC G) ad res 0 shsR)) {a1 : Int32} {a2 : Int32} {K : Mem} (h : F_X9_losesOrNot_0 a1 a2 K = some res) : V G 3 (wd (gC G) ad K 0 shsR) 0 [(0, .ref (ad 0)), (1, .int a1), (2, .int a2)] [] := by
  unfold F_X9_losesOrNot_0 at h
  refine v_aload_n C dX9_losesOrNot_0 rfl rfl 0 rfl ?_
  refine v_iload_n C dX9_losesOrNot_1 rfl rfl 1 rfl ?_
  refine v_iconst C dX9_losesOrNot_2 rfl ic_3 ?_
  refine v_aload_n C dX9_losesOrNot_3 rfl rfl 0 rfl ?_
  refine v_iload_n C dX9_losesOrNot_4 rfl rfl 1 rfl ?_
  refine v_iconst C dX9_losesOrNot_5 rfl ic_3 ?_
  obtain ⟨r2, e1, h⟩ := bdS h
  refine v_callVi C yv_X9_of m_980 (c_X9_of e1) (Sub.whole hD _ _) ⟨_, _, _, _, _, wd_at sr_0, rfl⟩ (As := [.int a1, .int 3]) rfl rfl (Nat.le_of_ble_eq_true rfl) ⟨Nat.le_of_ble_eq_true rfl, Nat.le_of_ble_eq_true rfl⟩ dX9_losesOrNot_6 rfl ?_
  refine v_iconst C dX9_losesOrNot_9 rfl ic_1 ?_
  refine v_iload_n C dX9_losesOrNot_10 rfl rfl 2 rfl ?_
  refine v_ishl C dX9_losesOrNot_11 rfl ?_
  refine v_ixor C dX9_losesOrNot_12 rfl ?_
  obtain ⟨K4, e3, h⟩ := bdS h
  refine v_callVv C yv_X9_sets m_959 (c_X9_sets e3) (Sub.whole hD _ _) ⟨_, _, _, _, _, wd_at sr_0, rfl⟩ (As := [.int a1, .int 3, .int (r2 ^^^ (jshl 1 a2))]) rfl rfl (Nat.le_of_ble_eq_true rfl) ⟨Nat.le_of_ble_eq_true rfl, Nat.le_of_ble_eq_true rfl⟩ dX9_losesOrNot_13 rfl ?_
  obtain rfl := Option.some.inj h
  exact RET _ _ dX9_losesOrNot_16
def C_X9_losesOrNot (a1 : Int32) (a2 : Int32) (K : Mem) : Option Mem := F_X9_losesOrNot_0 a1 a2 K
set_option maxRecDepth 100000 in
theorem c_X9_losesOrNot {l : Launch} {D : va_G} {cA : FieldType → ClassId} {X : Ex} {ad : Nat → Nat} {a1 : Int32} {a2 : Int32} {K : Mem} {K' : Mem} (h : C_X9_losesOrNot a1 a2 K = some K') : MV l D cA X yX9_losesOrNot cX9_losesOrNot 3 1 23 [.ref (ad 0), .int a1, .int a2] (wd cA ad K 0 shsR) (wd cA ad K' 0 shsR) :=
  mV_of (by decide +kernel) (Nat.le_of_ble_eq_true rfl) (fun G h1 h2 h3 h4 C hD RET => by subst h1 h2 h3 h4; exact wF_X9_losesOrNot_0 C (fun K' => wd_D K' hD) RET  h)
def F_X9_isThere_0 (a0 : Int32) (a1 : Int32) : Option Int32 :=
  if a0 = 0 then (
    some 0
  ) else (
    bd (C_X9_isLoop a1) fun r3 =>
    if r3 = 0 then (
      some 0
    ) else (
      some 1
    )
  )
set_option maxRecDepth 100000 in
set_option maxHeartbeats 4000000 in
theorem wF_X9_isThere_0 {G : Ctx} {w : va_W} (C : Cx G RX9 cX9_isThere 2 2 45) (hD : va_D (gA G) w) {res : Int32} (RET : RZ G cX9_isThere 2 w res) {a0 : Int32} {a1 : Int32} (h : F_X9_isThere_0 a0 a1 = some res) : V G 2 w 0 [(0, .int a0), (1, .int a1)] [] := by
  unfold F_X9_isThere_0 at h
  refine v_iload_n C dX9_isThere_0 rfl rfl 0 rfl ?_
  refine v_if_eq C dX9_isThere_1 (tgt := 15) (by decide) rfl (fun c1 => ?_) (fun c1 => ?_)
  · have h := ifp c1 h
    refine v_iconst C dX9_isThere_15 rfl ic_0 ?_
    obtain rfl := Option.some.inj h
    exact RET _ _ dX9_isThere_16 (Or.inl rfl)
  · have h := ifn c1 h
    refine v_iload_n C dX9_isThere_4 rfl rfl 1 rfl ?_
    obtain ⟨r3, e2, h⟩ := bdS h
    refine v_callSi C ys_X9_isLoop m_1054 (c_X9_isLoop e2) (Sub.same hD) (As := [.int a1]) rfl rfl (Nat.le_of_ble_eq_true rfl) ⟨Nat.le_of_ble_eq_true rfl, Nat.le_of_ble_eq_true rfl⟩ dX9_isThere_5 rfl ?_
    refine v_if_eq C dX9_isThere_8 (tgt := 15) (by decide) rfl (fun c4 => ?_) (fun c4 => ?_)
    · have h := ifp c4 h
      refine v_iconst C dX9_isThere_15 rfl ic_0 ?_
      obtain rfl := Option.some.inj h
      exact RET _ _ dX9_isThere_16 (Or.inl rfl)
    · have h := ifn c4 h
      refine v_iconst C dX9_isThere_11 rfl ic_1 ?_
      refine v_goto C dX9_isThere_12 (tgt := 16) (by decide) ?_
      obtain rfl := Option.some.inj h
      exact RET _ _ dX9_isThere_16 (Or.inr rfl)
def C_X9_isThere (a0 : Int32) (a1 : Int32) : Option Int32 := F_X9_isThere_0 a0 a1
set_option maxRecDepth 100000 in
theorem c_X9_isThere {l : Launch} {D : va_G} {cA : FieldType → ClassId} {X : Ex} {w : va_W} {a0 : Int32} {a1 : Int32} {r : Int32} (h : C_X9_isThere a0 a1 = some r) : MI l D cA X yX9_isThere cX9_isThere 2 (some .boolean) 2 45 [.int a0, .int a1] w w r :=
  mZ_of (by decide +kernel) (Nat.le_of_ble_eq_true rfl) (fun G h1 h2 h3 h4 C hD RET => by subst h1 h2 h3 h4; exact wF_X9_isThere_0 C hD RET  h)
def F_X9_drops_0 (a1 : Int32) (a2 : Int32) (K : Mem) : Option (Int32 × Mem) :=
  bd (C_X9_isCourse K a1) fun r2 =>
  bd (C_X9_isThere r2 a2) fun r4 =>
  if r4 = 0 then (
    some ((-1000000001), K)
  ) else (
    bd (C_X9_isLost K a1 a2) fun r7 =>
    if r7 = 0 then (
      bd2 (C_X9_holds K) fun r11 K10 =>
      bd (C_X9_losesOrNot a1 a2 K10) fun K13 =>
      bd2 (C_X9_holds K13) fun r16 K15 =>
      some (r11 - r16, K15)
    ) else (
      some ((-1000000002), K)
    )
  )
set_option maxRecDepth 100000 in
set_option maxHeartbeats 4000000 in
theorem wF_X9_drops_0 {G : Ctx} {ad : Nat → Nat} (C : Cx G RX9 cX9_drops 4 3 69) (hD : ∀ K, va_D (gA G) (wd (gC G) ad K 0 shsR)) {res : (Int32 × Mem)} (RET : RI G cX9_drops 4 (wd (gC G) ad res.2 0 shsR) res.1) {a1 : Int32} {a2 : Int32} {K : Mem} (h : F_X9_drops_0 a1 a2 K = some res) : V G 4 (wd (gC G) ad K 0 shsR) 0 [(0, .ref (ad 0)), (1, .int a1), (2, .int a2)] [] := by
  unfold F_X9_drops_0 at h
  refine v_aload_n C dX9_drops_0 rfl rfl 0 rfl ?_
  refine v_iload_n C dX9_drops_1 rfl rfl 1 rfl ?_
  obtain ⟨r2, e1, h⟩ := bdS h
  refine v_callVi C yv_X9_isCourse m_967 (c_X9_isCourse e1) (Sub.whole hD _ _) ⟨_, _, _, _, _, wd_at sr_0, rfl⟩ (As := [.int a1]) rfl rfl (Nat.le_of_ble_eq_true rfl) ⟨Nat.le_of_ble_eq_true rfl, Nat.le_of_ble_eq_true rfl⟩ dX9_drops_2 rfl ?_
  refine v_iload_n C dX9_drops_5 rfl rfl 2 rfl ?_
  obtain ⟨r4, e3, h⟩ := bdS h
  refine v_callSi C ys_X9_isThere m_1051 (c_X9_isThere e3) (Sub.whole hD _ _) (As := [.int r2, .int a2]) rfl rfl (Nat.le_of_ble_eq_true rfl) ⟨Nat.le_of_ble_eq_true rfl, Nat.le_of_ble_eq_true rfl⟩ dX9_drops_6 rfl ?_
  refine v_if_ne C dX9_drops_9 (tgt := 15) (by decide) rfl (fun c5 => ?_) (fun c5 => ?_)
  · have h := ifn c5 h
    refine v_aload_n C dX9_drops_15 rfl rfl 0 rfl ?_
    refine v_iload_n C dX9_drops_16 rfl rfl 1 rfl ?_
    refine v_iload_n C dX9_drops_17 rfl rfl 2 rfl ?_
    obtain ⟨r7, e6, h⟩ := bdS h
    refine v_callVi C yv_X9_isLost m_1057 (c_X9_isLost e6) (Sub.whole hD _ _) ⟨_, _, _, _, _, wd_at sr_0, rfl⟩ (As := [.int a1, .int a2]) rfl rfl (Nat.le_of_ble_eq_true rfl) ⟨Nat.le_of_ble_eq_true rfl, Nat.le_of_ble_eq_true rfl⟩ dX9_drops_18 rfl ?_
    refine v_if_eq C dX9_drops_21 (tgt := 27) (by decide) rfl (fun c8 => ?_) (fun c8 => ?_)
    · have h := ifp c8 h
      refine v_aload_n C dX9_drops_27 rfl rfl 0 rfl ?_
      obtain ⟨r11, K10, e9, h⟩ := bd2S h
      refine v_callVi C yv_X9_holds m_976 (c_X9_holds e9) (Sub.whole hD _ _) ⟨_, _, _, _, _, wd_at sr_0, rfl⟩ (As := []) rfl rfl (Nat.le_of_ble_eq_true rfl) ⟨Nat.le_of_ble_eq_true rfl, Nat.le_of_ble_eq_true rfl⟩ dX9_drops_28 rfl ?_
      refine v_istore_n C dX9_drops_31 rfl rfl (by decide) (L' := [(3, .int r11), (0, .ref (ad 0)), (1, .int a1), (2, .int a2)]) rfl ?_
      refine v_aload_n C dX9_drops_32 rfl rfl 1 rfl ?_
      refine v_iload_n C dX9_drops_33 rfl rfl 2 rfl ?_
      refine v_iload_n C dX9_drops_34 rfl rfl 3 rfl ?_
      obtain ⟨K13, e12, h⟩ := bdS h
      refine v_callVv C yv_X9_losesOrNot m_1062 (c_X9_losesOrNot e12) (Sub.whole hD _ _) ⟨_, _, _, _, _, wd_at sr_0, rfl⟩ (As := [.int a1, .int a2]) rfl rfl (Nat.le_of_ble_eq_true rfl) ⟨Nat.le_of_ble_eq_true rfl, Nat.le_of_ble_eq_true rfl⟩ dX9_drops_35 rfl ?_
      refine v_iload_n C dX9_drops_38 rfl rfl 0 rfl ?_
      refine v_aload_n C dX9_drops_39 rfl rfl 1 rfl ?_
      obtain ⟨r16, K15, e14, h⟩ := bd2S h
      refine v_callVi C yv_X9_holds m_976 (c_X9_holds e14) (Sub.whole hD _ _) ⟨_, _, _, _, _, wd_at sr_0, rfl⟩ (As := []) rfl rfl (Nat.le_of_ble_eq_true rfl) ⟨Nat.le_of_ble_eq_true rfl, Nat.le_of_ble_eq_true rfl⟩ dX9_drops_40 rfl ?_
      refine v_isub C dX9_drops_43 rfl ?_
      obtain rfl := Option.some.inj h
      exact RET _ _ dX9_drops_44
    · have h := ifn c8 h
      refine v_ldc C dX9_drops_24 rfl m_1061 ?_
      obtain rfl := Option.some.inj h
      exact RET _ _ dX9_drops_26
  · have h := ifp c5 h
    refine v_ldc C dX9_drops_12 rfl m_953 ?_
    obtain rfl := Option.some.inj h
    exact RET _ _ dX9_drops_14
def C_X9_drops (a1 : Int32) (a2 : Int32) (K : Mem) : Option (Int32 × Mem) := F_X9_drops_0 a1 a2 K
set_option maxRecDepth 100000 in
theorem c_X9_drops {l : Launch} {D : va_G} {cA : FieldType → ClassId} {X : Ex} {ad : Nat → Nat} {a1 : Int32} {a2 : Int32} {K : Mem} {r : Int32} {K' : Mem} (h : C_X9_drops a1 a2 K = some (r, K')) : MI l D cA X yX9_drops cX9_drops 4 (some .int) 3 69 [.ref (ad 0), .int a1, .int a2] (wd cA ad K 0 shsR) (wd cA ad K' 0 shsR) r :=
  mI_of (by decide +kernel) (Nat.le_of_ble_eq_true rfl) (fun G h1 h2 h3 h4 C hD RET => by subst h1 h2 h3 h4; exact wF_X9_drops_0 C (fun K' => wd_D K' hD) RET  h)
def F_X9_hooks_0 (a1 : Int32) (a2 : Int32) (K : Mem) : Option (Int32 × Mem) :=
  bd (C_X9_isCourse K a1) fun r2 =>
  bd (C_X9_isThere r2 a2) fun r4 =>
  if r4 = 0 then (
    some ((-1000000001), K)
  ) else (
    bd (C_X9_isLost K a1 a2) fun r7 =>
    if r7 = 0 then (
      some ((-1000000002), K)
    ) else (
      bd2 (C_X9_holds K) fun r11 K10 =>
      bd (C_X9_losesOrNot a1 a2 K10) fun K13 =>
      bd2 (C_X9_holds K13) fun r16 K15 =>
      some (r16 - r11, K15)
    )
  )
set_option maxRecDepth 100000 in
set_option maxHeartbeats 4000000 in
theorem wF_X9_hooks_0 {G : Ctx} {ad : Nat → Nat} (C : Cx G RX9 cX9_hooks 4 3 69) (hD : ∀ K, va_D (gA G) (wd (gC G) ad K 0 shsR)) {res : (Int32 × Mem)} (RET : RI G cX9_hooks 4 (wd (gC G) ad res.2 0 shsR) res.1) {a1 : Int32} {a2 : Int32} {K : Mem} (h : F_X9_hooks_0 a1 a2 K = some res) : V G 4 (wd (gC G) ad K 0 shsR) 0 [(0, .ref (ad 0)), (1, .int a1), (2, .int a2)] [] := by
  unfold F_X9_hooks_0 at h
  refine v_aload_n C dX9_hooks_0 rfl rfl 0 rfl ?_
  refine v_iload_n C dX9_hooks_1 rfl rfl 1 rfl ?_
  obtain ⟨r2, e1, h⟩ := bdS h
  refine v_callVi C yv_X9_isCourse m_967 (c_X9_isCourse e1) (Sub.whole hD _ _) ⟨_, _, _, _, _, wd_at sr_0, rfl⟩ (As := [.int a1]) rfl rfl (Nat.le_of_ble_eq_true rfl) ⟨Nat.le_of_ble_eq_true rfl, Nat.le_of_ble_eq_true rfl⟩ dX9_hooks_2 rfl ?_
  refine v_iload_n C dX9_hooks_5 rfl rfl 2 rfl ?_
  obtain ⟨r4, e3, h⟩ := bdS h
  refine v_callSi C ys_X9_isThere m_1051 (c_X9_isThere e3) (Sub.whole hD _ _) (As := [.int r2, .int a2]) rfl rfl (Nat.le_of_ble_eq_true rfl) ⟨Nat.le_of_ble_eq_true rfl, Nat.le_of_ble_eq_true rfl⟩ dX9_hooks_6 rfl ?_
  refine v_if_ne C dX9_hooks_9 (tgt := 15) (by decide) rfl (fun c5 => ?_) (fun c5 => ?_)
  · have h := ifn c5 h
    refine v_aload_n C dX9_hooks_15 rfl rfl 0 rfl ?_
    refine v_iload_n C dX9_hooks_16 rfl rfl 1 rfl ?_
    refine v_iload_n C dX9_hooks_17 rfl rfl 2 rfl ?_
    obtain ⟨r7, e6, h⟩ := bdS h
    refine v_callVi C yv_X9_isLost m_1057 (c_X9_isLost e6) (Sub.whole hD _ _) ⟨_, _, _, _, _, wd_at sr_0, rfl⟩ (As := [.int a1, .int a2]) rfl rfl (Nat.le_of_ble_eq_true rfl) ⟨Nat.le_of_ble_eq_true rfl, Nat.le_of_ble_eq_true rfl⟩ dX9_hooks_18 rfl ?_
    refine v_if_ne C dX9_hooks_21 (tgt := 27) (by decide) rfl (fun c8 => ?_) (fun c8 => ?_)
    · have h := ifn c8 h
      refine v_aload_n C dX9_hooks_27 rfl rfl 0 rfl ?_
      obtain ⟨r11, K10, e9, h⟩ := bd2S h
      refine v_callVi C yv_X9_holds m_976 (c_X9_holds e9) (Sub.whole hD _ _) ⟨_, _, _, _, _, wd_at sr_0, rfl⟩ (As := []) rfl rfl (Nat.le_of_ble_eq_true rfl) ⟨Nat.le_of_ble_eq_true rfl, Nat.le_of_ble_eq_true rfl⟩ dX9_hooks_28 rfl ?_
      refine v_istore_n C dX9_hooks_31 rfl rfl (by decide) (L' := [(3, .int r11), (0, .ref (ad 0)), (1, .int a1), (2, .int a2)]) rfl ?_
      refine v_aload_n C dX9_hooks_32 rfl rfl 1 rfl ?_
      refine v_iload_n C dX9_hooks_33 rfl rfl 2 rfl ?_
      refine v_iload_n C dX9_hooks_34 rfl rfl 3 rfl ?_
      obtain ⟨K13, e12, h⟩ := bdS h
      refine v_callVv C yv_X9_losesOrNot m_1062 (c_X9_losesOrNot e12) (Sub.whole hD _ _) ⟨_, _, _, _, _, wd_at sr_0, rfl⟩ (As := [.int a1, .int a2]) rfl rfl (Nat.le_of_ble_eq_true rfl) ⟨Nat.le_of_ble_eq_true rfl, Nat.le_of_ble_eq_true rfl⟩ dX9_hooks_35 rfl ?_
      refine v_aload_n C dX9_hooks_38 rfl rfl 1 rfl ?_
      obtain ⟨r16, K15, e14, h⟩ := bd2S h
      refine v_callVi C yv_X9_holds m_976 (c_X9_holds e14) (Sub.whole hD _ _) ⟨_, _, _, _, _, wd_at sr_0, rfl⟩ (As := []) rfl rfl (Nat.le_of_ble_eq_true rfl) ⟨Nat.le_of_ble_eq_true rfl, Nat.le_of_ble_eq_true rfl⟩ dX9_hooks_39 rfl ?_
      refine v_iload_n C dX9_hooks_42 rfl rfl 0 rfl ?_
      refine v_isub C dX9_hooks_43 rfl ?_
      obtain rfl := Option.some.inj h
      exact RET _ _ dX9_hooks_44
    · have h := ifp c8 h
      refine v_ldc C dX9_hooks_24 rfl m_1061 ?_
      obtain rfl := Option.some.inj h
      exact RET _ _ dX9_hooks_26
  · have h := ifp c5 h
    refine v_ldc C dX9_hooks_12 rfl m_953 ?_
    obtain rfl := Option.some.inj h
    exact RET _ _ dX9_hooks_14
def C_X9_hooks (a1 : Int32) (a2 : Int32) (K : Mem) : Option (Int32 × Mem) := F_X9_hooks_0 a1 a2 K
set_option maxRecDepth 100000 in
theorem c_X9_hooks {l : Launch} {D : va_G} {cA : FieldType → ClassId} {X : Ex} {ad : Nat → Nat} {a1 : Int32} {a2 : Int32} {K : Mem} {r : Int32} {K' : Mem} (h : C_X9_hooks a1 a2 K = some (r, K')) : MI l D cA X yX9_hooks cX9_hooks 4 (some .int) 3 69 [.ref (ad 0), .int a1, .int a2] (wd cA ad K 0 shsR) (wd cA ad K' 0 shsR) r :=
  mI_of (by decide +kernel) (Nat.le_of_ble_eq_true rfl) (fun G h1 h2 h3 h4 C hD RET => by subst h1 h2 h3 h4; exact wF_X9_hooks_0 C (fun K' => wd_D K' hD) RET  h)
def F_X9_rule_0 (a1 : Int32) (a2 : Int32) (K : Mem) : Option (Int32 × Mem) :=
  bd (C_X9_isIn (Int32.toInt64 a1) 0 2) fun r2 =>
  if r2 = 0 then (
    some ((-1000000001), K)
  ) else (
    bd (C_X9_isIn (Int32.toInt64 a2) 0 100) fun r5 =>
    if r5 = 0 then (
      some ((-1000000001), K)
    ) else (
      bd2 (C_X9_changes (3 + a1) a2 K) fun r9 K8 =>
      some (r9, K8)
    )
  )
set_option maxRecDepth 100000 in
set_option maxHeartbeats 4000000 in
theorem wF_X9_rule_0 {G : Ctx} {ad : Nat → Nat} (C : Cx G RX9 cX9_rule 3 1 25) (hD : ∀ K, va_D (gA G) (wd (gC G) ad K 0 shsR)) {res : (Int32 × Mem)} (RET : RI G cX9_rule 3 (wd (gC G) ad res.2 0 shsR) res.1) {a1 : Int32} {a2 : Int32} {K : Mem} (h : F_X9_rule_0 a1 a2 K = some res) : V G 3 (wd (gC G) ad K 0 shsR) 0 [(0, .ref (ad 0)), (1, .int a1), (2, .int a2)] [] := by
  unfold F_X9_rule_0 at h
  refine v_iload_n C dX9_rule_0 rfl rfl 1 rfl ?_
  refine v_i2l C dX9_rule_1 rfl ?_
  refine v_lconst C dX9_rule_2 rfl (v := 0) (by decide) ?_
  refine v_ldc2 C dX9_rule_3 rfl m_1045 ?_
  obtain ⟨r2, e1, h⟩ := bdS h
  refine v_callSi C ys_X9_isIn m_949 (c_X9_isIn e1) (Sub.whole hD _ _) (As := [.long (Int32.toInt64 a1), .long 0, .long 2]) rfl rfl (Nat.le_of_ble_eq_true rfl) ⟨Nat.le_of_ble_eq_true rfl, Nat.le_of_ble_eq_true rfl⟩ dX9_rule_6 rfl ?_
  refine v_if_eq C dX9_rule_9 (tgt := 35) (by decide) rfl (fun c3 => ?_) (fun c3 => ?_)
  · have h := ifp c3 h
    refine v_ldc C dX9_rule_35 rfl m_953 ?_
    obtain rfl := Option.some.inj h
    exact RET _ _ dX9_rule_37
  · have h := ifn c3 h
    refine v_iload_n C dX9_rule_12 rfl rfl 2 rfl ?_
    refine v_i2l C dX9_rule_13 rfl ?_
    refine v_lconst C dX9_rule_14 rfl (v := 0) (by decide) ?_
    refine v_ldc2 C dX9_rule_15 rfl m_1074 ?_
    obtain ⟨r5, e4, h⟩ := bdS h
    refine v_callSi C ys_X9_isIn m_949 (c_X9_isIn e4) (Sub.whole hD _ _) (As := [.long (Int32.toInt64 a2), .long 0, .long 100]) rfl rfl (Nat.le_of_ble_eq_true rfl) ⟨Nat.le_of_ble_eq_true rfl, Nat.le_of_ble_eq_true rfl⟩ dX9_rule_18 rfl ?_
    refine v_if_eq C dX9_rule_21 (tgt := 35) (by decide) rfl (fun c6 => ?_) (fun c6 => ?_)
    · have h := ifp c6 h
      refine v_ldc C dX9_rule_35 rfl m_953 ?_
      obtain rfl := Option.some.inj h
      exact RET _ _ dX9_rule_37
    · have h := ifn c6 h
      refine v_aload_n C dX9_rule_24 rfl rfl 0 rfl ?_
      refine v_iconst C dX9_rule_25 rfl ic_3 ?_
      refine v_iload_n C dX9_rule_26 rfl rfl 1 rfl ?_
      refine v_iadd C dX9_rule_27 rfl ?_
      refine v_iload_n C dX9_rule_28 rfl rfl 2 rfl ?_
      obtain ⟨r9, K8, e7, h⟩ := bd2S h
      refine v_callVi C yv_X9_changes m_1037 (c_X9_changes e7) (Sub.whole hD _ _) ⟨_, _, _, _, _, wd_at sr_0, rfl⟩ (As := [.int (3 + a1), .int a2]) rfl rfl (Nat.le_of_ble_eq_true rfl) ⟨Nat.le_of_ble_eq_true rfl, Nat.le_of_ble_eq_true rfl⟩ dX9_rule_29 rfl ?_
      refine v_goto C dX9_rule_32 (tgt := 37) (by decide) ?_
      obtain rfl := Option.some.inj h
      exact RET _ _ dX9_rule_37
def C_X9_rule (a1 : Int32) (a2 : Int32) (K : Mem) : Option (Int32 × Mem) := F_X9_rule_0 a1 a2 K
set_option maxRecDepth 100000 in
theorem c_X9_rule {l : Launch} {D : va_G} {cA : FieldType → ClassId} {X : Ex} {ad : Nat → Nat} {a1 : Int32} {a2 : Int32} {K : Mem} {r : Int32} {K' : Mem} (h : C_X9_rule a1 a2 K = some (r, K')) : MI l D cA X yX9_rule cX9_rule 3 (some .int) 1 25 [.ref (ad 0), .int a1, .int a2] (wd cA ad K 0 shsR) (wd cA ad K' 0 shsR) r :=
  mI_of (by decide +kernel) (Nat.le_of_ble_eq_true rfl) (fun G h1 h2 h3 h4 C hD RET => by subst h1 h2 h3 h4; exact wF_X9_rule_0 C (fun K' => wd_D K' hD) RET  h)
def F_X9_deal_17 (k17 : Int32 → Int32 → Mem → Option (Int32 × Mem)) (a1 : Int32) (a2 : Int32) (K : Mem) : Option (Int32 × Mem) :=
  if a1 ≤ a2 then (
    some (a2, K)
  ) else (
    gd (inb 0 3058) <|
    if 12 ≤ (K 1 (Int32.toNatClampNeg 0)) then (
      some (a2, K)
    ) else (
      bd2 (C_X9_drawn K) fun r9 K8 =>
      nm (jrem r9 6) fun v10 =>
      bd2 (C_X9_drawn K8) fun r13 K12 =>
      nm (1 + (jrem r13 9)) fun v14 =>
      bd2 (C_X9_drawn K12) fun r17 K16 =>
      bd2 (C_X9_drawn K16) fun r20 K19 =>
      bd (C_X9_comes v10 v14 ((r17 &&& r20) &&& 255) K19) fun K22 =>
      nm (a2 + 1) fun v23 =>
      k17 a1 v23 K22
    )
  )
def L_X9_deal_17 : Nat → Int32 → Int32 → Mem → Option (Int32 × Mem)
  | 0, _, _, _ => none
  | n + 1, a1, a2, K => F_X9_deal_17 (fun a1 a2 K => L_X9_deal_17 n a1 a2 K) a1 a2 K
set_option maxRecDepth 100000 in
set_option maxHeartbeats 4000000 in
theorem wF_X9_deal_17 {G : Ctx} {ad : Nat → Nat} {k17 : Int32 → Int32 → Mem → Option (Int32 × Mem)} (C : Cx G RX9 cX9_deal 6 2 47) (hD : ∀ K, va_D (gA G) (wd (gC G) ad K 0 shsR)) {res : (Int32 × Mem)} (RET : RI G cX9_deal 6 (wd (gC G) ad res.2 0 shsR) res.1) (hk17 : ∀ {a1 : Int32} {a2 : Int32} {K : Mem} , k17 a1 a2 K = some res → V G 6 (wd (gC G) ad K 0 shsR) 17 [(0, .ref (ad 0)), (1, .int a1), (2, .int a2)] []) {a1 : Int32} {a2 : Int32} {K : Mem} (h : F_X9_deal_17 k17 a1 a2 K = some res) : V G 6 (wd (gC G) ad K 0 shsR) 17 [(0, .ref (ad 0)), (1, .int a1), (2, .int a2)] [] := by
  unfold F_X9_deal_17 at h
  refine v_iload_n C dX9_deal_17 rfl rfl 2 rfl ?_
  refine v_iload_n C dX9_deal_18 rfl rfl 1 rfl ?_
  refine v_icmp_ge C dX9_deal_19 (tgt := 82) (by decide) rfl (fun c4 => ?_) (fun c4 => ?_)
  · have h := ifp c4 h
    refine v_iload_n C dX9_deal_82 rfl rfl 2 rfl ?_
    obtain rfl := Option.some.inj h
    exact RET _ _ dX9_deal_83
  · have h := ifn c4 h
    refine v_aload_n C dX9_deal_22 rfl rfl 0 rfl ?_
    refine v_getr C dX9_deal_23 rfl ff_X9_7 sr_0 rfl ?_
    refine v_iconst C dX9_deal_26 rfl ic_0 ?_
    obtain ⟨b5, h⟩ := gdS h
    refine v_iald C dX9_deal_27 rfl sr_1 b5 ?_
    refine v_bipush C dX9_deal_28 rfl bi_12 ?_
    refine v_icmp_ge C dX9_deal_30 (tgt := 82) (by decide) rfl (fun c6 => ?_) (fun c6 => ?_)
    · have h := ifp c6 h
      refine v_iload_n C dX9_deal_82 rfl rfl 2 rfl ?_
      obtain rfl := Option.some.inj h
      exact RET _ _ dX9_deal_83
    · have h := ifn c6 h
      refine v_aload_n C dX9_deal_33 rfl rfl 0 rfl ?_
      obtain ⟨r9, K8, e7, h⟩ := bd2S h
      refine v_callVi C yv_X9_drawn m_1080 (c_X9_drawn e7) (Sub.whole hD _ _) ⟨_, _, _, _, _, wd_at sr_0, rfl⟩ (As := []) rfl rfl (Nat.le_of_ble_eq_true rfl) ⟨Nat.le_of_ble_eq_true rfl, Nat.le_of_ble_eq_true rfl⟩ dX9_deal_34 rfl ?_
      refine v_bipush C dX9_deal_37 rfl bi_6 ?_
      refine v_irem C dX9_deal_39 rfl (by decide) ?_
      obtain ⟨v10, ev10, h⟩ := nmS h
      refine v_nmi ev10 ?_
      refine v_istore_n C dX9_deal_40 rfl rfl (by decide) (L' := [(3, .int v10), (0, .ref (ad 0)), (1, .int a1), (2, .int a2)]) rfl ?_
      refine v_iconst C dX9_deal_41 rfl ic_1 ?_
      refine v_aload_n C dX9_deal_42 rfl rfl 1 rfl ?_
      obtain ⟨r13, K12, e11, h⟩ := bd2S h
      refine v_callVi C yv_X9_drawn m_1080 (c_X9_drawn e11) (Sub.whole hD _ _) ⟨_, _, _, _, _, wd_at sr_0, rfl⟩ (As := []) rfl rfl (Nat.le_of_ble_eq_true rfl) ⟨Nat.le_of_ble_eq_true rfl, Nat.le_of_ble_eq_true rfl⟩ dX9_deal_43 rfl ?_
      refine v_bipush C dX9_deal_46 rfl bi_9 ?_
      refine v_irem C dX9_deal_48 rfl (by decide) ?_
      refine v_iadd C dX9_deal_49 rfl ?_
      obtain ⟨v14, ev14, h⟩ := nmS h
      refine v_nmi ev14 ?_
      refine v_istore C dX9_deal_50 rfl (by decide) (L' := [(4, .int v14), (3, .int v10), (0, .ref (ad 0)), (1, .int a1), (2, .int a2)]) rfl ?_
      refine v_aload_n C dX9_deal_52 rfl rfl 2 rfl ?_
      obtain ⟨r17, K16, e15, h⟩ := bd2S h
      refine v_callVi C yv_X9_drawn m_1080 (c_X9_drawn e15) (Sub.whole hD _ _) ⟨_, _, _, _, _, wd_at sr_0, rfl⟩ (As := []) rfl rfl (Nat.le_of_ble_eq_true rfl) ⟨Nat.le_of_ble_eq_true rfl, Nat.le_of_ble_eq_true rfl⟩ dX9_deal_53 rfl ?_
      refine v_istore C dX9_deal_56 rfl (by decide) (L' := [(5, .int r17), (4, .int v14), (3, .int v10), (0, .ref (ad 0)), (1, .int a1), (2, .int a2)]) rfl ?_
      refine v_aload_n C dX9_deal_58 rfl rfl 3 rfl ?_
      refine v_iload_n C dX9_deal_59 rfl rfl 2 rfl ?_
      refine v_iload C dX9_deal_60 rfl 1 rfl ?_
      refine v_iload C dX9_deal_62 rfl 0 rfl ?_
      refine v_aload_n C dX9_deal_64 rfl rfl 3 rfl ?_
      obtain ⟨r20, K19, e18, h⟩ := bd2S h
      refine v_callVi C yv_X9_drawn m_1080 (c_X9_drawn e18) (Sub.whole hD _ _) ⟨_, _, _, _, _, wd_at sr_0, rfl⟩ (As := []) rfl rfl (Nat.le_of_ble_eq_true rfl) ⟨Nat.le_of_ble_eq_true rfl, Nat.le_of_ble_eq_true rfl⟩ dX9_deal_65 rfl ?_
      refine v_iand C dX9_deal_68 rfl ?_
      refine v_sipush C dX9_deal_69 rfl si_255 ?_
      refine v_iand C dX9_deal_72 rfl ?_
      obtain ⟨K22, e21, h⟩ := bdS h
      refine v_callVv C yv_X9_comes m_955 (c_X9_comes e21) (Sub.whole hD _ _) ⟨_, _, _, _, _, wd_at sr_0, rfl⟩ (As := [.int v10, .int v14, .int ((r17 &&& r20) &&& 255)]) rfl rfl (Nat.le_of_ble_eq_true rfl) ⟨Nat.le_of_ble_eq_true rfl, Nat.le_of_ble_eq_true rfl⟩ dX9_deal_73 rfl ?_
      obtain ⟨v23, ev23, h⟩ := nmS h
      refine v_iinc C dX9_deal_76 rfl 5 rfl (v := v23) (by rw [ev23]; rfl) (by decide) (L' := [(2, .int v23), (5, .int r17), (4, .int v14), (3, .int v10), (0, .ref (ad 0)), (1, .int a1)]) rfl ?_
      refine v_goto C dX9_deal_79 (tgt := 17) (by decide) ?_
      refine v_sub [4, 5, 0] rfl ?_
      exact hk17 h
theorem wL_X9_deal_17 {G : Ctx} {ad : Nat → Nat} (C : Cx G RX9 cX9_deal 6 2 47) (hD : ∀ K, va_D (gA G) (wd (gC G) ad K 0 shsR)) {res : (Int32 × Mem)} (RET : RI G cX9_deal 6 (wd (gC G) ad res.2 0 shsR) res.1) : ∀ (n : Nat) {a1 : Int32} {a2 : Int32} {K : Mem} (h : L_X9_deal_17 n a1 a2 K = some res), V G 6 (wd (gC G) ad K 0 shsR) 17 [(0, .ref (ad 0)), (1, .int a1), (2, .int a2)] [] := by
  intro n
  induction n with
  | zero =>
    intro a1 a2 K h
    cases (show (none : Option (Int32 × Mem)) = some res from h)
  | succ n ih =>
    intro a1 a2 K h
    exact wF_X9_deal_17 (k17 := fun a1 a2 K => L_X9_deal_17  n a1 a2 K) C hD RET (fun h => ih h) h
def F_X9_deal_0 (a1 : Int32) (K : Mem) : Option (Int32 × Mem) :=
  bd (C_X9_isIn (Int32.toInt64 a1) 1 12) fun r2 =>
  if r2 = 0 then (
    some ((-1000000001), K)
  ) else (
    L_X9_deal_17 FU a1 0 K
  )
set_option maxRecDepth 100000 in
set_option maxHeartbeats 4000000 in
theorem wF_X9_deal_0 {G : Ctx} {ad : Nat → Nat} (C : Cx G RX9 cX9_deal 6 2 47) (hD : ∀ K, va_D (gA G) (wd (gC G) ad K 0 shsR)) {res : (Int32 × Mem)} (RET : RI G cX9_deal 6 (wd (gC G) ad res.2 0 shsR) res.1) {a1 : Int32} {K : Mem} (h : F_X9_deal_0 a1 K = some res) : V G 6 (wd (gC G) ad K 0 shsR) 0 [(0, .ref (ad 0)), (1, .int a1)] [] := by
  unfold F_X9_deal_0 at h
  refine v_iload_n C dX9_deal_0 rfl rfl 1 rfl ?_
  refine v_i2l C dX9_deal_1 rfl ?_
  refine v_lconst C dX9_deal_2 rfl (v := 1) (by decide) ?_
  refine v_ldc2 C dX9_deal_3 rfl m_1079 ?_
  obtain ⟨r2, e1, h⟩ := bdS h
  refine v_callSi C ys_X9_isIn m_949 (c_X9_isIn e1) (Sub.whole hD _ _) (As := [.long (Int32.toInt64 a1), .long 1, .long 12]) rfl rfl (Nat.le_of_ble_eq_true rfl) ⟨Nat.le_of_ble_eq_true rfl, Nat.le_of_ble_eq_true rfl⟩ dX9_deal_6 rfl ?_
  refine v_if_ne C dX9_deal_9 (tgt := 15) (by decide) rfl (fun c3 => ?_) (fun c3 => ?_)
  · have h := ifn c3 h
    refine v_iconst C dX9_deal_15 rfl ic_0 ?_
    refine v_istore_n C dX9_deal_16 rfl rfl (by decide) (L' := [(2, .int 0), (0, .ref (ad 0)), (1, .int a1)]) rfl ?_
    refine v_sub [1, 2, 0] rfl ?_
    exact wL_X9_deal_17 C hD RET FU h
  · have h := ifp c3 h
    refine v_ldc C dX9_deal_12 rfl m_953 ?_
    obtain rfl := Option.some.inj h
    exact RET _ _ dX9_deal_14
def C_X9_deal (a1 : Int32) (K : Mem) : Option (Int32 × Mem) := F_X9_deal_0 a1 K
set_option maxRecDepth 100000 in
theorem c_X9_deal {l : Launch} {D : va_G} {cA : FieldType → ClassId} {X : Ex} {ad : Nat → Nat} {a1 : Int32} {K : Mem} {r : Int32} {K' : Mem} (h : C_X9_deal a1 K = some (r, K')) : MI l D cA X yX9_deal cX9_deal 6 (some .int) 2 47 [.ref (ad 0), .int a1] (wd cA ad K 0 shsR) (wd cA ad K' 0 shsR) r :=
  mI_of (by decide +kernel) (Nat.le_of_ble_eq_true rfl) (fun G h1 h2 h3 h4 C hD RET => by subst h1 h2 h3 h4; exact wF_X9_deal_0 C (fun K' => wd_D K' hD) RET  h)
def F_X9_seed_0 (a1 : Int32) (K : Mem) : Option (Int32 × Mem) :=
  bd2 (C_X9_changes 9 a1 K) fun r3 K2 =>
  some (r3, K2)
set_option maxRecDepth 100000 in
set_option maxHeartbeats 4000000 in
theorem wF_X9_seed_0 {G : Ctx} {ad : Nat → Nat} (C : Cx G RX9 cX9_seed 2 1 23) (hD : ∀ K, va_D (gA G) (wd (gC G) ad K 0 shsR)) {res : (Int32 × Mem)} (RET : RI G cX9_seed 2 (wd (gC G) ad res.2 0 shsR) res.1) {a1 : Int32} {K : Mem} (h : F_X9_seed_0 a1 K = some res) : V G 2 (wd (gC G) ad K 0 shsR) 0 [(0, .ref (ad 0)), (1, .int a1)] [] := by
  unfold F_X9_seed_0 at h
  refine v_aload_n C dX9_seed_0 rfl rfl 0 rfl ?_
  refine v_bipush C dX9_seed_1 rfl bi_9 ?_
  refine v_iload_n C dX9_seed_3 rfl rfl 1 rfl ?_
  obtain ⟨r3, K2, e1, h⟩ := bd2S h
  refine v_callVi C yv_X9_changes m_1037 (c_X9_changes e1) (Sub.whole hD _ _) ⟨_, _, _, _, _, wd_at sr_0, rfl⟩ (As := [.int 9, .int a1]) rfl rfl (Nat.le_of_ble_eq_true rfl) ⟨Nat.le_of_ble_eq_true rfl, Nat.le_of_ble_eq_true rfl⟩ dX9_seed_4 rfl ?_
  obtain rfl := Option.some.inj h
  exact RET _ _ dX9_seed_7
def C_X9_seed (a1 : Int32) (K : Mem) : Option (Int32 × Mem) := F_X9_seed_0 a1 K
set_option maxRecDepth 100000 in
theorem c_X9_seed {l : Launch} {D : va_G} {cA : FieldType → ClassId} {X : Ex} {ad : Nat → Nat} {a1 : Int32} {K : Mem} {r : Int32} {K' : Mem} (h : C_X9_seed a1 K = some (r, K')) : MI l D cA X yX9_seed cX9_seed 2 (some .int) 1 23 [.ref (ad 0), .int a1] (wd cA ad K 0 shsR) (wd cA ad K' 0 shsR) r :=
  mI_of (by decide +kernel) (Nat.le_of_ble_eq_true rfl) (fun G h1 h2 h3 h4 C hD RET => by subst h1 h2 h3 h4; exact wF_X9_seed_0 C (fun K' => wd_D K' hD) RET  h)
def F_X9_loses_0 (a1 : Int32) (a2 : Int32) (K : Mem) : Option Mem :=
  bd (C_X9_isLost K a1 a2) fun r2 =>
  if r2 = 0 then (
    bd (C_X9_losesOrNot a1 a2 K) fun K5 =>
    gd (inb 7 3058) <|
    gd (inb 7 3058) <|
    nm (up K5 1 (Int32.toNatClampNeg 7) ((K5 1 (Int32.toNatClampNeg 7)) + 1)) fun K8 =>
    some K8
  ) else (
    some K
  )
set_option maxRecDepth 100000 in
set_option maxHeartbeats 4000000 in
theorem wF_X9_loses_0 {G : Ctx} {ad : Nat → Nat} (C : Cx G RX9 cX9_loses 3 2 45) (hD : ∀ K, va_D (gA G) (wd (gC G) ad K 0 shsR)) {res : Mem} (RET : RV G cX9_loses 3 (wd (gC G) ad res 0 shsR)) {a1 : Int32} {a2 : Int32} {K : Mem} (h : F_X9_loses_0 a1 a2 K = some res) : V G 3 (wd (gC G) ad K 0 shsR) 0 [(0, .ref (ad 0)), (1, .int a1), (2, .int a2)] [] := by
  unfold F_X9_loses_0 at h
  refine v_aload_n C dX9_loses_0 rfl rfl 0 rfl ?_
  refine v_iload_n C dX9_loses_1 rfl rfl 1 rfl ?_
  refine v_iload_n C dX9_loses_2 rfl rfl 2 rfl ?_
  obtain ⟨r2, e1, h⟩ := bdS h
  refine v_callVi C yv_X9_isLost m_1057 (c_X9_isLost e1) (Sub.whole hD _ _) ⟨_, _, _, _, _, wd_at sr_0, rfl⟩ (As := [.int a1, .int a2]) rfl rfl (Nat.le_of_ble_eq_true rfl) ⟨Nat.le_of_ble_eq_true rfl, Nat.le_of_ble_eq_true rfl⟩ dX9_loses_3 rfl ?_
  refine v_if_ne C dX9_loses_6 (tgt := 26) (by decide) rfl (fun c3 => ?_) (fun c3 => ?_)
  · have h := ifn c3 h
    obtain rfl := Option.some.inj h
    exact RET _ _ dX9_loses_26
  · have h := ifp c3 h
    refine v_aload_n C dX9_loses_9 rfl rfl 0 rfl ?_
    refine v_iload_n C dX9_loses_10 rfl rfl 1 rfl ?_
    refine v_iload_n C dX9_loses_11 rfl rfl 2 rfl ?_
    obtain ⟨K5, e4, h⟩ := bdS h
    refine v_callVv C yv_X9_losesOrNot m_1062 (c_X9_losesOrNot e4) (Sub.whole hD _ _) ⟨_, _, _, _, _, wd_at sr_0, rfl⟩ (As := [.int a1, .int a2]) rfl rfl (Nat.le_of_ble_eq_true rfl) ⟨Nat.le_of_ble_eq_true rfl, Nat.le_of_ble_eq_true rfl⟩ dX9_loses_12 rfl ?_
    refine v_aload_n C dX9_loses_15 rfl rfl 0 rfl ?_
    refine v_getr C dX9_loses_16 rfl ff_X9_7 sr_0 rfl ?_
    refine v_bipush C dX9_loses_19 rfl bi_7 ?_
    refine v_dup2 C dX9_loses_21 rfl rfl rfl ?_
    obtain ⟨b6, h⟩ := gdS h
    refine v_iald C dX9_loses_22 rfl sr_1 b6 ?_
    refine v_iconst C dX9_loses_23 rfl ic_1 ?_
    refine v_iadd C dX9_loses_24 rfl ?_
    obtain ⟨b7, h⟩ := gdS h
    obtain ⟨K8, eK8, h⟩ := nmS h
    refine v_iast C hD dX9_loses_25 rfl sr_1 b7 eK8 ?_
    obtain rfl := Option.some.inj h
    exact RET _ _ dX9_loses_26
def C_X9_loses (a1 : Int32) (a2 : Int32) (K : Mem) : Option Mem := F_X9_loses_0 a1 a2 K
set_option maxRecDepth 100000 in
theorem c_X9_loses {l : Launch} {D : va_G} {cA : FieldType → ClassId} {X : Ex} {ad : Nat → Nat} {a1 : Int32} {a2 : Int32} {K : Mem} {K' : Mem} (h : C_X9_loses a1 a2 K = some K') : MV l D cA X yX9_loses cX9_loses 3 2 45 [.ref (ad 0), .int a1, .int a2] (wd cA ad K 0 shsR) (wd cA ad K' 0 shsR) :=
  mV_of (by decide +kernel) (Nat.le_of_ble_eq_true rfl) (fun G h1 h2 h3 h4 C hD RET => by subst h1 h2 h3 h4; exact wF_X9_loses_0 C (fun K' => wd_D K' hD) RET  h)
def F_X9_isWalked_0 (K : Mem) : Option Mem :=
  bd2 (C_X9_drawn K) fun r3 K2 =>
  gd (inb 0 3058) <|
  gd (nz (K2 1 (Int32.toNatClampNeg 0))) <|
  nm (jrem r3 (K2 1 (Int32.toNatClampNeg 0))) fun v6 =>
  bd2 (C_X9_drawn K2) fun r9 K8 =>
  nm (jrem r9 8) fun v10 =>
  gd (inb 6 3058) <|
  gd (inb 6 3058) <|
  nm (up K8 1 (Int32.toNatClampNeg 6) ((K8 1 (Int32.toNatClampNeg 6)) + 1)) fun K13 =>
  bd (C_X9_of K13 v6 2) fun r15 =>
  bd2 (C_X9_wears v6 K13) fun r18 K17 =>
  bd (C_X9_within (r15 + r18) 99) fun r20 =>
  bd (C_X9_sets v6 2 r20 K17) fun K22 =>
  bd (C_X9_of K22 v6 2) fun r24 =>
  bd (C_X9_bears K22 v6) fun r26 =>
  if r24 ≤ r26 then (
    some K22
  ) else (
    bd (C_X9_sets v6 2 0 K22) fun K29 =>
    bd (C_X9_loses v6 v10 K29) fun K31 =>
    some K31
  )
set_option maxRecDepth 100000 in
set_option maxHeartbeats 4000000 in
theorem wF_X9_isWalked_0 {G : Ctx} {ad : Nat → Nat} (C : Cx G RX9 cX9_isWalked 3 4 91) (hD : ∀ K, va_D (gA G) (wd (gC G) ad K 0 shsR)) {res : Mem} (RET : RV G cX9_isWalked 3 (wd (gC G) ad res 0 shsR)) {K : Mem} (h : F_X9_isWalked_0 K = some res) : V G 3 (wd (gC G) ad K 0 shsR) 0 [(0, .ref (ad 0))] [] := by
  unfold F_X9_isWalked_0 at h
  refine v_aload_n C dX9_isWalked_0 rfl rfl 0 rfl ?_
  obtain ⟨r3, K2, e1, h⟩ := bd2S h
  refine v_callVi C yv_X9_drawn m_1080 (c_X9_drawn e1) (Sub.whole hD _ _) ⟨_, _, _, _, _, wd_at sr_0, rfl⟩ (As := []) rfl rfl (Nat.le_of_ble_eq_true rfl) ⟨Nat.le_of_ble_eq_true rfl, Nat.le_of_ble_eq_true rfl⟩ dX9_isWalked_1 rfl ?_
  refine v_aload_n C dX9_isWalked_4 rfl rfl 0 rfl ?_
  refine v_getr C dX9_isWalked_5 rfl ff_X9_7 sr_0 rfl ?_
  refine v_iconst C dX9_isWalked_8 rfl ic_0 ?_
  obtain ⟨b4, h⟩ := gdS h
  refine v_iald C dX9_isWalked_9 rfl sr_1 b4 ?_
  obtain ⟨b5, h⟩ := gdS h
  refine v_irem C dX9_isWalked_10 rfl (nzS b5) ?_
  obtain ⟨v6, ev6, h⟩ := nmS h
  refine v_nmi ev6 ?_
  refine v_istore_n C dX9_isWalked_11 rfl rfl (by decide) (L' := [(1, .int v6), (0, .ref (ad 0))]) rfl ?_
  refine v_aload_n C dX9_isWalked_12 rfl rfl 1 rfl ?_
  obtain ⟨r9, K8, e7, h⟩ := bd2S h
  refine v_callVi C yv_X9_drawn m_1080 (c_X9_drawn e7) (Sub.whole hD _ _) ⟨_, _, _, _, _, wd_at sr_0, rfl⟩ (As := []) rfl rfl (Nat.le_of_ble_eq_true rfl) ⟨Nat.le_of_ble_eq_true rfl, Nat.le_of_ble_eq_true rfl⟩ dX9_isWalked_13 rfl ?_
  refine v_bipush C dX9_isWalked_16 rfl bi_8 ?_
  refine v_irem C dX9_isWalked_18 rfl (by decide) ?_
  obtain ⟨v10, ev10, h⟩ := nmS h
  refine v_nmi ev10 ?_
  refine v_istore_n C dX9_isWalked_19 rfl rfl (by decide) (L' := [(2, .int v10), (1, .int v6), (0, .ref (ad 0))]) rfl ?_
  refine v_aload_n C dX9_isWalked_20 rfl rfl 2 rfl ?_
  refine v_getr C dX9_isWalked_21 rfl ff_X9_7 sr_0 rfl ?_
  refine v_bipush C dX9_isWalked_24 rfl bi_6 ?_
  refine v_dup2 C dX9_isWalked_26 rfl rfl rfl ?_
  obtain ⟨b11, h⟩ := gdS h
  refine v_iald C dX9_isWalked_27 rfl sr_1 b11 ?_
  refine v_iconst C dX9_isWalked_28 rfl ic_1 ?_
  refine v_iadd C dX9_isWalked_29 rfl ?_
  obtain ⟨b12, h⟩ := gdS h
  obtain ⟨K13, eK13, h⟩ := nmS h
  refine v_iast C hD dX9_isWalked_30 rfl sr_1 b12 eK13 ?_
  refine v_aload_n C dX9_isWalked_31 rfl rfl 2 rfl ?_
  refine v_iload_n C dX9_isWalked_32 rfl rfl 1 rfl ?_
  refine v_iconst C dX9_isWalked_33 rfl ic_2 ?_
  refine v_aload_n C dX9_isWalked_34 rfl rfl 2 rfl ?_
  refine v_iload_n C dX9_isWalked_35 rfl rfl 1 rfl ?_
  refine v_iconst C dX9_isWalked_36 rfl ic_2 ?_
  obtain ⟨r15, e14, h⟩ := bdS h
  refine v_callVi C yv_X9_of m_980 (c_X9_of e14) (Sub.whole hD _ _) ⟨_, _, _, _, _, wd_at sr_0, rfl⟩ (As := [.int v6, .int 2]) rfl rfl (Nat.le_of_ble_eq_true rfl) ⟨Nat.le_of_ble_eq_true rfl, Nat.le_of_ble_eq_true rfl⟩ dX9_isWalked_37 rfl ?_
  refine v_aload_n C dX9_isWalked_40 rfl rfl 2 rfl ?_
  refine v_iload_n C dX9_isWalked_41 rfl rfl 1 rfl ?_
  obtain ⟨r18, K17, e16, h⟩ := bd2S h
  refine v_callVi C yv_X9_wears m_991 (c_X9_wears e16) (Sub.whole hD _ _) ⟨_, _, _, _, _, wd_at sr_0, rfl⟩ (As := [.int v6]) rfl rfl (Nat.le_of_ble_eq_true rfl) ⟨Nat.le_of_ble_eq_true rfl, Nat.le_of_ble_eq_true rfl⟩ dX9_isWalked_42 rfl ?_
  refine v_iadd C dX9_isWalked_45 rfl ?_
  refine v_bipush C dX9_isWalked_46 rfl bi_99 ?_
  obtain ⟨r20, e19, h⟩ := bdS h
  refine v_callSi C ys_X9_within m_1014 (c_X9_within e19) (Sub.whole hD _ _) (As := [.int (r15 + r18), .int 99]) rfl rfl (Nat.le_of_ble_eq_true rfl) ⟨Nat.le_of_ble_eq_true rfl, Nat.le_of_ble_eq_true rfl⟩ dX9_isWalked_48 rfl ?_
  obtain ⟨K22, e21, h⟩ := bdS h
  refine v_callVv C yv_X9_sets m_959 (c_X9_sets e21) (Sub.whole hD _ _) ⟨_, _, _, _, _, wd_at sr_0, rfl⟩ (As := [.int v6, .int 2, .int r20]) rfl rfl (Nat.le_of_ble_eq_true rfl) ⟨Nat.le_of_ble_eq_true rfl, Nat.le_of_ble_eq_true rfl⟩ dX9_isWalked_51 rfl ?_
  refine v_aload_n C dX9_isWalked_54 rfl rfl 2 rfl ?_
  refine v_iload_n C dX9_isWalked_55 rfl rfl 1 rfl ?_
  refine v_iconst C dX9_isWalked_56 rfl ic_2 ?_
  obtain ⟨r24, e23, h⟩ := bdS h
  refine v_callVi C yv_X9_of m_980 (c_X9_of e23) (Sub.whole hD _ _) ⟨_, _, _, _, _, wd_at sr_0, rfl⟩ (As := [.int v6, .int 2]) rfl rfl (Nat.le_of_ble_eq_true rfl) ⟨Nat.le_of_ble_eq_true rfl, Nat.le_of_ble_eq_true rfl⟩ dX9_isWalked_57 rfl ?_
  refine v_aload_n C dX9_isWalked_60 rfl rfl 2 rfl ?_
  refine v_iload_n C dX9_isWalked_61 rfl rfl 1 rfl ?_
  obtain ⟨r26, e25, h⟩ := bdS h
  refine v_callVi C yv_X9_bears m_1017 (c_X9_bears e25) (Sub.whole hD _ _) ⟨_, _, _, _, _, wd_at sr_0, rfl⟩ (As := [.int v6]) rfl rfl (Nat.le_of_ble_eq_true rfl) ⟨Nat.le_of_ble_eq_true rfl, Nat.le_of_ble_eq_true rfl⟩ dX9_isWalked_62 rfl ?_
  refine v_icmp_le C dX9_isWalked_65 (tgt := 81) (by decide) rfl (fun c27 => ?_) (fun c27 => ?_)
  · have h := ifp c27 h
    obtain rfl := Option.some.inj h
    exact RET _ _ dX9_isWalked_81
  · have h := ifn c27 h
    refine v_aload_n C dX9_isWalked_68 rfl rfl 2 rfl ?_
    refine v_iload_n C dX9_isWalked_69 rfl rfl 1 rfl ?_
    refine v_iconst C dX9_isWalked_70 rfl ic_2 ?_
    refine v_iconst C dX9_isWalked_71 rfl ic_0 ?_
    obtain ⟨K29, e28, h⟩ := bdS h
    refine v_callVv C yv_X9_sets m_959 (c_X9_sets e28) (Sub.whole hD _ _) ⟨_, _, _, _, _, wd_at sr_0, rfl⟩ (As := [.int v6, .int 2, .int 0]) rfl rfl (Nat.le_of_ble_eq_true rfl) ⟨Nat.le_of_ble_eq_true rfl, Nat.le_of_ble_eq_true rfl⟩ dX9_isWalked_72 rfl ?_
    refine v_aload_n C dX9_isWalked_75 rfl rfl 2 rfl ?_
    refine v_iload_n C dX9_isWalked_76 rfl rfl 1 rfl ?_
    refine v_iload_n C dX9_isWalked_77 rfl rfl 0 rfl ?_
    obtain ⟨K31, e30, h⟩ := bdS h
    refine v_callVv C yv_X9_loses m_1105 (c_X9_loses e30) (Sub.whole hD _ _) ⟨_, _, _, _, _, wd_at sr_0, rfl⟩ (As := [.int v6, .int v10]) rfl rfl (Nat.le_of_ble_eq_true rfl) ⟨Nat.le_of_ble_eq_true rfl, Nat.le_of_ble_eq_true rfl⟩ dX9_isWalked_78 rfl ?_
    obtain rfl := Option.some.inj h
    exact RET _ _ dX9_isWalked_81
def C_X9_isWalked (K : Mem) : Option Mem := F_X9_isWalked_0 K
set_option maxRecDepth 100000 in
theorem c_X9_isWalked {l : Launch} {D : va_G} {cA : FieldType → ClassId} {X : Ex} {ad : Nat → Nat} {K : Mem} {K' : Mem} (h : C_X9_isWalked K = some K') : MV l D cA X yX9_isWalked cX9_isWalked 3 4 91 [.ref (ad 0)] (wd cA ad K 0 shsR) (wd cA ad K' 0 shsR) :=
  mV_of (by decide +kernel) (Nat.le_of_ble_eq_true rfl) (fun G h1 h2 h3 h4 C hD RET => by subst h1 h2 h3 h4; exact wF_X9_isWalked_0 C (fun K' => wd_D K' hD) RET  h)
def F_X9_mends_27 (a1 : Int32) (K : Mem) : Option Mem :=
  gd (inb 0 3058) <|
  if (K 1 (Int32.toNatClampNeg 0)) ≤ a1 then (
    some K
  ) else (
    bd (C_X9_of K a1 3) fun r10 =>
    bd (C_X9_of K a1 3) fun r12 =>
    bd (C_X9_sets a1 3 (r10 &&& (r12 - 1)) K) fun K14 =>
    gd (inb 8 3058) <|
    gd (inb 8 3058) <|
    nm (up K14 1 (Int32.toNatClampNeg 8) ((K14 1 (Int32.toNatClampNeg 8)) + 1)) fun K17 =>
    some K17
  )
set_option maxRecDepth 100000 in
set_option maxHeartbeats 4000000 in
theorem wF_X9_mends_27 {G : Ctx} {ad : Nat → Nat} (C : Cx G RX9 cX9_mends 2 1 23) (hD : ∀ K, va_D (gA G) (wd (gC G) ad K 0 shsR)) {res : Mem} (RET : RV G cX9_mends 2 (wd (gC G) ad res 0 shsR)) {a1 : Int32} {K : Mem} (h : F_X9_mends_27 a1 K = some res) : V G 2 (wd (gC G) ad K 0 shsR) 27 [(0, .ref (ad 0)), (1, .int a1)] [] := by
  unfold F_X9_mends_27 at h
  refine v_iload_n C dX9_mends_27 rfl rfl 1 rfl ?_
  refine v_aload_n C dX9_mends_28 rfl rfl 0 rfl ?_
  refine v_getr C dX9_mends_29 rfl ff_X9_7 sr_0 rfl ?_
  refine v_iconst C dX9_mends_32 rfl ic_0 ?_
  obtain ⟨b7, h⟩ := gdS h
  refine v_iald C dX9_mends_33 rfl sr_1 b7 ?_
  refine v_icmp_ge C dX9_mends_34 (tgt := 69) (by decide) rfl (fun c8 => ?_) (fun c8 => ?_)
  · have h := ifp c8 h
    obtain rfl := Option.some.inj h
    exact RET _ _ dX9_mends_69
  · have h := ifn c8 h
    refine v_aload_n C dX9_mends_37 rfl rfl 0 rfl ?_
    refine v_iload_n C dX9_mends_38 rfl rfl 1 rfl ?_
    refine v_iconst C dX9_mends_39 rfl ic_3 ?_
    refine v_aload_n C dX9_mends_40 rfl rfl 0 rfl ?_
    refine v_iload_n C dX9_mends_41 rfl rfl 1 rfl ?_
    refine v_iconst C dX9_mends_42 rfl ic_3 ?_
    obtain ⟨r10, e9, h⟩ := bdS h
    refine v_callVi C yv_X9_of m_980 (c_X9_of e9) (Sub.whole hD _ _) ⟨_, _, _, _, _, wd_at sr_0, rfl⟩ (As := [.int a1, .int 3]) rfl rfl (Nat.le_of_ble_eq_true rfl) ⟨Nat.le_of_ble_eq_true rfl, Nat.le_of_ble_eq_true rfl⟩ dX9_mends_43 rfl ?_
    refine v_aload_n C dX9_mends_46 rfl rfl 0 rfl ?_
    refine v_iload_n C dX9_mends_47 rfl rfl 1 rfl ?_
    refine v_iconst C dX9_mends_48 rfl ic_3 ?_
    obtain ⟨r12, e11, h⟩ := bdS h
    refine v_callVi C yv_X9_of m_980 (c_X9_of e11) (Sub.whole hD _ _) ⟨_, _, _, _, _, wd_at sr_0, rfl⟩ (As := [.int a1, .int 3]) rfl rfl (Nat.le_of_ble_eq_true rfl) ⟨Nat.le_of_ble_eq_true rfl, Nat.le_of_ble_eq_true rfl⟩ dX9_mends_49 rfl ?_
    refine v_iconst C dX9_mends_52 rfl ic_1 ?_
    refine v_isub C dX9_mends_53 rfl ?_
    refine v_iand C dX9_mends_54 rfl ?_
    obtain ⟨K14, e13, h⟩ := bdS h
    refine v_callVv C yv_X9_sets m_959 (c_X9_sets e13) (Sub.whole hD _ _) ⟨_, _, _, _, _, wd_at sr_0, rfl⟩ (As := [.int a1, .int 3, .int (r10 &&& (r12 - 1))]) rfl rfl (Nat.le_of_ble_eq_true rfl) ⟨Nat.le_of_ble_eq_true rfl, Nat.le_of_ble_eq_true rfl⟩ dX9_mends_55 rfl ?_
    refine v_aload_n C dX9_mends_58 rfl rfl 0 rfl ?_
    refine v_getr C dX9_mends_59 rfl ff_X9_7 sr_0 rfl ?_
    refine v_bipush C dX9_mends_62 rfl bi_8 ?_
    refine v_dup2 C dX9_mends_64 rfl rfl rfl ?_
    obtain ⟨b15, h⟩ := gdS h
    refine v_iald C dX9_mends_65 rfl sr_1 b15 ?_
    refine v_iconst C dX9_mends_66 rfl ic_1 ?_
    refine v_iadd C dX9_mends_67 rfl ?_
    obtain ⟨b16, h⟩ := gdS h
    obtain ⟨K17, eK17, h⟩ := nmS h
    refine v_iast C hD dX9_mends_68 rfl sr_1 b16 eK17 ?_
    obtain rfl := Option.some.inj h
    exact RET _ _ dX9_mends_69
def F_X9_mends_2 (k2 : Int32 → Mem → Option Mem) (a1 : Int32) (K : Mem) : Option Mem :=
  gd (inb 0 3058) <|
  if (K 1 (Int32.toNatClampNeg 0)) ≤ a1 then (
    F_X9_mends_27 a1 K
  ) else (
    bd (C_X9_of K a1 3) fun r4 =>
    if r4 = 0 then (
      nm (a1 + 1) fun v6 =>
      k2 v6 K
    ) else (
      F_X9_mends_27 a1 K
    )
  )
def L_X9_mends_2 : Nat → Int32 → Mem → Option Mem
  | 0, _, _ => none
  | n + 1, a1, K => F_X9_mends_2 (fun a1 K => L_X9_mends_2 n a1 K) a1 K
set_option maxRecDepth 100000 in
set_option maxHeartbeats 4000000 in
theorem wF_X9_mends_2 {G : Ctx} {ad : Nat → Nat} {k2 : Int32 → Mem → Option Mem} (C : Cx G RX9 cX9_mends 2 1 23) (hD : ∀ K, va_D (gA G) (wd (gC G) ad K 0 shsR)) {res : Mem} (RET : RV G cX9_mends 2 (wd (gC G) ad res 0 shsR)) (hk2 : ∀ {a1 : Int32} {K : Mem} , k2 a1 K = some res → V G 2 (wd (gC G) ad K 0 shsR) 2 [(0, .ref (ad 0)), (1, .int a1)] []) {a1 : Int32} {K : Mem} (h : F_X9_mends_2 k2 a1 K = some res) : V G 2 (wd (gC G) ad K 0 shsR) 2 [(0, .ref (ad 0)), (1, .int a1)] [] := by
  unfold F_X9_mends_2 at h
  refine v_iload_n C dX9_mends_2 rfl rfl 1 rfl ?_
  refine v_aload_n C dX9_mends_3 rfl rfl 0 rfl ?_
  refine v_getr C dX9_mends_4 rfl ff_X9_7 sr_0 rfl ?_
  refine v_iconst C dX9_mends_7 rfl ic_0 ?_
  obtain ⟨b1, h⟩ := gdS h
  refine v_iald C dX9_mends_8 rfl sr_1 b1 ?_
  refine v_icmp_ge C dX9_mends_9 (tgt := 27) (by decide) rfl (fun c2 => ?_) (fun c2 => ?_)
  · have h := ifp c2 h
    exact wF_X9_mends_27 C hD RET h
  · have h := ifn c2 h
    refine v_aload_n C dX9_mends_12 rfl rfl 0 rfl ?_
    refine v_iload_n C dX9_mends_13 rfl rfl 1 rfl ?_
    refine v_iconst C dX9_mends_14 rfl ic_3 ?_
    obtain ⟨r4, e3, h⟩ := bdS h
    refine v_callVi C yv_X9_of m_980 (c_X9_of e3) (Sub.whole hD _ _) ⟨_, _, _, _, _, wd_at sr_0, rfl⟩ (As := [.int a1, .int 3]) rfl rfl (Nat.le_of_ble_eq_true rfl) ⟨Nat.le_of_ble_eq_true rfl, Nat.le_of_ble_eq_true rfl⟩ dX9_mends_15 rfl ?_
    refine v_if_ne C dX9_mends_18 (tgt := 27) (by decide) rfl (fun c5 => ?_) (fun c5 => ?_)
    · have h := ifn c5 h
      exact wF_X9_mends_27 C hD RET h
    · have h := ifp c5 h
      obtain ⟨v6, ev6, h⟩ := nmS h
      refine v_iinc C dX9_mends_21 rfl 1 rfl (v := v6) (by rw [ev6]; rfl) (by decide) (L' := [(1, .int v6), (0, .ref (ad 0))]) rfl ?_
      refine v_goto C dX9_mends_24 (tgt := 2) (by decide) ?_
      refine v_sub [1, 0] rfl ?_
      exact hk2 h
theorem wL_X9_mends_2 {G : Ctx} {ad : Nat → Nat} (C : Cx G RX9 cX9_mends 2 1 23) (hD : ∀ K, va_D (gA G) (wd (gC G) ad K 0 shsR)) {res : Mem} (RET : RV G cX9_mends 2 (wd (gC G) ad res 0 shsR)) : ∀ (n : Nat) {a1 : Int32} {K : Mem} (h : L_X9_mends_2 n a1 K = some res), V G 2 (wd (gC G) ad K 0 shsR) 2 [(0, .ref (ad 0)), (1, .int a1)] [] := by
  intro n
  induction n with
  | zero =>
    intro a1 K h
    cases (show (none : Option Mem) = some res from h)
  | succ n ih =>
    intro a1 K h
    exact wF_X9_mends_2 (k2 := fun a1 K => L_X9_mends_2  n a1 K) C hD RET (fun h => ih h) h
def F_X9_mends_0 (K : Mem) : Option Mem :=
  L_X9_mends_2 FU 0 K
set_option maxRecDepth 100000 in
set_option maxHeartbeats 4000000 in
theorem wF_X9_mends_0 {G : Ctx} {ad : Nat → Nat} (C : Cx G RX9 cX9_mends 2 1 23) (hD : ∀ K, va_D (gA G) (wd (gC G) ad K 0 shsR)) {res : Mem} (RET : RV G cX9_mends 2 (wd (gC G) ad res 0 shsR)) {K : Mem} (h : F_X9_mends_0 K = some res) : V G 2 (wd (gC G) ad K 0 shsR) 0 [(0, .ref (ad 0))] [] := by
  unfold F_X9_mends_0 at h
  refine v_iconst C dX9_mends_0 rfl ic_0 ?_
  refine v_istore_n C dX9_mends_1 rfl rfl (by decide) (L' := [(1, .int 0), (0, .ref (ad 0))]) rfl ?_
  refine v_sub [1, 0] rfl ?_
  exact wL_X9_mends_2 C hD RET FU h
def C_X9_mends (K : Mem) : Option Mem := F_X9_mends_0 K
set_option maxRecDepth 100000 in
theorem c_X9_mends {l : Launch} {D : va_G} {cA : FieldType → ClassId} {X : Ex} {ad : Nat → Nat} {K : Mem} {K' : Mem} (h : C_X9_mends K = some K') : MV l D cA X yX9_mends cX9_mends 2 1 23 [.ref (ad 0)] (wd cA ad K 0 shsR) (wd cA ad K' 0 shsR) :=
  mV_of (by decide +kernel) (Nat.le_of_ble_eq_true rfl) (fun G h1 h2 h3 h4 C hD RET => by subst h1 h2 h3 h4; exact wF_X9_mends_0 C (fun K' => wd_D K' hD) RET  h)
def F_X9_goesOn_127 (K : Mem) : Option Mem :=
  bd2 (C_X9_drawn K) fun r44 K43 =>
  gd (inb 5 3058) <|
  if (K43 1 (Int32.toNatClampNeg 5)) ≤ (jrem r44 100) then (
    gd (inb 2 3058) <|
    gd (inb 2 3058) <|
    nm (up K43 1 (Int32.toNatClampNeg 2) ((K43 1 (Int32.toNatClampNeg 2)) + 1)) fun K49 =>
    some K49
  ) else (
    bd (C_X9_mends K43) fun K51 =>
    gd (inb 2 3058) <|
    gd (inb 2 3058) <|
    nm (up K51 1 (Int32.toNatClampNeg 2) ((K51 1 (Int32.toNatClampNeg 2)) + 1)) fun K54 =>
    some K54
  )
set_option maxRecDepth 100000 in
set_option maxHeartbeats 4000000 in
theorem wF_X9_goesOn_127 {G : Ctx} {ad : Nat → Nat} (C : Cx G RX9 cX9_goesOn 3 5 113) (hD : ∀ K, va_D (gA G) (wd (gC G) ad K 0 shsR)) {res : Mem} (RET : RV G cX9_goesOn 3 (wd (gC G) ad res 0 shsR)) {K : Mem} (h : F_X9_goesOn_127 K = some res) : V G 3 (wd (gC G) ad K 0 shsR) 127 [(0, .ref (ad 0))] [] := by
  unfold F_X9_goesOn_127 at h
  refine v_aload_n C dX9_goesOn_127 rfl rfl 0 rfl ?_
  obtain ⟨r44, K43, e42, h⟩ := bd2S h
  refine v_callVi C yv_X9_drawn m_1080 (c_X9_drawn e42) (Sub.whole hD _ _) ⟨_, _, _, _, _, wd_at sr_0, rfl⟩ (As := []) rfl rfl (Nat.le_of_ble_eq_true rfl) ⟨Nat.le_of_ble_eq_true rfl, Nat.le_of_ble_eq_true rfl⟩ dX9_goesOn_128 rfl ?_
  refine v_bipush C dX9_goesOn_131 rfl bi_100 ?_
  refine v_irem C dX9_goesOn_133 rfl (by decide) ?_
  refine v_aload_n C dX9_goesOn_134 rfl rfl 0 rfl ?_
  refine v_getr C dX9_goesOn_135 rfl ff_X9_7 sr_0 rfl ?_
  refine v_iconst C dX9_goesOn_138 rfl ic_5 ?_
  obtain ⟨b45, h⟩ := gdS h
  refine v_iald C dX9_goesOn_139 rfl sr_1 b45 ?_
  refine v_icmp_ge C dX9_goesOn_140 (tgt := 147) (by decide) rfl (fun c46 => ?_) (fun c46 => ?_)
  · have h := ifp c46 h
    refine v_aload_n C dX9_goesOn_147 rfl rfl 0 rfl ?_
    refine v_getr C dX9_goesOn_148 rfl ff_X9_7 sr_0 rfl ?_
    refine v_iconst C dX9_goesOn_151 rfl ic_2 ?_
    refine v_dup2 C dX9_goesOn_152 rfl rfl rfl ?_
    obtain ⟨b47, h⟩ := gdS h
    refine v_iald C dX9_goesOn_153 rfl sr_1 b47 ?_
    refine v_iconst C dX9_goesOn_154 rfl ic_1 ?_
    refine v_iadd C dX9_goesOn_155 rfl ?_
    obtain ⟨b48, h⟩ := gdS h
    obtain ⟨K49, eK49, h⟩ := nmS h
    refine v_iast C hD dX9_goesOn_156 rfl sr_1 b48 eK49 ?_
    obtain rfl := Option.some.inj h
    exact RET _ _ dX9_goesOn_157
  · have h := ifn c46 h
    refine v_aload_n C dX9_goesOn_143 rfl rfl 0 rfl ?_
    obtain ⟨K51, e50, h⟩ := bdS h
    refine v_callVv C yv_X9_mends m_1109 (c_X9_mends e50) (Sub.whole hD _ _) ⟨_, _, _, _, _, wd_at sr_0, rfl⟩ (As := []) rfl rfl (Nat.le_of_ble_eq_true rfl) ⟨Nat.le_of_ble_eq_true rfl, Nat.le_of_ble_eq_true rfl⟩ dX9_goesOn_144 rfl ?_
    refine v_aload_n C dX9_goesOn_147 rfl rfl 0 rfl ?_
    refine v_getr C dX9_goesOn_148 rfl ff_X9_7 sr_0 rfl ?_
    refine v_iconst C dX9_goesOn_151 rfl ic_2 ?_
    refine v_dup2 C dX9_goesOn_152 rfl rfl rfl ?_
    obtain ⟨b52, h⟩ := gdS h
    refine v_iald C dX9_goesOn_153 rfl sr_1 b52 ?_
    refine v_iconst C dX9_goesOn_154 rfl ic_1 ?_
    refine v_iadd C dX9_goesOn_155 rfl ?_
    obtain ⟨b53, h⟩ := gdS h
    obtain ⟨K54, eK54, h⟩ := nmS h
    refine v_iast C hD dX9_goesOn_156 rfl sr_1 b53 eK54 ?_
    obtain rfl := Option.some.inj h
    exact RET _ _ dX9_goesOn_157
def F_X9_goesOn_78 (K : Mem) : Option Mem :=
  bd2 (C_X9_drawn K) fun r26 K25 =>
  gd (inb 4 3058) <|
  if (K25 1 (Int32.toNatClampNeg 4)) ≤ (jrem r26 100) then (
    F_X9_goesOn_127 K25
  ) else (
    gd (inb 0 3058) <|
    if (K25 1 (Int32.toNatClampNeg 0)) ≤ 0 then (
      F_X9_goesOn_127 K25
    ) else (
      bd2 (C_X9_drawn K25) fun r33 K32 =>
      gd (inb 0 3058) <|
      gd (nz (K32 1 (Int32.toNatClampNeg 0))) <|
      nm (jrem r33 (K32 1 (Int32.toNatClampNeg 0))) fun v36 =>
      bd2 (C_X9_drawn K32) fun r39 K38 =>
      bd (C_X9_loses v36 (jrem r39 8) K38) fun K41 =>
      F_X9_goesOn_127 K41
    )
  )
set_option maxRecDepth 100000 in
set_option maxHeartbeats 4000000 in
theorem wF_X9_goesOn_78 {G : Ctx} {ad : Nat → Nat} (C : Cx G RX9 cX9_goesOn 3 5 113) (hD : ∀ K, va_D (gA G) (wd (gC G) ad K 0 shsR)) {res : Mem} (RET : RV G cX9_goesOn 3 (wd (gC G) ad res 0 shsR)) {K : Mem} (h : F_X9_goesOn_78 K = some res) : V G 3 (wd (gC G) ad K 0 shsR) 78 [(0, .ref (ad 0))] [] := by
  unfold F_X9_goesOn_78 at h
  refine v_aload_n C dX9_goesOn_78 rfl rfl 0 rfl ?_
  obtain ⟨r26, K25, e24, h⟩ := bd2S h
  refine v_callVi C yv_X9_drawn m_1080 (c_X9_drawn e24) (Sub.whole hD _ _) ⟨_, _, _, _, _, wd_at sr_0, rfl⟩ (As := []) rfl rfl (Nat.le_of_ble_eq_true rfl) ⟨Nat.le_of_ble_eq_true rfl, Nat.le_of_ble_eq_true rfl⟩ dX9_goesOn_79 rfl ?_
  refine v_bipush C dX9_goesOn_82 rfl bi_100 ?_
  refine v_irem C dX9_goesOn_84 rfl (by decide) ?_
  refine v_aload_n C dX9_goesOn_85 rfl rfl 0 rfl ?_
  refine v_getr C dX9_goesOn_86 rfl ff_X9_7 sr_0 rfl ?_
  refine v_iconst C dX9_goesOn_89 rfl ic_4 ?_
  obtain ⟨b27, h⟩ := gdS h
  refine v_iald C dX9_goesOn_90 rfl sr_1 b27 ?_
  refine v_icmp_ge C dX9_goesOn_91 (tgt := 127) (by decide) rfl (fun c28 => ?_) (fun c28 => ?_)
  · have h := ifp c28 h
    exact wF_X9_goesOn_127 C hD RET h
  · have h := ifn c28 h
    refine v_aload_n C dX9_goesOn_94 rfl rfl 0 rfl ?_
    refine v_getr C dX9_goesOn_95 rfl ff_X9_7 sr_0 rfl ?_
    refine v_iconst C dX9_goesOn_98 rfl ic_0 ?_
    obtain ⟨b29, h⟩ := gdS h
    refine v_iald C dX9_goesOn_99 rfl sr_1 b29 ?_
    refine v_if_le C dX9_goesOn_100 (tgt := 127) (by decide) rfl (fun c30 => ?_) (fun c30 => ?_)
    · have h := ifp c30 h
      exact wF_X9_goesOn_127 C hD RET h
    · have h := ifn c30 h
      refine v_aload_n C dX9_goesOn_103 rfl rfl 0 rfl ?_
      obtain ⟨r33, K32, e31, h⟩ := bd2S h
      refine v_callVi C yv_X9_drawn m_1080 (c_X9_drawn e31) (Sub.whole hD _ _) ⟨_, _, _, _, _, wd_at sr_0, rfl⟩ (As := []) rfl rfl (Nat.le_of_ble_eq_true rfl) ⟨Nat.le_of_ble_eq_true rfl, Nat.le_of_ble_eq_true rfl⟩ dX9_goesOn_104 rfl ?_
      refine v_aload_n C dX9_goesOn_107 rfl rfl 0 rfl ?_
      refine v_getr C dX9_goesOn_108 rfl ff_X9_7 sr_0 rfl ?_
      refine v_iconst C dX9_goesOn_111 rfl ic_0 ?_
      obtain ⟨b34, h⟩ := gdS h
      refine v_iald C dX9_goesOn_112 rfl sr_1 b34 ?_
      obtain ⟨b35, h⟩ := gdS h
      refine v_irem C dX9_goesOn_113 rfl (nzS b35) ?_
      obtain ⟨v36, ev36, h⟩ := nmS h
      refine v_nmi ev36 ?_
      refine v_istore_n C dX9_goesOn_114 rfl rfl (by decide) (L' := [(1, .int v36), (0, .ref (ad 0))]) rfl ?_
      refine v_aload_n C dX9_goesOn_115 rfl rfl 1 rfl ?_
      refine v_iload_n C dX9_goesOn_116 rfl rfl 0 rfl ?_
      refine v_aload_n C dX9_goesOn_117 rfl rfl 1 rfl ?_
      obtain ⟨r39, K38, e37, h⟩ := bd2S h
      refine v_callVi C yv_X9_drawn m_1080 (c_X9_drawn e37) (Sub.whole hD _ _) ⟨_, _, _, _, _, wd_at sr_0, rfl⟩ (As := []) rfl rfl (Nat.le_of_ble_eq_true rfl) ⟨Nat.le_of_ble_eq_true rfl, Nat.le_of_ble_eq_true rfl⟩ dX9_goesOn_118 rfl ?_
      refine v_bipush C dX9_goesOn_121 rfl bi_8 ?_
      refine v_irem C dX9_goesOn_123 rfl (by decide) ?_
      obtain ⟨K41, e40, h⟩ := bdS h
      refine v_callVv C yv_X9_loses m_1105 (c_X9_loses e40) (Sub.whole hD _ _) ⟨_, _, _, _, _, wd_at sr_0, rfl⟩ (As := [.int v36, .int (jrem r39 8)]) rfl rfl (Nat.le_of_ble_eq_true rfl) ⟨Nat.le_of_ble_eq_true rfl, Nat.le_of_ble_eq_true rfl⟩ dX9_goesOn_124 rfl ?_
      refine v_sub [1] rfl ?_
      exact wF_X9_goesOn_127 C hD RET h
def F_X9_goesOn_54 (k54 : Int32 → Mem → Option Mem) (a1 : Int32) (K : Mem) : Option Mem :=
  if 3 ≤ a1 then (
    F_X9_goesOn_78 K
  ) else (
    gd (inb 0 3058) <|
    if (K 1 (Int32.toNatClampNeg 0)) ≤ 0 then (
      F_X9_goesOn_78 K
    ) else (
      bd (C_X9_isWalked K) fun K22 =>
      nm (a1 + 1) fun v23 =>
      k54 v23 K22
    )
  )
def L_X9_goesOn_54 : Nat → Int32 → Mem → Option Mem
  | 0, _, _ => none
  | n + 1, a1, K => F_X9_goesOn_54 (fun a1 K => L_X9_goesOn_54 n a1 K) a1 K
set_option maxRecDepth 100000 in
set_option maxHeartbeats 4000000 in
theorem wF_X9_goesOn_54 {G : Ctx} {ad : Nat → Nat} {k54 : Int32 → Mem → Option Mem} (C : Cx G RX9 cX9_goesOn 3 5 113) (hD : ∀ K, va_D (gA G) (wd (gC G) ad K 0 shsR)) {res : Mem} (RET : RV G cX9_goesOn 3 (wd (gC G) ad res 0 shsR)) (hk54 : ∀ {a1 : Int32} {K : Mem} , k54 a1 K = some res → V G 3 (wd (gC G) ad K 0 shsR) 54 [(0, .ref (ad 0)), (1, .int a1)] []) {a1 : Int32} {K : Mem} (h : F_X9_goesOn_54 k54 a1 K = some res) : V G 3 (wd (gC G) ad K 0 shsR) 54 [(0, .ref (ad 0)), (1, .int a1)] [] := by
  unfold F_X9_goesOn_54 at h
  refine v_iload_n C dX9_goesOn_54 rfl rfl 1 rfl ?_
  refine v_iconst C dX9_goesOn_55 rfl ic_3 ?_
  refine v_icmp_ge C dX9_goesOn_56 (tgt := 78) (by decide) rfl (fun c18 => ?_) (fun c18 => ?_)
  · have h := ifp c18 h
    refine v_sub [0] rfl ?_
    exact wF_X9_goesOn_78 C hD RET h
  · have h := ifn c18 h
    refine v_aload_n C dX9_goesOn_59 rfl rfl 0 rfl ?_
    refine v_getr C dX9_goesOn_60 rfl ff_X9_7 sr_0 rfl ?_
    refine v_iconst C dX9_goesOn_63 rfl ic_0 ?_
    obtain ⟨b19, h⟩ := gdS h
    refine v_iald C dX9_goesOn_64 rfl sr_1 b19 ?_
    refine v_if_le C dX9_goesOn_65 (tgt := 78) (by decide) rfl (fun c20 => ?_) (fun c20 => ?_)
    · have h := ifp c20 h
      refine v_sub [0] rfl ?_
      exact wF_X9_goesOn_78 C hD RET h
    · have h := ifn c20 h
      refine v_aload_n C dX9_goesOn_68 rfl rfl 0 rfl ?_
      obtain ⟨K22, e21, h⟩ := bdS h
      refine v_callVv C yv_X9_isWalked m_1101 (c_X9_isWalked e21) (Sub.whole hD _ _) ⟨_, _, _, _, _, wd_at sr_0, rfl⟩ (As := []) rfl rfl (Nat.le_of_ble_eq_true rfl) ⟨Nat.le_of_ble_eq_true rfl, Nat.le_of_ble_eq_true rfl⟩ dX9_goesOn_69 rfl ?_
      obtain ⟨v23, ev23, h⟩ := nmS h
      refine v_iinc C dX9_goesOn_72 rfl 1 rfl (v := v23) (by rw [ev23]; rfl) (by decide) (L' := [(1, .int v23), (0, .ref (ad 0))]) rfl ?_
      refine v_goto C dX9_goesOn_75 (tgt := 54) (by decide) ?_
      refine v_sub [1, 0] rfl ?_
      exact hk54 h
theorem wL_X9_goesOn_54 {G : Ctx} {ad : Nat → Nat} (C : Cx G RX9 cX9_goesOn 3 5 113) (hD : ∀ K, va_D (gA G) (wd (gC G) ad K 0 shsR)) {res : Mem} (RET : RV G cX9_goesOn 3 (wd (gC G) ad res 0 shsR)) : ∀ (n : Nat) {a1 : Int32} {K : Mem} (h : L_X9_goesOn_54 n a1 K = some res), V G 3 (wd (gC G) ad K 0 shsR) 54 [(0, .ref (ad 0)), (1, .int a1)] [] := by
  intro n
  induction n with
  | zero =>
    intro a1 K h
    cases (show (none : Option Mem) = some res from h)
  | succ n ih =>
    intro a1 K h
    exact wF_X9_goesOn_54 (k54 := fun a1 K => L_X9_goesOn_54  n a1 K) C hD RET (fun h => ih h) h
def F_X9_goesOn_0 (K : Mem) : Option Mem :=
  bd2 (C_X9_drawn K) fun r3 K2 =>
  gd (inb 3 3058) <|
  if (K2 1 (Int32.toNatClampNeg 3)) ≤ (jrem r3 100) then (
    L_X9_goesOn_54 FU 0 K2
  ) else (
    bd2 (C_X9_drawn K2) fun r8 K7 =>
    nm (jrem r8 6) fun v9 =>
    bd2 (C_X9_drawn K7) fun r12 K11 =>
    nm (1 + (jrem r12 9)) fun v13 =>
    gd (inb 0 3058) <|
    if 12 ≤ (K11 1 (Int32.toNatClampNeg 0)) then (
      L_X9_goesOn_54 FU 0 K11
    ) else (
      bd (C_X9_comes v9 v13 0 K11) fun K17 =>
      L_X9_goesOn_54 FU 0 K17
    )
  )
set_option maxRecDepth 100000 in
set_option maxHeartbeats 4000000 in
theorem wF_X9_goesOn_0 {G : Ctx} {ad : Nat → Nat} (C : Cx G RX9 cX9_goesOn 3 5 113) (hD : ∀ K, va_D (gA G) (wd (gC G) ad K 0 shsR)) {res : Mem} (RET : RV G cX9_goesOn 3 (wd (gC G) ad res 0 shsR)) {K : Mem} (h : F_X9_goesOn_0 K = some res) : V G 3 (wd (gC G) ad K 0 shsR) 0 [(0, .ref (ad 0))] [] := by
  unfold F_X9_goesOn_0 at h
  refine v_aload_n C dX9_goesOn_0 rfl rfl 0 rfl ?_
  obtain ⟨r3, K2, e1, h⟩ := bd2S h
  refine v_callVi C yv_X9_drawn m_1080 (c_X9_drawn e1) (Sub.whole hD _ _) ⟨_, _, _, _, _, wd_at sr_0, rfl⟩ (As := []) rfl rfl (Nat.le_of_ble_eq_true rfl) ⟨Nat.le_of_ble_eq_true rfl, Nat.le_of_ble_eq_true rfl⟩ dX9_goesOn_1 rfl ?_
  refine v_bipush C dX9_goesOn_4 rfl bi_100 ?_
  refine v_irem C dX9_goesOn_6 rfl (by decide) ?_
  refine v_aload_n C dX9_goesOn_7 rfl rfl 0 rfl ?_
  refine v_getr C dX9_goesOn_8 rfl ff_X9_7 sr_0 rfl ?_
  refine v_iconst C dX9_goesOn_11 rfl ic_3 ?_
  obtain ⟨b4, h⟩ := gdS h
  refine v_iald C dX9_goesOn_12 rfl sr_1 b4 ?_
  refine v_icmp_ge C dX9_goesOn_13 (tgt := 52) (by decide) rfl (fun c5 => ?_) (fun c5 => ?_)
  · have h := ifp c5 h
    refine v_iconst C dX9_goesOn_52 rfl ic_0 ?_
    refine v_istore_n C dX9_goesOn_53 rfl rfl (by decide) (L' := [(1, .int 0), (0, .ref (ad 0))]) rfl ?_
    refine v_sub [1, 0] rfl ?_
    exact wL_X9_goesOn_54 C hD RET FU h
  · have h := ifn c5 h
    refine v_aload_n C dX9_goesOn_16 rfl rfl 0 rfl ?_
    obtain ⟨r8, K7, e6, h⟩ := bd2S h
    refine v_callVi C yv_X9_drawn m_1080 (c_X9_drawn e6) (Sub.whole hD _ _) ⟨_, _, _, _, _, wd_at sr_0, rfl⟩ (As := []) rfl rfl (Nat.le_of_ble_eq_true rfl) ⟨Nat.le_of_ble_eq_true rfl, Nat.le_of_ble_eq_true rfl⟩ dX9_goesOn_17 rfl ?_
    refine v_bipush C dX9_goesOn_20 rfl bi_6 ?_
    refine v_irem C dX9_goesOn_22 rfl (by decide) ?_
    obtain ⟨v9, ev9, h⟩ := nmS h
    refine v_nmi ev9 ?_
    refine v_istore_n C dX9_goesOn_23 rfl rfl (by decide) (L' := [(1, .int v9), (0, .ref (ad 0))]) rfl ?_
    refine v_iconst C dX9_goesOn_24 rfl ic_1 ?_
    refine v_aload_n C dX9_goesOn_25 rfl rfl 1 rfl ?_
    obtain ⟨r12, K11, e10, h⟩ := bd2S h
    refine v_callVi C yv_X9_drawn m_1080 (c_X9_drawn e10) (Sub.whole hD _ _) ⟨_, _, _, _, _, wd_at sr_0, rfl⟩ (As := []) rfl rfl (Nat.le_of_ble_eq_true rfl) ⟨Nat.le_of_ble_eq_true rfl, Nat.le_of_ble_eq_true rfl⟩ dX9_goesOn_26 rfl ?_
    refine v_bipush C dX9_goesOn_29 rfl bi_9 ?_
    refine v_irem C dX9_goesOn_31 rfl (by decide) ?_
    refine v_iadd C dX9_goesOn_32 rfl ?_
    obtain ⟨v13, ev13, h⟩ := nmS h
    refine v_nmi ev13 ?_
    refine v_istore_n C dX9_goesOn_33 rfl rfl (by decide) (L' := [(2, .int v13), (1, .int v9), (0, .ref (ad 0))]) rfl ?_
    refine v_aload_n C dX9_goesOn_34 rfl rfl 2 rfl ?_
    refine v_getr C dX9_goesOn_35 rfl ff_X9_7 sr_0 rfl ?_
    refine v_iconst C dX9_goesOn_38 rfl ic_0 ?_
    obtain ⟨b14, h⟩ := gdS h
    refine v_iald C dX9_goesOn_39 rfl sr_1 b14 ?_
    refine v_bipush C dX9_goesOn_40 rfl bi_12 ?_
    refine v_icmp_ge C dX9_goesOn_42 (tgt := 52) (by decide) rfl (fun c15 => ?_) (fun c15 => ?_)
    · have h := ifp c15 h
      refine v_iconst C dX9_goesOn_52 rfl ic_0 ?_
      refine v_istore_n C dX9_goesOn_53 rfl rfl (by decide) (L' := [(1, .int 0), (2, .int v13), (0, .ref (ad 0))]) rfl ?_
      refine v_sub [2, 0] rfl ?_
      exact wL_X9_goesOn_54 C hD RET FU h
    · have h := ifn c15 h
      refine v_aload_n C dX9_goesOn_45 rfl rfl 2 rfl ?_
      refine v_iload_n C dX9_goesOn_46 rfl rfl 1 rfl ?_
      refine v_iload_n C dX9_goesOn_47 rfl rfl 0 rfl ?_
      refine v_iconst C dX9_goesOn_48 rfl ic_0 ?_
      obtain ⟨K17, e16, h⟩ := bdS h
      refine v_callVv C yv_X9_comes m_955 (c_X9_comes e16) (Sub.whole hD _ _) ⟨_, _, _, _, _, wd_at sr_0, rfl⟩ (As := [.int v9, .int v13, .int 0]) rfl rfl (Nat.le_of_ble_eq_true rfl) ⟨Nat.le_of_ble_eq_true rfl, Nat.le_of_ble_eq_true rfl⟩ dX9_goesOn_49 rfl ?_
      refine v_iconst C dX9_goesOn_52 rfl ic_0 ?_
      refine v_istore_n C dX9_goesOn_53 rfl rfl (by decide) (L' := [(1, .int 0), (2, .int v13), (0, .ref (ad 0))]) rfl ?_
      refine v_sub [2, 0] rfl ?_
      exact wL_X9_goesOn_54 C hD RET FU h
def C_X9_goesOn (K : Mem) : Option Mem := F_X9_goesOn_0 K
set_option maxRecDepth 100000 in
theorem c_X9_goesOn {l : Launch} {D : va_G} {cA : FieldType → ClassId} {X : Ex} {ad : Nat → Nat} {K : Mem} {K' : Mem} (h : C_X9_goesOn K = some K') : MV l D cA X yX9_goesOn cX9_goesOn 3 5 113 [.ref (ad 0)] (wd cA ad K 0 shsR) (wd cA ad K' 0 shsR) :=
  mV_of (by decide +kernel) (Nat.le_of_ble_eq_true rfl) (fun G h1 h2 h3 h4 C hD RET => by subst h1 h2 h3 h4; exact wF_X9_goesOn_0 C (fun K' => wd_D K' hD) RET  h)
