def F_X8_becomes_31 (k31 : Int32 → Int32 → Int32 → Int32 → Int32 → Int32 → Mem → Option (Int32 × Mem)) (a1 : Int32) (a2 : Int32) (a3 : Int32) (a4 : Int32) (a5 : Int32) (a6 : Int32) (K : Mem) : Option (Int32 × Mem) :=
  if 6 ≤ a6 then (
    if a3 = 0 then (
      some (a4, K)
    ) else (
      some (a5, K)
    )
  ) else (
    bd (C_X6_become 35 21 K) fun K10 =>
    gd (inb a1 12) <|
    nm (up K10 36 (Int32.toNatClampNeg a1) a6) fun K12 =>
    bd (C_X6_passNights 35 a2 K12) fun K14 =>
    bd (C_X6_held 35 K14) fun r16 =>
    if r16 ≤ a5 then (
      nm (a6 + 1) fun v18 =>
      k31 a1 a2 a3 a4 a5 v18 K14
    ) else (
      nm (a6 + 1) fun v19 =>
      k31 a1 a2 a3 a6 r16 v19 K14
    )
  )
def L_X8_becomes_31 : Nat → Int32 → Int32 → Int32 → Int32 → Int32 → Int32 → Mem → Option (Int32 × Mem)
  | 0, _, _, _, _, _, _, _ => none
  | n + 1, a1, a2, a3, a4, a5, a6, K => F_X8_becomes_31 (fun a1 a2 a3 a4 a5 a6 K => L_X8_becomes_31 n a1 a2 a3 a4 a5 a6 K) a1 a2 a3 a4 a5 a6 K
set_option maxRecDepth 100000 in
set_option maxHeartbeats 4000000 in
theorem wF_X8_becomes_31 {G : Ctx} {ad : Nat → Nat} {k31 : Int32 → Int32 → Int32 → Int32 → Int32 → Int32 → Mem → Option (Int32 × Mem)} (C : Cx G RX8 cX8_becomes 8 7 159) (hD : ∀ K, va_D (gA G) (wd (gC G) ad K 0 shsK)) {res : (Int32 × Mem)} (RET : RI G cX8_becomes 8 (wd (gC G) ad res.2 0 shsK) res.1) (hk31 : ∀ {a1 : Int32} {a2 : Int32} {a3 : Int32} {a4 : Int32} {a5 : Int32} {a6 : Int32} {K : Mem} , k31 a1 a2 a3 a4 a5 a6 K = some res → V G 8 (wd (gC G) ad K 0 shsK) 31 [(0, .ref (ad 0)), (1, .int a1), (2, .int a2), (3, .int a3), (4, .int a4), (5, .int a5), (6, .int a6)] []) {a1 : Int32} {a2 : Int32} {a3 : Int32} {a4 : Int32} {a5 : Int32} {a6 : Int32} {K : Mem} (h : F_X8_becomes_31 k31 a1 a2 a3 a4 a5 a6 K = some res) : V G 8 (wd (gC G) ad K 0 shsK) 31 [(0, .ref (ad 0)), (1, .int a1), (2, .int a2), (3, .int a3), (4, .int a4), (5, .int a5), (6, .int a6)] [] := by
  unfold F_X8_becomes_31 at h
  refine v_iload C dX8_becomes_31 rfl 6 rfl ?_
  refine v_bipush C dX8_becomes_33 rfl bi_6 ?_
  refine v_icmp_ge C dX8_becomes_35 (tgt := 98) (by decide) rfl (fun c7 => ?_) (fun c7 => ?_)
  · have h := ifp c7 h
    refine v_iload_n C dX8_becomes_98 rfl rfl 3 rfl ?_
    refine v_if_ne C dX8_becomes_99 (tgt := 107) (by decide) rfl (fun c8 => ?_) (fun c8 => ?_)
    · have h := ifn c8 h
      refine v_iload C dX8_becomes_107 rfl 5 rfl ?_
      obtain rfl := Option.some.inj h
      exact RET _ _ dX8_becomes_109
    · have h := ifp c8 h
      refine v_iload C dX8_becomes_102 rfl 4 rfl ?_
      refine v_goto C dX8_becomes_104 (tgt := 109) (by decide) ?_
      obtain rfl := Option.some.inj h
      exact RET _ _ dX8_becomes_109
  · have h := ifn c7 h
    refine v_aload_n C dX8_becomes_38 rfl rfl 0 rfl ?_
    refine v_getr C dX8_becomes_39 rfl ff_X8_28 sk_0 rfl ?_
    refine v_aload_n C dX8_becomes_42 rfl rfl 0 rfl ?_
    refine v_getr C dX8_becomes_43 rfl ff_X8_21 sk_0 rfl ?_
    obtain ⟨K10, e9, h⟩ := bdS h
    refine v_callVv C yv_X6_become m_535 (c_X6_become isTown_35 isTown_21 e9) (Sub.whole hD _ _) ⟨_, _, _, _, _, wd_at sk_35, rfl⟩ (As := [.ref (ad 21)]) rfl rfl (Nat.le_of_ble_eq_true rfl) ⟨Nat.le_of_ble_eq_true rfl, Nat.le_of_ble_eq_true rfl⟩ dX8_becomes_46 rfl ?_
    refine v_aload_n C dX8_becomes_49 rfl rfl 0 rfl ?_
    refine v_getr C dX8_becomes_50 rfl ff_X8_28 sk_0 rfl ?_
    refine v_getr C dX8_becomes_53 rfl ff_X8_98 sk_35 rfl ?_
    refine v_iload_n C dX8_becomes_56 rfl rfl 1 rfl ?_
    refine v_iload C dX8_becomes_57 rfl 6 rfl ?_
    obtain ⟨b11, h⟩ := gdS h
    obtain ⟨K12, eK12, h⟩ := nmS h
    refine v_iast C hD dX8_becomes_59 rfl sk_36 b11 eK12 ?_
    refine v_aload_n C dX8_becomes_60 rfl rfl 0 rfl ?_
    refine v_getr C dX8_becomes_61 rfl ff_X8_28 sk_0 rfl ?_
    refine v_iload_n C dX8_becomes_64 rfl rfl 2 rfl ?_
    obtain ⟨K14, e13, h⟩ := bdS h
    refine v_callVv C yv_X6_passNights m_542 (c_X6_passNights isTown_35 e13) (Sub.whole hD _ _) ⟨_, _, _, _, _, wd_at sk_35, rfl⟩ (As := [.int a2]) rfl rfl (Nat.le_of_ble_eq_true rfl) ⟨Nat.le_of_ble_eq_true rfl, Nat.le_of_ble_eq_true rfl⟩ dX8_becomes_65 rfl ?_
    refine v_aload_n C dX8_becomes_68 rfl rfl 0 rfl ?_
    refine v_getr C dX8_becomes_69 rfl ff_X8_28 sk_0 rfl ?_
    obtain ⟨r16, e15, h⟩ := bdS h
    refine v_callVi C yv_X6_held m_401 (c_X6_held isTown_35 e15) (Sub.whole hD _ _) ⟨_, _, _, _, _, wd_at sk_35, rfl⟩ (As := []) rfl rfl (Nat.le_of_ble_eq_true rfl) ⟨Nat.le_of_ble_eq_true rfl, Nat.le_of_ble_eq_true rfl⟩ dX8_becomes_72 rfl ?_
    refine v_istore C dX8_becomes_75 rfl (by decide) (L' := [(7, .int r16), (0, .ref (ad 0)), (1, .int a1), (2, .int a2), (3, .int a3), (4, .int a4), (5, .int a5), (6, .int a6)]) rfl ?_
    refine v_iload C dX8_becomes_77 rfl 0 rfl ?_
    refine v_iload C dX8_becomes_79 rfl 6 rfl ?_
    refine v_icmp_le C dX8_becomes_81 (tgt := 92) (by decide) rfl (fun c17 => ?_) (fun c17 => ?_)
    · have h := ifp c17 h
      obtain ⟨v18, ev18, h⟩ := nmS h
      refine v_iinc C dX8_becomes_92 rfl 7 rfl (v := v18) (by rw [ev18]; rfl) (by decide) (L' := [(6, .int v18), (7, .int r16), (0, .ref (ad 0)), (1, .int a1), (2, .int a2), (3, .int a3), (4, .int a4), (5, .int a5)]) rfl ?_
      refine v_goto C dX8_becomes_95 (tgt := 31) (by decide) ?_
      refine v_sub [2, 3, 4, 5, 6, 7, 0] rfl ?_
      exact hk31 h
    · have h := ifn c17 h
      refine v_iload C dX8_becomes_84 rfl 0 rfl ?_
      refine v_istore C dX8_becomes_86 rfl (by decide) (L' := [(5, .int r16), (7, .int r16), (0, .ref (ad 0)), (1, .int a1), (2, .int a2), (3, .int a3), (4, .int a4), (6, .int a6)]) rfl ?_
      refine v_iload C dX8_becomes_88 rfl 7 rfl ?_
      refine v_istore C dX8_becomes_90 rfl (by decide) (L' := [(4, .int a6), (5, .int r16), (7, .int r16), (0, .ref (ad 0)), (1, .int a1), (2, .int a2), (3, .int a3), (6, .int a6)]) rfl ?_
      obtain ⟨v19, ev19, h⟩ := nmS h
      refine v_iinc C dX8_becomes_92 rfl 7 rfl (v := v19) (by rw [ev19]; rfl) (by decide) (L' := [(6, .int v19), (4, .int a6), (5, .int r16), (7, .int r16), (0, .ref (ad 0)), (1, .int a1), (2, .int a2), (3, .int a3)]) rfl ?_
      refine v_goto C dX8_becomes_95 (tgt := 31) (by decide) ?_
      refine v_sub [4, 5, 6, 7, 1, 2, 0] rfl ?_
      exact hk31 h
theorem wL_X8_becomes_31 {G : Ctx} {ad : Nat → Nat} (C : Cx G RX8 cX8_becomes 8 7 159) (hD : ∀ K, va_D (gA G) (wd (gC G) ad K 0 shsK)) {res : (Int32 × Mem)} (RET : RI G cX8_becomes 8 (wd (gC G) ad res.2 0 shsK) res.1) : ∀ (n : Nat) {a1 : Int32} {a2 : Int32} {a3 : Int32} {a4 : Int32} {a5 : Int32} {a6 : Int32} {K : Mem} (h : L_X8_becomes_31 n a1 a2 a3 a4 a5 a6 K = some res), V G 8 (wd (gC G) ad K 0 shsK) 31 [(0, .ref (ad 0)), (1, .int a1), (2, .int a2), (3, .int a3), (4, .int a4), (5, .int a5), (6, .int a6)] [] := by
  intro n
  induction n with
  | zero =>
    intro a1 a2 a3 a4 a5 a6 K h
    cases (show (none : Option (Int32 × Mem)) = some res from h)
  | succ n ih =>
    intro a1 a2 a3 a4 a5 a6 K h
    exact wF_X8_becomes_31 (k31 := fun a1 a2 a3 a4 a5 a6 K => L_X8_becomes_31  n a1 a2 a3 a4 a5 a6 K) C hD RET (fun h => ih h) h
def F_X8_becomes_0 (a1 : Int32) (a2 : Int32) (a3 : Int32) (K : Mem) : Option (Int32 × Mem) :=
  bd (C_X6_has 21 K a1) fun r2 =>
  if r2 = 0 then (
    some ((-1000000001), K)
  ) else (
    bd (C_X8_isPlan a2 a3) fun r5 =>
    if r5 = 0 then (
      some ((-1000000001), K)
    ) else (
      L_X8_becomes_31 FU a1 a2 a3 0 (-1) 0 K
    )
  )
set_option maxRecDepth 100000 in
set_option maxHeartbeats 4000000 in
theorem wF_X8_becomes_0 {G : Ctx} {ad : Nat → Nat} (C : Cx G RX8 cX8_becomes 8 7 159) (hD : ∀ K, va_D (gA G) (wd (gC G) ad K 0 shsK)) {res : (Int32 × Mem)} (RET : RI G cX8_becomes 8 (wd (gC G) ad res.2 0 shsK) res.1) {a1 : Int32} {a2 : Int32} {a3 : Int32} {K : Mem} (h : F_X8_becomes_0 a1 a2 a3 K = some res) : V G 8 (wd (gC G) ad K 0 shsK) 0 [(0, .ref (ad 0)), (1, .int a1), (2, .int a2), (3, .int a3)] [] := by
  unfold F_X8_becomes_0 at h
  refine v_aload_n C dX8_becomes_0 rfl rfl 0 rfl ?_
  refine v_getr C dX8_becomes_1 rfl ff_X8_21 sk_0 rfl ?_
  refine v_iload_n C dX8_becomes_4 rfl rfl 1 rfl ?_
  obtain ⟨r2, e1, h⟩ := bdS h
  refine v_callVi C yv_X6_has m_305 (c_X6_has isTown_21 e1) (Sub.whole hD _ _) ⟨_, _, _, _, _, wd_at sk_21, rfl⟩ (As := [.int a1]) rfl rfl (Nat.le_of_ble_eq_true rfl) ⟨Nat.le_of_ble_eq_true rfl, Nat.le_of_ble_eq_true rfl⟩ dX8_becomes_5 rfl ?_
  refine v_if_eq C dX8_becomes_8 (tgt := 19) (by decide) rfl (fun c3 => ?_) (fun c3 => ?_)
  · have h := ifp c3 h
    refine v_ldc C dX8_becomes_19 rfl m_290 ?_
    obtain rfl := Option.some.inj h
    exact RET _ _ dX8_becomes_21
  · have h := ifn c3 h
    refine v_iload_n C dX8_becomes_11 rfl rfl 2 rfl ?_
    refine v_iload_n C dX8_becomes_12 rfl rfl 3 rfl ?_
    obtain ⟨r5, e4, h⟩ := bdS h
    refine v_callSi C ys_X8_isPlan m_555 (c_X8_isPlan e4) (Sub.whole hD _ _) (As := [.int a2, .int a3]) rfl rfl (Nat.le_of_ble_eq_true rfl) ⟨Nat.le_of_ble_eq_true rfl, Nat.le_of_ble_eq_true rfl⟩ dX8_becomes_13 rfl ?_
    refine v_if_ne C dX8_becomes_16 (tgt := 22) (by decide) rfl (fun c6 => ?_) (fun c6 => ?_)
    · have h := ifn c6 h
      refine v_iconst C dX8_becomes_22 rfl ic_0 ?_
      refine v_istore C dX8_becomes_23 rfl (by decide) (L' := [(4, .int 0), (0, .ref (ad 0)), (1, .int a1), (2, .int a2), (3, .int a3)]) rfl ?_
      refine v_iconst C dX8_becomes_25 rfl ic_n1 ?_
      refine v_istore C dX8_becomes_26 rfl (by decide) (L' := [(5, .int (-1)), (4, .int 0), (0, .ref (ad 0)), (1, .int a1), (2, .int a2), (3, .int a3)]) rfl ?_
      refine v_iconst C dX8_becomes_28 rfl ic_0 ?_
      refine v_istore C dX8_becomes_29 rfl (by decide) (L' := [(6, .int 0), (5, .int (-1)), (4, .int 0), (0, .ref (ad 0)), (1, .int a1), (2, .int a2), (3, .int a3)]) rfl ?_
      refine v_sub [3, 4, 5, 6, 2, 1, 0] rfl ?_
      exact wL_X8_becomes_31 C hD RET FU h
    · have h := ifp c6 h
      refine v_ldc C dX8_becomes_19 rfl m_290 ?_
      obtain rfl := Option.some.inj h
      exact RET _ _ dX8_becomes_21
def C_X8_becomes (a1 : Int32) (a2 : Int32) (a3 : Int32) (K : Mem) : Option (Int32 × Mem) := F_X8_becomes_0 a1 a2 a3 K
set_option maxRecDepth 100000 in
theorem c_X8_becomes {l : Launch} {D : va_G} {cA : FieldType → ClassId} {X : Ex} {ad : Nat → Nat} {a1 : Int32} {a2 : Int32} {a3 : Int32} {K : Mem} {r : Int32} {K' : Mem} (h : C_X8_becomes a1 a2 a3 K = some (r, K')) : MI l D cA X yX8_becomes cX8_becomes 8 (some .int) 7 159 [.ref (ad 0), .int a1, .int a2, .int a3] (wd cA ad K 0 shsK) (wd cA ad K' 0 shsK) r :=
  mI_of (by decide +kernel) (Nat.le_of_ble_eq_true rfl) (fun G h1 h2 h3 h4 C hD RET => by subst h1 h2 h3 h4; exact wF_X8_becomes_0 C (fun K' => wd_D K' hD) RET  h)
def F_X8_isSheet_0 (K : Mem) (a1 : Int32) : Option Int32 :=
  if a1 < 0 then (
    some 0
  ) else (
    if 4 ≤ a1 then (
      some 0
    ) else (
      some 1
    )
  )
set_option maxRecDepth 100000 in
set_option maxHeartbeats 4000000 in
theorem wF_X8_isSheet_0 {G : Ctx} {ad : Nat → Nat} {K : Mem} (C : Cx G RX8 cX8_isSheet 2 0 0) (hD : ∀ K, va_D (gA G) (wd (gC G) ad K 0 shsK)) {res : Int32} (RET : RZ G cX8_isSheet 2 (wd (gC G) ad K 0 shsK) res) {a1 : Int32} (h : F_X8_isSheet_0 K a1 = some res) : V G 2 (wd (gC G) ad K 0 shsK) 0 [(0, .ref (ad 0)), (1, .int a1)] [] := by
  unfold F_X8_isSheet_0 at h
  refine v_iload_n C dX8_isSheet_0 rfl rfl 1 rfl ?_
  refine v_if_lt C dX8_isSheet_1 (tgt := 13) (by decide) rfl (fun c1 => ?_) (fun c1 => ?_)
  · have h := ifp c1 h
    refine v_iconst C dX8_isSheet_13 rfl ic_0 ?_
    obtain rfl := Option.some.inj h
    exact RET _ _ dX8_isSheet_14 (Or.inl rfl)
  · have h := ifn c1 h
    refine v_iload_n C dX8_isSheet_4 rfl rfl 1 rfl ?_
    refine v_iconst C dX8_isSheet_5 rfl ic_4 ?_
    refine v_icmp_ge C dX8_isSheet_6 (tgt := 13) (by decide) rfl (fun c2 => ?_) (fun c2 => ?_)
    · have h := ifp c2 h
      refine v_iconst C dX8_isSheet_13 rfl ic_0 ?_
      obtain rfl := Option.some.inj h
      exact RET _ _ dX8_isSheet_14 (Or.inl rfl)
    · have h := ifn c2 h
      refine v_iconst C dX8_isSheet_9 rfl ic_1 ?_
      refine v_goto C dX8_isSheet_10 (tgt := 14) (by decide) ?_
      obtain rfl := Option.some.inj h
      exact RET _ _ dX8_isSheet_14 (Or.inr rfl)
def C_X8_isSheet (K : Mem) (a1 : Int32) : Option Int32 := F_X8_isSheet_0 K a1
set_option maxRecDepth 100000 in
theorem c_X8_isSheet {l : Launch} {D : va_G} {cA : FieldType → ClassId} {X : Ex} {ad : Nat → Nat} {a1 : Int32} {K : Mem} {r : Int32} (h : C_X8_isSheet K a1 = some r) : MI l D cA X yX8_isSheet cX8_isSheet 2 (some .boolean) 0 0 [.ref (ad 0), .int a1] (wd cA ad K 0 shsK) (wd cA ad K 0 shsK) r :=
  mZ_of (by decide +kernel) (Nat.le_of_ble_eq_true rfl) (fun G h1 h2 h3 h4 C hD RET => by subst h1 h2 h3 h4; exact wF_X8_isSheet_0 C (fun K' => wd_D K' hD) RET  h)
def F_X8_difference_16 (k16 : Int32 → Int32 → Int32 → Mem → Option (Int32 × Mem)) (q2 : Nat) (a1 : Int32) (a3 : Int32) (a4 : Int32) (K : Mem) : Option (Int32 × Mem) :=
  if (K q2 2) ≤ a4 then (
    some (a3, K)
  ) else (
    bd (C_X2_hasNumber q2 K a4) fun r5 =>
    if r5 = 0 then (
      bd (C_X6_passNight 35 K) fun K8 =>
      nm (a4 + 1) fun v9 =>
      k16 a1 a3 v9 K8
    ) else (
      gd (inb a1 12) <|
      gd (inb a4 24) <|
      nm (a3 + (jabs ((K 38 (Int32.toNatClampNeg a1)) - (K (q2 + 1) (Int32.toNatClampNeg a4))))) fun v12 =>
      bd (C_X6_passNight 35 K) fun K14 =>
      nm (a4 + 1) fun v15 =>
      k16 a1 v12 v15 K14
    )
  )
def L_X8_difference_16 (q2 : Nat) : Nat → Int32 → Int32 → Int32 → Mem → Option (Int32 × Mem)
  | 0, _, _, _, _ => none
  | n + 1, a1, a3, a4, K => F_X8_difference_16 (fun a1 a3 a4 K => L_X8_difference_16 q2 n a1 a3 a4 K) q2 a1 a3 a4 K
set_option maxRecDepth 100000 in
set_option maxHeartbeats 4000000 in
theorem wF_X8_difference_16 {G : Ctx} {ad : Nat → Nat} {q2 : Nat} {k16 : Int32 → Int32 → Int32 → Mem → Option (Int32 × Mem)} (C : Cx G RX8 cX8_difference 5 6 137) (hD : ∀ K, va_D (gA G) (wd (gC G) ad K 0 shsK)) {res : (Int32 × Mem)} (RET : RI G cX8_difference 5 (wd (gC G) ad res.2 0 shsK) res.1) (hk16 : ∀ {a1 : Int32} {a3 : Int32} {a4 : Int32} {K : Mem} , k16 a1 a3 a4 K = some res → V G 5 (wd (gC G) ad K 0 shsK) 16 [(0, .ref (ad 0)), (1, .int a1), (2, .ref (ad q2)), (3, .int a3), (4, .int a4)] []) (hq2 : isSheet q2) {a1 : Int32} {a3 : Int32} {a4 : Int32} {K : Mem} (h : F_X8_difference_16 k16 q2 a1 a3 a4 K = some res) : V G 5 (wd (gC G) ad K 0 shsK) 16 [(0, .ref (ad 0)), (1, .int a1), (2, .ref (ad q2)), (3, .int a3), (4, .int a4)] [] := by
  unfold F_X8_difference_16 at h
  refine v_iload C dX8_difference_16 rfl 4 rfl ?_
  refine v_aload_n C dX8_difference_18 rfl rfl 2 rfl ?_
  refine v_getf C dX8_difference_19 rfl ff_X8_256 (shk_0 hq2) rfl ?_
  refine v_icmp_ge C dX8_difference_22 (tgt := 70) (by decide) rfl (fun c3 => ?_) (fun c3 => ?_)
  · have h := ifp c3 h
    refine v_iload_n C dX8_difference_70 rfl rfl 3 rfl ?_
    obtain rfl := Option.some.inj h
    exact RET _ _ dX8_difference_71
  · have h := ifn c3 h
    refine v_aload_n C dX8_difference_25 rfl rfl 2 rfl ?_
    refine v_iload C dX8_difference_26 rfl 4 rfl ?_
    obtain ⟨r5, e4, h⟩ := bdS h
    refine v_callVi C yv_X2_hasNumber m_579 (c_X2_hasNumber hq2 e4) (Sub.whole hD _ _) ⟨_, _, _, _, _, wd_at (shk_0 hq2), rfl⟩ (As := [.int a4]) rfl rfl (Nat.le_of_ble_eq_true rfl) ⟨Nat.le_of_ble_eq_true rfl, Nat.le_of_ble_eq_true rfl⟩ dX8_difference_28 rfl ?_
    refine v_if_eq C dX8_difference_31 (tgt := 57) (by decide) rfl (fun c6 => ?_) (fun c6 => ?_)
    · have h := ifp c6 h
      refine v_aload_n C dX8_difference_57 rfl rfl 0 rfl ?_
      refine v_getr C dX8_difference_58 rfl ff_X8_28 sk_0 rfl ?_
      obtain ⟨K8, e7, h⟩ := bdS h
      refine v_callVv C yv_X6_passNight m_445 (c_X6_passNight isTown_35 e7) (Sub.whole hD _ _) ⟨_, _, _, _, _, wd_at sk_35, rfl⟩ (As := []) rfl rfl (Nat.le_of_ble_eq_true rfl) ⟨Nat.le_of_ble_eq_true rfl, Nat.le_of_ble_eq_true rfl⟩ dX8_difference_61 rfl ?_
      obtain ⟨v9, ev9, h⟩ := nmS h
      refine v_iinc C dX8_difference_64 rfl 4 rfl (v := v9) (by rw [ev9]; rfl) (by decide) (L' := [(4, .int v9), (0, .ref (ad 0)), (1, .int a1), (2, .ref (ad q2)), (3, .int a3)]) rfl ?_
      refine v_goto C dX8_difference_67 (tgt := 16) (by decide) ?_
      refine v_sub [1, 2, 3, 4, 0] rfl ?_
      exact hk16 h
    · have h := ifn c6 h
      refine v_iload_n C dX8_difference_34 rfl rfl 3 rfl ?_
      refine v_aload_n C dX8_difference_35 rfl rfl 0 rfl ?_
      refine v_getr C dX8_difference_36 rfl ff_X8_28 sk_0 rfl ?_
      refine v_getr C dX8_difference_39 rfl ff_X8_104 sk_35 rfl ?_
      refine v_iload_n C dX8_difference_42 rfl rfl 1 rfl ?_
      obtain ⟨b10, h⟩ := gdS h
      refine v_iald C dX8_difference_43 rfl sk_38 b10 ?_
      refine v_aload_n C dX8_difference_44 rfl rfl 2 rfl ?_
      refine v_getr C dX8_difference_45 rfl ff_X8_245 (shk_0 hq2) rfl ?_
      refine v_iload C dX8_difference_48 rfl 4 rfl ?_
      obtain ⟨b11, h⟩ := gdS h
      refine v_iald C dX8_difference_50 rfl (shk_1 hq2) b11 ?_
      refine v_isub C dX8_difference_51 rfl ?_
      refine v_abs C dX8_difference_52 rfl m_588 m_589 m_11 m_590 (Nat.le_of_ble_eq_true rfl) (Nat.le_of_ble_eq_true rfl) ?_
      refine v_iadd C dX8_difference_55 rfl ?_
      obtain ⟨v12, ev12, h⟩ := nmS h
      refine v_nmi ev12 ?_
      refine v_istore_n C dX8_difference_56 rfl rfl (by decide) (L' := [(3, .int v12), (0, .ref (ad 0)), (1, .int a1), (2, .ref (ad q2)), (4, .int a4)]) rfl ?_
      refine v_aload_n C dX8_difference_57 rfl rfl 1 rfl ?_
      refine v_getr C dX8_difference_58 rfl ff_X8_28 sk_0 rfl ?_
      obtain ⟨K14, e13, h⟩ := bdS h
      refine v_callVv C yv_X6_passNight m_445 (c_X6_passNight isTown_35 e13) (Sub.whole hD _ _) ⟨_, _, _, _, _, wd_at sk_35, rfl⟩ (As := []) rfl rfl (Nat.le_of_ble_eq_true rfl) ⟨Nat.le_of_ble_eq_true rfl, Nat.le_of_ble_eq_true rfl⟩ dX8_difference_61 rfl ?_
      obtain ⟨v15, ev15, h⟩ := nmS h
      refine v_iinc C dX8_difference_64 rfl 4 rfl (v := v15) (by rw [ev15]; rfl) (by decide) (L' := [(4, .int v15), (3, .int v12), (0, .ref (ad 0)), (1, .int a1), (2, .ref (ad q2))]) rfl ?_
      refine v_goto C dX8_difference_67 (tgt := 16) (by decide) ?_
      refine v_sub [2, 3, 4, 1, 0] rfl ?_
      exact hk16 h
theorem wL_X8_difference_16 {G : Ctx} {ad : Nat → Nat} {q2 : Nat} (C : Cx G RX8 cX8_difference 5 6 137) (hD : ∀ K, va_D (gA G) (wd (gC G) ad K 0 shsK)) {res : (Int32 × Mem)} (RET : RI G cX8_difference 5 (wd (gC G) ad res.2 0 shsK) res.1) (hq2 : isSheet q2) : ∀ (n : Nat) {a1 : Int32} {a3 : Int32} {a4 : Int32} {K : Mem} (h : L_X8_difference_16 q2 n a1 a3 a4 K = some res), V G 5 (wd (gC G) ad K 0 shsK) 16 [(0, .ref (ad 0)), (1, .int a1), (2, .ref (ad q2)), (3, .int a3), (4, .int a4)] [] := by
  intro n
  induction n with
  | zero =>
    intro a1 a3 a4 K h
    cases (show (none : Option (Int32 × Mem)) = some res from h)
  | succ n ih =>
    intro a1 a3 a4 K h
    exact wF_X8_difference_16 (k16 := fun a1 a3 a4 K => L_X8_difference_16 q2 n a1 a3 a4 K) C hD RET (fun h => ih h) hq2 h
def F_X8_difference_0 (q2 : Nat) (a1 : Int32) (K : Mem) : Option (Int32 × Mem) :=
  bd (C_X6_become 35 21 K) fun K2 =>
  L_X8_difference_16 q2 FU a1 0 0 K2
set_option maxRecDepth 100000 in
set_option maxHeartbeats 4000000 in
theorem wF_X8_difference_0 {G : Ctx} {ad : Nat → Nat} {q2 : Nat} (C : Cx G RX8 cX8_difference 5 6 137) (hD : ∀ K, va_D (gA G) (wd (gC G) ad K 0 shsK)) {res : (Int32 × Mem)} (RET : RI G cX8_difference 5 (wd (gC G) ad res.2 0 shsK) res.1) (hq2 : isSheet q2) {a1 : Int32} {K : Mem} (h : F_X8_difference_0 q2 a1 K = some res) : V G 5 (wd (gC G) ad K 0 shsK) 0 [(0, .ref (ad 0)), (1, .int a1), (2, .ref (ad q2))] [] := by
  unfold F_X8_difference_0 at h
  refine v_aload_n C dX8_difference_0 rfl rfl 0 rfl ?_
  refine v_getr C dX8_difference_1 rfl ff_X8_28 sk_0 rfl ?_
  refine v_aload_n C dX8_difference_4 rfl rfl 0 rfl ?_
  refine v_getr C dX8_difference_5 rfl ff_X8_21 sk_0 rfl ?_
  obtain ⟨K2, e1, h⟩ := bdS h
  refine v_callVv C yv_X6_become m_535 (c_X6_become isTown_35 isTown_21 e1) (Sub.whole hD _ _) ⟨_, _, _, _, _, wd_at sk_35, rfl⟩ (As := [.ref (ad 21)]) rfl rfl (Nat.le_of_ble_eq_true rfl) ⟨Nat.le_of_ble_eq_true rfl, Nat.le_of_ble_eq_true rfl⟩ dX8_difference_8 rfl ?_
  refine v_iconst C dX8_difference_11 rfl ic_0 ?_
  refine v_istore_n C dX8_difference_12 rfl rfl (by decide) (L' := [(3, .int 0), (0, .ref (ad 0)), (1, .int a1), (2, .ref (ad q2))]) rfl ?_
  refine v_iconst C dX8_difference_13 rfl ic_0 ?_
  refine v_istore C dX8_difference_14 rfl (by decide) (L' := [(4, .int 0), (3, .int 0), (0, .ref (ad 0)), (1, .int a1), (2, .ref (ad q2))]) rfl ?_
  refine v_sub [2, 3, 4, 1, 0] rfl ?_
  exact wL_X8_difference_16 C hD RET hq2 FU h
def C_X8_difference (q2 : Nat) (a1 : Int32) (K : Mem) : Option (Int32 × Mem) := F_X8_difference_0 q2 a1 K
set_option maxRecDepth 100000 in
theorem c_X8_difference {l : Launch} {D : va_G} {cA : FieldType → ClassId} {X : Ex} {ad : Nat → Nat} {q2 : Nat} (hq2 : isSheet q2) {a1 : Int32} {K : Mem} {r : Int32} {K' : Mem} (h : C_X8_difference q2 a1 K = some (r, K')) : MI l D cA X yX8_difference cX8_difference 5 (some .int) 6 137 [.ref (ad 0), .int a1, .ref (ad q2)] (wd cA ad K 0 shsK) (wd cA ad K' 0 shsK) r :=
  mI_of (by decide +kernel) (Nat.le_of_ble_eq_true rfl) (fun G h1 h2 h3 h4 C hD RET => by subst h1 h2 h3 h4; exact wF_X8_difference_0 C (fun K' => wd_D K' hD) RET hq2 h)
def F_X8_like_59 (k59 : Nat → Int32 → Int32 → Int32 → Int32 → Mem → Option (Int32 × Mem)) (s3 : Nat) (a2 : Int32) (a4 : Int32) (a5 : Int32) (a6 : Int32) (K : Mem) : Option (Int32 × Mem) :=
  if (K 21 7) ≤ a6 then (
    if a2 = 0 then (
      some (a4, K)
    ) else (
      some (a5, K)
    )
  ) else (
    bd2 (C_X8_difference s3 a6 K) fun r16 K15 =>
    if a5 < 0 then (
      nm (a6 + 1) fun v18 =>
      k59 s3 a2 a6 r16 v18 K15
    ) else (
      if a5 ≤ r16 then (
        nm (a6 + 1) fun v20 =>
        k59 s3 a2 a4 a5 v20 K15
      ) else (
        nm (a6 + 1) fun v21 =>
        k59 s3 a2 a6 r16 v21 K15
      )
    )
  )
def L_X8_like_59 : Nat → Nat → Int32 → Int32 → Int32 → Int32 → Mem → Option (Int32 × Mem)
  | 0, _, _, _, _, _, _ => none
  | n + 1, s3, a2, a4, a5, a6, K => F_X8_like_59 (fun s3 a2 a4 a5 a6 K => L_X8_like_59 n s3 a2 a4 a5 a6 K) s3 a2 a4 a5 a6 K
set_option maxRecDepth 100000 in
set_option maxHeartbeats 4000000 in
theorem wF_X8_like_59 {G : Ctx} {ad : Nat → Nat} {k59 : Nat → Int32 → Int32 → Int32 → Int32 → Mem → Option (Int32 × Mem)} (C : Cx G RX8 cX8_like 8 7 161) (hD : ∀ K, va_D (gA G) (wd (gC G) ad K 0 shsK)) {res : (Int32 × Mem)} (RET : RI G cX8_like 8 (wd (gC G) ad res.2 0 shsK) res.1) (hk59 : ∀ {s3 : Nat} {a2 : Int32} {a4 : Int32} {a5 : Int32} {a6 : Int32} {K : Mem} (hs3 : isSheet s3), k59 s3 a2 a4 a5 a6 K = some res → V G 8 (wd (gC G) ad K 0 shsK) 59 [(0, .ref (ad 0)), (2, .int a2), (3, .ref (ad s3)), (4, .int a4), (5, .int a5), (6, .int a6)] []) {s3 : Nat} (hs3 : isSheet s3) {a2 : Int32} {a4 : Int32} {a5 : Int32} {a6 : Int32} {K : Mem} (h : F_X8_like_59 k59 s3 a2 a4 a5 a6 K = some res) : V G 8 (wd (gC G) ad K 0 shsK) 59 [(0, .ref (ad 0)), (2, .int a2), (3, .ref (ad s3)), (4, .int a4), (5, .int a5), (6, .int a6)] [] := by
  unfold F_X8_like_59 at h
  refine v_iload C dX8_like_59 rfl 5 rfl ?_
  refine v_aload_n C dX8_like_61 rfl rfl 0 rfl ?_
  refine v_getr C dX8_like_62 rfl ff_X8_21 sk_0 rfl ?_
  refine v_getf C dX8_like_65 rfl ff_X8_91 sk_21 rfl ?_
  refine v_icmp_ge C dX8_like_68 (tgt := 106) (by decide) rfl (fun c12 => ?_) (fun c12 => ?_)
  · have h := ifp c12 h
    refine v_iload_n C dX8_like_106 rfl rfl 1 rfl ?_
    refine v_if_ne C dX8_like_107 (tgt := 115) (by decide) rfl (fun c13 => ?_) (fun c13 => ?_)
    · have h := ifn c13 h
      refine v_iload C dX8_like_115 rfl 4 rfl ?_
      obtain rfl := Option.some.inj h
      exact RET _ _ dX8_like_117
    · have h := ifp c13 h
      refine v_iload C dX8_like_110 rfl 3 rfl ?_
      refine v_goto C dX8_like_112 (tgt := 117) (by decide) ?_
      obtain rfl := Option.some.inj h
      exact RET _ _ dX8_like_117
  · have h := ifn c12 h
    refine v_aload_n C dX8_like_71 rfl rfl 0 rfl ?_
    refine v_iload C dX8_like_72 rfl 5 rfl ?_
    refine v_aload_n C dX8_like_74 rfl rfl 2 rfl ?_
    obtain ⟨r16, K15, e14, h⟩ := bd2S h
    refine v_callVi C yv_X8_difference m_575 (c_X8_difference hs3 e14) (Sub.whole hD _ _) ⟨_, _, _, _, _, wd_at sk_0, rfl⟩ (As := [.int a6, .ref (ad s3)]) rfl rfl (Nat.le_of_ble_eq_true rfl) ⟨Nat.le_of_ble_eq_true rfl, Nat.le_of_ble_eq_true rfl⟩ dX8_like_75 rfl ?_
    refine v_istore C dX8_like_78 rfl (by decide) (L' := [(7, .int r16), (0, .ref (ad 0)), (2, .int a2), (3, .ref (ad s3)), (4, .int a4), (5, .int a5), (6, .int a6)]) rfl ?_
    refine v_iload C dX8_like_80 rfl 5 rfl ?_
    refine v_if_lt C dX8_like_82 (tgt := 92) (by decide) rfl (fun c17 => ?_) (fun c17 => ?_)
    · have h := ifp c17 h
      refine v_iload C dX8_like_92 rfl 0 rfl ?_
      refine v_istore C dX8_like_94 rfl (by decide) (L' := [(5, .int r16), (7, .int r16), (0, .ref (ad 0)), (2, .int a2), (3, .ref (ad s3)), (4, .int a4), (6, .int a6)]) rfl ?_
      refine v_iload C dX8_like_96 rfl 6 rfl ?_
      refine v_istore C dX8_like_98 rfl (by decide) (L' := [(4, .int a6), (5, .int r16), (7, .int r16), (0, .ref (ad 0)), (2, .int a2), (3, .ref (ad s3)), (6, .int a6)]) rfl ?_
      obtain ⟨v18, ev18, h⟩ := nmS h
      refine v_iinc C dX8_like_100 rfl 6 rfl (v := v18) (by rw [ev18]; rfl) (by decide) (L' := [(6, .int v18), (4, .int a6), (5, .int r16), (7, .int r16), (0, .ref (ad 0)), (2, .int a2), (3, .ref (ad s3))]) rfl ?_
      refine v_goto C dX8_like_103 (tgt := 59) (by decide) ?_
      refine v_sub [4, 5, 6, 1, 2, 0] rfl ?_
      exact hk59 hs3 h
    · have h := ifn c17 h
      refine v_iload C dX8_like_85 rfl 0 rfl ?_
      refine v_iload C dX8_like_87 rfl 5 rfl ?_
      refine v_icmp_ge C dX8_like_89 (tgt := 100) (by decide) rfl (fun c19 => ?_) (fun c19 => ?_)
      · have h := ifp c19 h
        obtain ⟨v20, ev20, h⟩ := nmS h
        refine v_iinc C dX8_like_100 rfl 6 rfl (v := v20) (by rw [ev20]; rfl) (by decide) (L' := [(6, .int v20), (7, .int r16), (0, .ref (ad 0)), (2, .int a2), (3, .ref (ad s3)), (4, .int a4), (5, .int a5)]) rfl ?_
        refine v_goto C dX8_like_103 (tgt := 59) (by decide) ?_
        refine v_sub [2, 3, 4, 5, 6, 0] rfl ?_
        exact hk59 hs3 h
      · have h := ifn c19 h
        refine v_iload C dX8_like_92 rfl 0 rfl ?_
        refine v_istore C dX8_like_94 rfl (by decide) (L' := [(5, .int r16), (7, .int r16), (0, .ref (ad 0)), (2, .int a2), (3, .ref (ad s3)), (4, .int a4), (6, .int a6)]) rfl ?_
        refine v_iload C dX8_like_96 rfl 6 rfl ?_
        refine v_istore C dX8_like_98 rfl (by decide) (L' := [(4, .int a6), (5, .int r16), (7, .int r16), (0, .ref (ad 0)), (2, .int a2), (3, .ref (ad s3)), (6, .int a6)]) rfl ?_
        obtain ⟨v21, ev21, h⟩ := nmS h
        refine v_iinc C dX8_like_100 rfl 6 rfl (v := v21) (by rw [ev21]; rfl) (by decide) (L' := [(6, .int v21), (4, .int a6), (5, .int r16), (7, .int r16), (0, .ref (ad 0)), (2, .int a2), (3, .ref (ad s3))]) rfl ?_
        refine v_goto C dX8_like_103 (tgt := 59) (by decide) ?_
        refine v_sub [4, 5, 6, 1, 2, 0] rfl ?_
        exact hk59 hs3 h
theorem wL_X8_like_59 {G : Ctx} {ad : Nat → Nat} (C : Cx G RX8 cX8_like 8 7 161) (hD : ∀ K, va_D (gA G) (wd (gC G) ad K 0 shsK)) {res : (Int32 × Mem)} (RET : RI G cX8_like 8 (wd (gC G) ad res.2 0 shsK) res.1) : ∀ (n : Nat) {s3 : Nat} {a2 : Int32} {a4 : Int32} {a5 : Int32} {a6 : Int32} {K : Mem} (hs3 : isSheet s3) (h : L_X8_like_59 n s3 a2 a4 a5 a6 K = some res), V G 8 (wd (gC G) ad K 0 shsK) 59 [(0, .ref (ad 0)), (2, .int a2), (3, .ref (ad s3)), (4, .int a4), (5, .int a5), (6, .int a6)] [] := by
  intro n
  induction n with
  | zero =>
    intro s3 a2 a4 a5 a6 K hs3 h
    cases (show (none : Option (Int32 × Mem)) = some res from h)
  | succ n ih =>
    intro s3 a2 a4 a5 a6 K hs3 h
    exact wF_X8_like_59 (k59 := fun s3 a2 a4 a5 a6 K => L_X8_like_59  n s3 a2 a4 a5 a6 K) C hD RET (fun hs3 h => ih hs3 h) hs3 h
def F_X8_like_0 (a1 : Int32) (a2 : Int32) (K : Mem) : Option (Int32 × Mem) :=
  bd (C_X8_isSheet K a1) fun r2 =>
  if r2 = 0 then (
    some ((-1000000001), K)
  ) else (
    if a2 < 0 then (
      some ((-1000000001), K)
    ) else (
      if a2 ≤ 1 then (
        gd (inb a1 4) <|
        nm (shG (Int32.toNatClampNeg a1)) fun s7 =>
        bd (C_X2_isMissing s7 K) fun r9 =>
        if r9 = 0 then (
          if (K 21 7) = 0 then (
            some ((-1000000005), K)
          ) else (
            L_X8_like_59 FU s7 a2 0 (-1) 0 K
          )
        ) else (
          some ((-1000000011), K)
        )
      ) else (
        some ((-1000000001), K)
      )
    )
  )
set_option maxRecDepth 100000 in
set_option maxHeartbeats 4000000 in
theorem wF_X8_like_0 {G : Ctx} {ad : Nat → Nat} (C : Cx G RX8 cX8_like 8 7 161) (hD : ∀ K, va_D (gA G) (wd (gC G) ad K 0 shsK)) {res : (Int32 × Mem)} (RET : RI G cX8_like 8 (wd (gC G) ad res.2 0 shsK) res.1) {a1 : Int32} {a2 : Int32} {K : Mem} (h : F_X8_like_0 a1 a2 K = some res) : V G 8 (wd (gC G) ad K 0 shsK) 0 [(0, .ref (ad 0)), (1, .int a1), (2, .int a2)] [] := by
  unfold F_X8_like_0 at h
  refine v_aload_n C dX8_like_0 rfl rfl 0 rfl ?_
  refine v_iload_n C dX8_like_1 rfl rfl 1 rfl ?_
  obtain ⟨r2, e1, h⟩ := bdS h
  refine v_callVi C yv_X8_isSheet m_566 (c_X8_isSheet e1) (Sub.whole hD _ _) ⟨_, _, _, _, _, wd_at sk_0, rfl⟩ (As := [.int a1]) rfl rfl (Nat.le_of_ble_eq_true rfl) ⟨Nat.le_of_ble_eq_true rfl, Nat.le_of_ble_eq_true rfl⟩ dX8_like_2 rfl ?_
  refine v_if_eq C dX8_like_5 (tgt := 17) (by decide) rfl (fun c3 => ?_) (fun c3 => ?_)
  · have h := ifp c3 h
    refine v_ldc C dX8_like_17 rfl m_290 ?_
    obtain rfl := Option.some.inj h
    exact RET _ _ dX8_like_19
  · have h := ifn c3 h
    refine v_iload_n C dX8_like_8 rfl rfl 2 rfl ?_
    refine v_if_lt C dX8_like_9 (tgt := 17) (by decide) rfl (fun c4 => ?_) (fun c4 => ?_)
    · have h := ifp c4 h
      refine v_ldc C dX8_like_17 rfl m_290 ?_
      obtain rfl := Option.some.inj h
      exact RET _ _ dX8_like_19
    · have h := ifn c4 h
      refine v_iload_n C dX8_like_12 rfl rfl 2 rfl ?_
      refine v_iconst C dX8_like_13 rfl ic_1 ?_
      refine v_icmp_le C dX8_like_14 (tgt := 20) (by decide) rfl (fun c5 => ?_) (fun c5 => ?_)
      · have h := ifp c5 h
        refine v_aload_n C dX8_like_20 rfl rfl 0 rfl ?_
        refine v_getr C dX8_like_21 rfl ff_X8_56 sk_0 rfl ?_
        refine v_iload_n C dX8_like_24 rfl rfl 1 rfl ?_
        obtain ⟨b6, h⟩ := gdS h
        obtain ⟨s7, es7, h⟩ := nmS h
        refine v_aald C (t0 := 2) rfl (fun _ => rfl) dX8_like_25 rfl sk_50 b6 ?_
        have hs7 : isSheet s7 := es7 ▸ isSheet_of b6
        refine v_nmr es7 ?_
        refine v_astore_n C dX8_like_26 rfl rfl (by decide) (L' := [(3, .ref (ad s7)), (0, .ref (ad 0)), (1, .int a1), (2, .int a2)]) rfl ?_
        refine v_aload_n C dX8_like_27 rfl rfl 0 rfl ?_
        obtain ⟨r9, e8, h⟩ := bdS h
        refine v_callVi C yv_X2_isMissing m_570 (c_X2_isMissing hs7 e8) (Sub.whole hD _ _) ⟨_, _, _, _, _, wd_at (shk_0 hs7), rfl⟩ (As := []) rfl rfl (Nat.le_of_ble_eq_true rfl) ⟨Nat.le_of_ble_eq_true rfl, Nat.le_of_ble_eq_true rfl⟩ dX8_like_28 rfl ?_
        refine v_if_eq C dX8_like_31 (tgt := 37) (by decide) rfl (fun c10 => ?_) (fun c10 => ?_)
        · have h := ifp c10 h
          refine v_aload_n C dX8_like_37 rfl rfl 1 rfl ?_
          refine v_getr C dX8_like_38 rfl ff_X8_21 sk_0 rfl ?_
          refine v_getf C dX8_like_41 rfl ff_X8_91 sk_21 rfl ?_
          refine v_if_ne C dX8_like_44 (tgt := 50) (by decide) rfl (fun c11 => ?_) (fun c11 => ?_)
          · have h := ifn c11 h
            refine v_iconst C dX8_like_50 rfl ic_0 ?_
            refine v_istore C dX8_like_51 rfl (by decide) (L' := [(4, .int 0), (3, .ref (ad s7)), (0, .ref (ad 0)), (1, .int a1), (2, .int a2)]) rfl ?_
            refine v_iconst C dX8_like_53 rfl ic_n1 ?_
            refine v_istore C dX8_like_54 rfl (by decide) (L' := [(5, .int (-1)), (4, .int 0), (3, .ref (ad s7)), (0, .ref (ad 0)), (1, .int a1), (2, .int a2)]) rfl ?_
            refine v_iconst C dX8_like_56 rfl ic_0 ?_
            refine v_istore C dX8_like_57 rfl (by decide) (L' := [(6, .int 0), (5, .int (-1)), (4, .int 0), (3, .ref (ad s7)), (0, .ref (ad 0)), (1, .int a1), (2, .int a2)]) rfl ?_
            refine v_sub [4, 6, 3, 2, 1, 0] rfl ?_
            exact wL_X8_like_59 C hD RET FU hs7 h
          · have h := ifp c11 h
            refine v_ldc C dX8_like_47 rfl m_521 ?_
            obtain rfl := Option.some.inj h
            exact RET _ _ dX8_like_49
        · have h := ifn c10 h
          refine v_ldc C dX8_like_34 rfl m_574 ?_
          obtain rfl := Option.some.inj h
          exact RET _ _ dX8_like_36
      · have h := ifn c5 h
        refine v_ldc C dX8_like_17 rfl m_290 ?_
        obtain rfl := Option.some.inj h
        exact RET _ _ dX8_like_19
def C_X8_like (a1 : Int32) (a2 : Int32) (K : Mem) : Option (Int32 × Mem) := F_X8_like_0 a1 a2 K
set_option maxRecDepth 100000 in
theorem c_X8_like {l : Launch} {D : va_G} {cA : FieldType → ClassId} {X : Ex} {ad : Nat → Nat} {a1 : Int32} {a2 : Int32} {K : Mem} {r : Int32} {K' : Mem} (h : C_X8_like a1 a2 K = some (r, K')) : MI l D cA X yX8_like cX8_like 8 (some .int) 7 161 [.ref (ad 0), .int a1, .int a2] (wd cA ad K 0 shsK) (wd cA ad K' 0 shsK) r :=
  mI_of (by decide +kernel) (Nat.le_of_ble_eq_true rfl) (fun G h1 h2 h3 h4 C hD RET => by subst h1 h2 h3 h4; exact wF_X8_like_0 C (fun K' => wd_D K' hD) RET  h)
def F_X8_fee_0 (K : Mem) : Option (Int32 × Mem) :=
  gd (inb 1 3) <|
  nm (K 27 (Int32.toNatClampNeg 1)) fun v2 =>
  if 0 ≤ v2 then (
    bd2 (C_X5_gives 21 v2 0 K) fun r6 K5 =>
    some (r6, K5)
  ) else (
    some (K 21 9, K)
  )
set_option maxRecDepth 100000 in
set_option maxHeartbeats 4000000 in
theorem wF_X8_fee_0 {G : Ctx} {ad : Nat → Nat} (C : Cx G RX8 cX8_fee 2 3 70) (hD : ∀ K, va_D (gA G) (wd (gC G) ad K 0 shsK)) {res : (Int32 × Mem)} (RET : RI G cX8_fee 2 (wd (gC G) ad res.2 0 shsK) res.1) {K : Mem} (h : F_X8_fee_0 K = some res) : V G 2 (wd (gC G) ad K 0 shsK) 0 [(0, .ref (ad 0))] [] := by
  unfold F_X8_fee_0 at h
  refine v_aload_n C dX8_fee_0 rfl rfl 0 rfl ?_
  refine v_getr C dX8_fee_1 rfl ff_X8_21 sk_0 rfl ?_
  refine v_getr C dX8_fee_4 rfl ff_X8_201 sk_21 rfl ?_
  refine v_iconst C dX8_fee_7 rfl ic_1 ?_
  obtain ⟨b1, h⟩ := gdS h
  refine v_iald C dX8_fee_8 rfl sk_27 b1 ?_
  obtain ⟨v2, ev2, h⟩ := nmS h
  refine v_nmi ev2 ?_
  refine v_istore_n C dX8_fee_9 rfl rfl (by decide) (L' := [(1, .int v2), (0, .ref (ad 0))]) rfl ?_
  refine v_iload_n C dX8_fee_10 rfl rfl 0 rfl ?_
  refine v_if_ge C dX8_fee_11 (tgt := 24) (by decide) rfl (fun c3 => ?_) (fun c3 => ?_)
  · have h := ifp c3 h
    refine v_aload_n C dX8_fee_24 rfl rfl 1 rfl ?_
    refine v_getr C dX8_fee_25 rfl ff_X8_10 sk_0 rfl ?_
    refine v_iload_n C dX8_fee_28 rfl rfl 0 rfl ?_
    refine v_aload_n C dX8_fee_29 rfl rfl 1 rfl ?_
    refine v_getr C dX8_fee_30 rfl ff_X8_21 sk_0 rfl ?_
    refine v_iconst C dX8_fee_33 rfl ic_0 ?_
    obtain ⟨r6, K5, e4, h⟩ := bd2S h
    refine v_callVi C yv_X5_gives m_595 (c_X5_gives isTown_21 e4) (Sub.whole hD _ _) ⟨_, _, _, _, _, wd_at sk_1, rfl⟩ (As := [.int v2, .ref (ad 21), .int 0]) rfl rfl (Nat.le_of_ble_eq_true rfl) ⟨Nat.le_of_ble_eq_true rfl, Nat.le_of_ble_eq_true rfl⟩ dX8_fee_34 rfl ?_
    obtain rfl := Option.some.inj h
    exact RET _ _ dX8_fee_37
  · have h := ifn c3 h
    refine v_aload_n C dX8_fee_14 rfl rfl 1 rfl ?_
    refine v_getr C dX8_fee_15 rfl ff_X8_21 sk_0 rfl ?_
    refine v_getf C dX8_fee_18 rfl ff_X8_146 sk_21 rfl ?_
    refine v_goto C dX8_fee_21 (tgt := 37) (by decide) ?_
    obtain rfl := Option.some.inj h
    exact RET _ _ dX8_fee_37
def C_X8_fee (K : Mem) : Option (Int32 × Mem) := F_X8_fee_0 K
set_option maxRecDepth 100000 in
theorem c_X8_fee {l : Launch} {D : va_G} {cA : FieldType → ClassId} {X : Ex} {ad : Nat → Nat} {K : Mem} {r : Int32} {K' : Mem} (h : C_X8_fee K = some (r, K')) : MI l D cA X yX8_fee cX8_fee 2 (some .int) 3 70 [.ref (ad 0)] (wd cA ad K 0 shsK) (wd cA ad K' 0 shsK) r :=
  mI_of (by decide +kernel) (Nat.le_of_ble_eq_true rfl) (fun G h1 h2 h3 h4 C hD RET => by subst h1 h2 h3 h4; exact wF_X8_fee_0 C (fun K' => wd_D K' hD) RET  h)
def F_X8_fine_0 (a1 : Int32) (K : Mem) : Option (Int32 × Mem) :=
  bd (C_X6_has 21 K a1) fun r2 =>
  if r2 = 0 then (
    some ((-1000000001), K)
  ) else (
    gd (inb 2 3) <|
    nm (K 27 (Int32.toNatClampNeg 2)) fun v5 =>
    if 0 ≤ v5 then (
      bd2 (C_X5_gives 21 v5 a1 K) fun r9 K8 =>
      some (r9, K8)
    ) else (
      gd (inb a1 12) <|
      some (K 24 (Int32.toNatClampNeg a1), K)
    )
  )
set_option maxRecDepth 100000 in
set_option maxHeartbeats 4000000 in
theorem wF_X8_fine_0 {G : Ctx} {ad : Nat → Nat} (C : Cx G RX8 cX8_fine 3 3 70) (hD : ∀ K, va_D (gA G) (wd (gC G) ad K 0 shsK)) {res : (Int32 × Mem)} (RET : RI G cX8_fine 3 (wd (gC G) ad res.2 0 shsK) res.1) {a1 : Int32} {K : Mem} (h : F_X8_fine_0 a1 K = some res) : V G 3 (wd (gC G) ad K 0 shsK) 0 [(0, .ref (ad 0)), (1, .int a1)] [] := by
  unfold F_X8_fine_0 at h
  refine v_aload_n C dX8_fine_0 rfl rfl 0 rfl ?_
  refine v_getr C dX8_fine_1 rfl ff_X8_21 sk_0 rfl ?_
  refine v_iload_n C dX8_fine_4 rfl rfl 1 rfl ?_
  obtain ⟨r2, e1, h⟩ := bdS h
  refine v_callVi C yv_X6_has m_305 (c_X6_has isTown_21 e1) (Sub.whole hD _ _) ⟨_, _, _, _, _, wd_at sk_21, rfl⟩ (As := [.int a1]) rfl rfl (Nat.le_of_ble_eq_true rfl) ⟨Nat.le_of_ble_eq_true rfl, Nat.le_of_ble_eq_true rfl⟩ dX8_fine_5 rfl ?_
  refine v_if_ne C dX8_fine_8 (tgt := 14) (by decide) rfl (fun c3 => ?_) (fun c3 => ?_)
  · have h := ifn c3 h
    refine v_aload_n C dX8_fine_14 rfl rfl 0 rfl ?_
    refine v_getr C dX8_fine_15 rfl ff_X8_21 sk_0 rfl ?_
    refine v_getr C dX8_fine_18 rfl ff_X8_201 sk_21 rfl ?_
    refine v_iconst C dX8_fine_21 rfl ic_2 ?_
    obtain ⟨b4, h⟩ := gdS h
    refine v_iald C dX8_fine_22 rfl sk_27 b4 ?_
    obtain ⟨v5, ev5, h⟩ := nmS h
    refine v_nmi ev5 ?_
    refine v_istore_n C dX8_fine_23 rfl rfl (by decide) (L' := [(2, .int v5), (0, .ref (ad 0)), (1, .int a1)]) rfl ?_
    refine v_iload_n C dX8_fine_24 rfl rfl 0 rfl ?_
    refine v_if_ge C dX8_fine_25 (tgt := 40) (by decide) rfl (fun c6 => ?_) (fun c6 => ?_)
    · have h := ifp c6 h
      refine v_aload_n C dX8_fine_40 rfl rfl 1 rfl ?_
      refine v_getr C dX8_fine_41 rfl ff_X8_10 sk_0 rfl ?_
      refine v_iload_n C dX8_fine_44 rfl rfl 0 rfl ?_
      refine v_aload_n C dX8_fine_45 rfl rfl 1 rfl ?_
      refine v_getr C dX8_fine_46 rfl ff_X8_21 sk_0 rfl ?_
      refine v_iload_n C dX8_fine_49 rfl rfl 2 rfl ?_
      obtain ⟨r9, K8, e7, h⟩ := bd2S h
      refine v_callVi C yv_X5_gives m_595 (c_X5_gives isTown_21 e7) (Sub.whole hD _ _) ⟨_, _, _, _, _, wd_at sk_1, rfl⟩ (As := [.int v5, .ref (ad 21), .int a1]) rfl rfl (Nat.le_of_ble_eq_true rfl) ⟨Nat.le_of_ble_eq_true rfl, Nat.le_of_ble_eq_true rfl⟩ dX8_fine_50 rfl ?_
      obtain rfl := Option.some.inj h
      exact RET _ _ dX8_fine_53
    · have h := ifn c6 h
      refine v_aload_n C dX8_fine_28 rfl rfl 1 rfl ?_
      refine v_getr C dX8_fine_29 rfl ff_X8_21 sk_0 rfl ?_
      refine v_getr C dX8_fine_32 rfl ff_X8_104 sk_21 rfl ?_
      refine v_iload_n C dX8_fine_35 rfl rfl 2 rfl ?_
      obtain ⟨b10, h⟩ := gdS h
      refine v_iald C dX8_fine_36 rfl sk_24 b10 ?_
      refine v_goto C dX8_fine_37 (tgt := 53) (by decide) ?_
      obtain rfl := Option.some.inj h
      exact RET _ _ dX8_fine_53
  · have h := ifp c3 h
    refine v_ldc C dX8_fine_11 rfl m_290 ?_
    obtain rfl := Option.some.inj h
    exact RET _ _ dX8_fine_13
def C_X8_fine (a1 : Int32) (K : Mem) : Option (Int32 × Mem) := F_X8_fine_0 a1 K
set_option maxRecDepth 100000 in
theorem c_X8_fine {l : Launch} {D : va_G} {cA : FieldType → ClassId} {X : Ex} {ad : Nat → Nat} {a1 : Int32} {K : Mem} {r : Int32} {K' : Mem} (h : C_X8_fine a1 K = some (r, K')) : MI l D cA X yX8_fine cX8_fine 3 (some .int) 3 70 [.ref (ad 0), .int a1] (wd cA ad K 0 shsK) (wd cA ad K' 0 shsK) r :=
  mI_of (by decide +kernel) (Nat.le_of_ble_eq_true rfl) (fun G h1 h2 h3 h4 C hD RET => by subst h1 h2 h3 h4; exact wF_X8_fine_0 C (fun K' => wd_D K' hD) RET  h)
def F_X8_feed_0 (a1 : Int32) (a2 : Int32) (a3 : Int32) (K : Mem) : Option (Int32 × Mem) :=
  if ((K 46 1) + 12) ≤ 96 then (
    bd (C_X4_add a1 K) fun K3 =>
    bd (C_X4_add a2 K3) fun K5 =>
    bd (C_X4_add a3 K5) fun K7 =>
    some (K7 46 1, K7)
  ) else (
    some ((-1000000003), K)
  )
set_option maxRecDepth 100000 in
set_option maxHeartbeats 4000000 in
theorem wF_X8_feed_0 {G : Ctx} {ad : Nat → Nat} (C : Cx G RX8 cX8_feed 4 1 22) (hD : ∀ K, va_D (gA G) (wd (gC G) ad K 0 shsK)) {res : (Int32 × Mem)} (RET : RI G cX8_feed 4 (wd (gC G) ad res.2 0 shsK) res.1) {a1 : Int32} {a2 : Int32} {a3 : Int32} {K : Mem} (h : F_X8_feed_0 a1 a2 a3 K = some res) : V G 4 (wd (gC G) ad K 0 shsK) 0 [(0, .ref (ad 0)), (1, .int a1), (2, .int a2), (3, .int a3)] [] := by
  unfold F_X8_feed_0 at h
  refine v_aload_n C dX8_feed_0 rfl rfl 0 rfl ?_
  refine v_getr C dX8_feed_1 rfl ff_X8_41 sk_0 rfl ?_
  refine v_getf C dX8_feed_4 rfl ff_X8_208 sk_46 rfl ?_
  refine v_bipush C dX8_feed_7 rfl bi_12 ?_
  refine v_iadd C dX8_feed_9 rfl ?_
  refine v_bipush C dX8_feed_10 rfl bi_96 ?_
  refine v_icmp_le C dX8_feed_12 (tgt := 18) (by decide) rfl (fun c1 => ?_) (fun c1 => ?_)
  · have h := ifp c1 h
    refine v_aload_n C dX8_feed_18 rfl rfl 0 rfl ?_
    refine v_getr C dX8_feed_19 rfl ff_X8_41 sk_0 rfl ?_
    refine v_iload_n C dX8_feed_22 rfl rfl 1 rfl ?_
    obtain ⟨K3, e2, h⟩ := bdS h
    refine v_callVv C yv_X4_add m_604 (c_X4_add e2) (Sub.whole hD _ _) ⟨_, _, _, _, _, wd_at sk_46, rfl⟩ (As := [.int a1]) rfl rfl (Nat.le_of_ble_eq_true rfl) ⟨Nat.le_of_ble_eq_true rfl, Nat.le_of_ble_eq_true rfl⟩ dX8_feed_23 rfl ?_
    refine v_aload_n C dX8_feed_26 rfl rfl 0 rfl ?_
    refine v_getr C dX8_feed_27 rfl ff_X8_41 sk_0 rfl ?_
    refine v_iload_n C dX8_feed_30 rfl rfl 2 rfl ?_
    obtain ⟨K5, e4, h⟩ := bdS h
    refine v_callVv C yv_X4_add m_604 (c_X4_add e4) (Sub.whole hD _ _) ⟨_, _, _, _, _, wd_at sk_46, rfl⟩ (As := [.int a2]) rfl rfl (Nat.le_of_ble_eq_true rfl) ⟨Nat.le_of_ble_eq_true rfl, Nat.le_of_ble_eq_true rfl⟩ dX8_feed_31 rfl ?_
    refine v_aload_n C dX8_feed_34 rfl rfl 0 rfl ?_
    refine v_getr C dX8_feed_35 rfl ff_X8_41 sk_0 rfl ?_
    refine v_iload_n C dX8_feed_38 rfl rfl 3 rfl ?_
    obtain ⟨K7, e6, h⟩ := bdS h
    refine v_callVv C yv_X4_add m_604 (c_X4_add e6) (Sub.whole hD _ _) ⟨_, _, _, _, _, wd_at sk_46, rfl⟩ (As := [.int a3]) rfl rfl (Nat.le_of_ble_eq_true rfl) ⟨Nat.le_of_ble_eq_true rfl, Nat.le_of_ble_eq_true rfl⟩ dX8_feed_39 rfl ?_
    refine v_aload_n C dX8_feed_42 rfl rfl 0 rfl ?_
    refine v_getr C dX8_feed_43 rfl ff_X8_41 sk_0 rfl ?_
    refine v_getf C dX8_feed_46 rfl ff_X8_208 sk_46 rfl ?_
    obtain rfl := Option.some.inj h
    exact RET _ _ dX8_feed_49
  · have h := ifn c1 h
    refine v_ldc C dX8_feed_15 rfl m_295 ?_
    obtain rfl := Option.some.inj h
    exact RET _ _ dX8_feed_17
def C_X8_feed (a1 : Int32) (a2 : Int32) (a3 : Int32) (K : Mem) : Option (Int32 × Mem) := F_X8_feed_0 a1 a2 a3 K
set_option maxRecDepth 100000 in
theorem c_X8_feed {l : Launch} {D : va_G} {cA : FieldType → ClassId} {X : Ex} {ad : Nat → Nat} {a1 : Int32} {a2 : Int32} {a3 : Int32} {K : Mem} {r : Int32} {K' : Mem} (h : C_X8_feed a1 a2 a3 K = some (r, K')) : MI l D cA X yX8_feed cX8_feed 4 (some .int) 1 22 [.ref (ad 0), .int a1, .int a2, .int a3] (wd cA ad K 0 shsK) (wd cA ad K' 0 shsK) r :=
  mI_of (by decide +kernel) (Nat.le_of_ble_eq_true rfl) (fun G h1 h2 h3 h4 C hD RET => by subst h1 h2 h3 h4; exact wF_X8_feed_0 C (fun K' => wd_D K' hD) RET  h)
def F_X8_trim_0 (a1 : Int32) (K : Mem) : Option (Int32 × Mem) :=
  if a1 < 0 then (
    some ((-1000000001), K)
  ) else (
    if a1 ≤ (K 46 1) then (
      nm (up K 46 1 a1) fun K3 =>
      some (a1, K3)
    ) else (
      some ((-1000000001), K)
    )
  )
set_option maxRecDepth 100000 in
set_option maxHeartbeats 4000000 in
theorem wF_X8_trim_0 {G : Ctx} {ad : Nat → Nat} (C : Cx G RX8 cX8_trim 2 0 0) (hD : ∀ K, va_D (gA G) (wd (gC G) ad K 0 shsK)) {res : (Int32 × Mem)} (RET : RI G cX8_trim 2 (wd (gC G) ad res.2 0 shsK) res.1) {a1 : Int32} {K : Mem} (h : F_X8_trim_0 a1 K = some res) : V G 2 (wd (gC G) ad K 0 shsK) 0 [(0, .ref (ad 0)), (1, .int a1)] [] := by
  unfold F_X8_trim_0 at h
  refine v_iload_n C dX8_trim_0 rfl rfl 1 rfl ?_
  refine v_if_lt C dX8_trim_1 (tgt := 15) (by decide) rfl (fun c1 => ?_) (fun c1 => ?_)
  · have h := ifp c1 h
    refine v_ldc C dX8_trim_15 rfl m_290 ?_
    obtain rfl := Option.some.inj h
    exact RET _ _ dX8_trim_17
  · have h := ifn c1 h
    refine v_iload_n C dX8_trim_4 rfl rfl 1 rfl ?_
    refine v_aload_n C dX8_trim_5 rfl rfl 0 rfl ?_
    refine v_getr C dX8_trim_6 rfl ff_X8_41 sk_0 rfl ?_
    refine v_getf C dX8_trim_9 rfl ff_X8_208 sk_46 rfl ?_
    refine v_icmp_le C dX8_trim_12 (tgt := 18) (by decide) rfl (fun c2 => ?_) (fun c2 => ?_)
    · have h := ifp c2 h
      refine v_aload_n C dX8_trim_18 rfl rfl 0 rfl ?_
      refine v_getr C dX8_trim_19 rfl ff_X8_41 sk_0 rfl ?_
      refine v_iload_n C dX8_trim_22 rfl rfl 1 rfl ?_
      obtain ⟨K3, eK3, h⟩ := nmS h
      refine v_putf C hD dX8_trim_23 rfl fp_X8_208 sk_46 rfl eK3 ?_
      refine v_iload_n C dX8_trim_26 rfl rfl 1 rfl ?_
      obtain rfl := Option.some.inj h
      exact RET _ _ dX8_trim_27
    · have h := ifn c2 h
      refine v_ldc C dX8_trim_15 rfl m_290 ?_
      obtain rfl := Option.some.inj h
      exact RET _ _ dX8_trim_17
def C_X8_trim (a1 : Int32) (K : Mem) : Option (Int32 × Mem) := F_X8_trim_0 a1 K
set_option maxRecDepth 100000 in
theorem c_X8_trim {l : Launch} {D : va_G} {cA : FieldType → ClassId} {X : Ex} {ad : Nat → Nat} {a1 : Int32} {K : Mem} {r : Int32} {K' : Mem} (h : C_X8_trim a1 K = some (r, K')) : MI l D cA X yX8_trim cX8_trim 2 (some .int) 0 0 [.ref (ad 0), .int a1] (wd cA ad K 0 shsK) (wd cA ad K' 0 shsK) r :=
  mI_of (by decide +kernel) (Nat.le_of_ble_eq_true rfl) (fun G h1 h2 h3 h4 C hD RET => by subst h1 h2 h3 h4; exact wF_X8_trim_0 C (fun K' => wd_D K' hD) RET  h)
def F_X8_textTold_0 (K : Mem) (a1 : Int32) (a2 : Int32) : Option Int32 :=
  if a1 < 0 then (
    some (-1000000001)
  ) else (
    if a1 < (K 21 13) then (
      if a2 = 0 then (
        gd (inb a1 14) <|
        some (K 4 (Int32.toNatClampNeg a1))
      ) else (
        if a2 = 1 then (
          gd (inb a1 14) <|
          some (K 5 (Int32.toNatClampNeg a1))
        ) else (
          some (-1000000001)
        )
      )
    ) else (
      some (-1000000001)
    )
  )
set_option maxRecDepth 100000 in
set_option maxHeartbeats 4000000 in
theorem wF_X8_textTold_0 {G : Ctx} {ad : Nat → Nat} {K : Mem} (C : Cx G RX8 cX8_textTold 3 0 0) (hD : ∀ K, va_D (gA G) (wd (gC G) ad K 0 shsK)) {res : Int32} (RET : RI G cX8_textTold 3 (wd (gC G) ad K 0 shsK) res) {a1 : Int32} {a2 : Int32} (h : F_X8_textTold_0 K a1 a2 = some res) : V G 3 (wd (gC G) ad K 0 shsK) 0 [(0, .ref (ad 0)), (1, .int a1), (2, .int a2)] [] := by
  unfold F_X8_textTold_0 at h
  refine v_iload_n C dX8_textTold_0 rfl rfl 1 rfl ?_
  refine v_if_lt C dX8_textTold_1 (tgt := 15) (by decide) rfl (fun c1 => ?_) (fun c1 => ?_)
  · have h := ifp c1 h
    refine v_ldc C dX8_textTold_15 rfl m_290 ?_
    obtain rfl := Option.some.inj h
    exact RET _ _ dX8_textTold_17
  · have h := ifn c1 h
    refine v_iload_n C dX8_textTold_4 rfl rfl 1 rfl ?_
    refine v_aload_n C dX8_textTold_5 rfl rfl 0 rfl ?_
    refine v_getr C dX8_textTold_6 rfl ff_X8_21 sk_0 rfl ?_
    refine v_getf C dX8_textTold_9 rfl ff_X8_216 sk_21 rfl ?_
    refine v_icmp_lt C dX8_textTold_12 (tgt := 18) (by decide) rfl (fun c2 => ?_) (fun c2 => ?_)
    · have h := ifp c2 h
      refine v_iload_n C dX8_textTold_18 rfl rfl 2 rfl ?_
      by_cases c3 : a2 = 0
      · have h := ifp c3 h
        refine v_lsw C dX8_textTold_19 (by decide) (off := 25) (by rw [c3]; decide) (tgt := 44) (by decide) ?_
        refine v_aload_n C dX8_textTold_44 rfl rfl 0 rfl ?_
        refine v_getr C dX8_textTold_45 rfl ff_X8_10 sk_0 rfl ?_
        refine v_getr C dX8_textTold_48 rfl ff_X8_228 sk_1 rfl ?_
        refine v_iload_n C dX8_textTold_51 rfl rfl 1 rfl ?_
        obtain ⟨b4, h⟩ := gdS h
        refine v_iald C dX8_textTold_52 rfl sk_4 b4 ?_
        obtain rfl := Option.some.inj h
        exact RET _ _ dX8_textTold_53
      · have h := ifn c3 h
        by_cases c5 : a2 = 1
        · have h := ifp c5 h
          refine v_lsw C dX8_textTold_19 (by decide) (off := 35) (by rw [c5]; decide) (tgt := 54) (by decide) ?_
          refine v_aload_n C dX8_textTold_54 rfl rfl 0 rfl ?_
          refine v_getr C dX8_textTold_55 rfl ff_X8_10 sk_0 rfl ?_
          refine v_getr C dX8_textTold_58 rfl ff_X8_230 sk_1 rfl ?_
          refine v_iload_n C dX8_textTold_61 rfl rfl 1 rfl ?_
          obtain ⟨b6, h⟩ := gdS h
          refine v_iald C dX8_textTold_62 rfl sk_5 b6 ?_
          obtain rfl := Option.some.inj h
          exact RET _ _ dX8_textTold_63
        · have h := ifn c5 h
          refine v_lsw C dX8_textTold_19 (by decide) (off := 45) ((lv_osw c3 (by decide)).trans ((lv_osw c5 (by decide)).trans rfl)) (tgt := 64) (by decide) ?_
          refine v_ldc C dX8_textTold_64 rfl m_290 ?_
          obtain rfl := Option.some.inj h
          exact RET _ _ dX8_textTold_66
    · have h := ifn c2 h
      refine v_ldc C dX8_textTold_15 rfl m_290 ?_
      obtain rfl := Option.some.inj h
      exact RET _ _ dX8_textTold_17
def C_X8_textTold (K : Mem) (a1 : Int32) (a2 : Int32) : Option Int32 := F_X8_textTold_0 K a1 a2
set_option maxRecDepth 100000 in
theorem c_X8_textTold {l : Launch} {D : va_G} {cA : FieldType → ClassId} {X : Ex} {ad : Nat → Nat} {a1 : Int32} {a2 : Int32} {K : Mem} {r : Int32} (h : C_X8_textTold K a1 a2 = some r) : MI l D cA X yX8_textTold cX8_textTold 3 (some .int) 0 0 [.ref (ad 0), .int a1, .int a2] (wd cA ad K 0 shsK) (wd cA ad K 0 shsK) r :=
  mI_of (by decide +kernel) (Nat.le_of_ble_eq_true rfl) (fun G h1 h2 h3 h4 C hD RET => by subst h1 h2 h3 h4; exact wF_X8_textTold_0 C (fun K' => wd_D K' hD) RET  h)
def F_X8_why_0 (K : Mem) (a1 : Int32) : Option Int32 :=
  if a1 < 0 then (
    some (-1000000001)
  ) else (
    if a1 < 3 then (
      gd (inb a1 3) <|
      if 0 ≤ (K 27 (Int32.toNatClampNeg a1)) then (
        gd (inb a1 3) <|
        some (K 27 (Int32.toNatClampNeg a1))
      ) else (
        some (-1000000005)
      )
    ) else (
      some (-1000000001)
    )
  )
set_option maxRecDepth 100000 in
set_option maxHeartbeats 4000000 in
theorem wF_X8_why_0 {G : Ctx} {ad : Nat → Nat} {K : Mem} (C : Cx G RX8 cX8_why 2 0 0) (hD : ∀ K, va_D (gA G) (wd (gC G) ad K 0 shsK)) {res : Int32} (RET : RI G cX8_why 2 (wd (gC G) ad K 0 shsK) res) {a1 : Int32} (h : F_X8_why_0 K a1 = some res) : V G 2 (wd (gC G) ad K 0 shsK) 0 [(0, .ref (ad 0)), (1, .int a1)] [] := by
  unfold F_X8_why_0 at h
  refine v_iload_n C dX8_why_0 rfl rfl 1 rfl ?_
  refine v_if_lt C dX8_why_1 (tgt := 9) (by decide) rfl (fun c1 => ?_) (fun c1 => ?_)
  · have h := ifp c1 h
    refine v_ldc C dX8_why_9 rfl m_290 ?_
    obtain rfl := Option.some.inj h
    exact RET _ _ dX8_why_11
  · have h := ifn c1 h
    refine v_iload_n C dX8_why_4 rfl rfl 1 rfl ?_
    refine v_iconst C dX8_why_5 rfl ic_3 ?_
    refine v_icmp_lt C dX8_why_6 (tgt := 12) (by decide) rfl (fun c2 => ?_) (fun c2 => ?_)
    · have h := ifp c2 h
      refine v_aload_n C dX8_why_12 rfl rfl 0 rfl ?_
      refine v_getr C dX8_why_13 rfl ff_X8_21 sk_0 rfl ?_
      refine v_getr C dX8_why_16 rfl ff_X8_201 sk_21 rfl ?_
      refine v_iload_n C dX8_why_19 rfl rfl 1 rfl ?_
      obtain ⟨b3, h⟩ := gdS h
      refine v_iald C dX8_why_20 rfl sk_27 b3 ?_
      refine v_if_ge C dX8_why_21 (tgt := 29) (by decide) rfl (fun c4 => ?_) (fun c4 => ?_)
      · have h := ifp c4 h
        refine v_aload_n C dX8_why_29 rfl rfl 0 rfl ?_
        refine v_getr C dX8_why_30 rfl ff_X8_21 sk_0 rfl ?_
        refine v_getr C dX8_why_33 rfl ff_X8_201 sk_21 rfl ?_
        refine v_iload_n C dX8_why_36 rfl rfl 1 rfl ?_
        obtain ⟨b5, h⟩ := gdS h
        refine v_iald C dX8_why_37 rfl sk_27 b5 ?_
        obtain rfl := Option.some.inj h
        exact RET _ _ dX8_why_38
      · have h := ifn c4 h
        refine v_ldc C dX8_why_24 rfl m_521 ?_
        refine v_goto C dX8_why_26 (tgt := 38) (by decide) ?_
        obtain rfl := Option.some.inj h
        exact RET _ _ dX8_why_38
    · have h := ifn c2 h
      refine v_ldc C dX8_why_9 rfl m_290 ?_
      obtain rfl := Option.some.inj h
      exact RET _ _ dX8_why_11
def C_X8_why (K : Mem) (a1 : Int32) : Option Int32 := F_X8_why_0 K a1
set_option maxRecDepth 100000 in
theorem c_X8_why {l : Launch} {D : va_G} {cA : FieldType → ClassId} {X : Ex} {ad : Nat → Nat} {a1 : Int32} {K : Mem} {r : Int32} (h : C_X8_why K a1 = some r) : MI l D cA X yX8_why cX8_why 2 (some .int) 0 0 [.ref (ad 0), .int a1] (wd cA ad K 0 shsK) (wd cA ad K 0 shsK) r :=
  mI_of (by decide +kernel) (Nat.le_of_ble_eq_true rfl) (fun G h1 h2 h3 h4 C hD RET => by subst h1 h2 h3 h4; exact wF_X8_why_0 C (fun K' => wd_D K' hD) RET  h)
def F_X8_sheet_0 (a1 : Int32) (a2 : Int32) (a3 : Int32) (K : Mem) : Option (Int32 × Mem) :=
  bd (C_X8_isSheet K a1) fun r2 =>
  if r2 = 0 then (
    some ((-1000000001), K)
  ) else (
    if a2 < (-1) then (
      some ((-1000000001), K)
    ) else (
      if a2 ≤ 1 then (
        if a2 = (-1) then (
          gd (inb a1 4) <|
          nm (shG (Int32.toNatClampNeg a1)) fun s14 =>
          bd (C_X2_begin s14 (-1) 0 K) fun K16 =>
          some (0, K16)
        ) else (
          if a3 ≤ 24 then (
            if 0 ≤ a3 then (
              gd (inb a1 4) <|
              nm (shG (Int32.toNatClampNeg a1)) fun s10 =>
              bd (C_X2_begin s10 a2 a3 K) fun K12 =>
              some (a3, K12)
            ) else (
              some ((-1000000014), K)
            )
          ) else (
            some ((-1000000001), K)
          )
        )
      ) else (
        some ((-1000000001), K)
      )
    )
  )
set_option maxRecDepth 100000 in
set_option maxHeartbeats 4000000 in
theorem wF_X8_sheet_0 {G : Ctx} {ad : Nat → Nat} (C : Cx G RX8 cX8_sheet 4 1 23) (hD : ∀ K, va_D (gA G) (wd (gC G) ad K 0 shsK)) {res : (Int32 × Mem)} (RET : RI G cX8_sheet 4 (wd (gC G) ad res.2 0 shsK) res.1) {a1 : Int32} {a2 : Int32} {a3 : Int32} {K : Mem} (h : F_X8_sheet_0 a1 a2 a3 K = some res) : V G 4 (wd (gC G) ad K 0 shsK) 0 [(0, .ref (ad 0)), (1, .int a1), (2, .int a2), (3, .int a3)] [] := by
  unfold F_X8_sheet_0 at h
  refine v_aload_n C dX8_sheet_0 rfl rfl 0 rfl ?_
  refine v_iload_n C dX8_sheet_1 rfl rfl 1 rfl ?_
  obtain ⟨r2, e1, h⟩ := bdS h
  refine v_callVi C yv_X8_isSheet m_566 (c_X8_isSheet e1) (Sub.whole hD _ _) ⟨_, _, _, _, _, wd_at sk_0, rfl⟩ (As := [.int a1]) rfl rfl (Nat.le_of_ble_eq_true rfl) ⟨Nat.le_of_ble_eq_true rfl, Nat.le_of_ble_eq_true rfl⟩ dX8_sheet_2 rfl ?_
  refine v_if_eq C dX8_sheet_5 (tgt := 18) (by decide) rfl (fun c3 => ?_) (fun c3 => ?_)
  · have h := ifp c3 h
    refine v_ldc C dX8_sheet_18 rfl m_290 ?_
    obtain rfl := Option.some.inj h
    exact RET _ _ dX8_sheet_20
  · have h := ifn c3 h
    refine v_iload_n C dX8_sheet_8 rfl rfl 2 rfl ?_
    refine v_iconst C dX8_sheet_9 rfl ic_n1 ?_
    refine v_icmp_lt C dX8_sheet_10 (tgt := 18) (by decide) rfl (fun c4 => ?_) (fun c4 => ?_)
    · have h := ifp c4 h
      refine v_ldc C dX8_sheet_18 rfl m_290 ?_
      obtain rfl := Option.some.inj h
      exact RET _ _ dX8_sheet_20
    · have h := ifn c4 h
      refine v_iload_n C dX8_sheet_13 rfl rfl 2 rfl ?_
      refine v_iconst C dX8_sheet_14 rfl ic_1 ?_
      refine v_icmp_le C dX8_sheet_15 (tgt := 21) (by decide) rfl (fun c5 => ?_) (fun c5 => ?_)
      · have h := ifp c5 h
        refine v_iload_n C dX8_sheet_21 rfl rfl 2 rfl ?_
        refine v_iconst C dX8_sheet_22 rfl ic_n1 ?_
        refine v_icmp_ne C dX8_sheet_23 (tgt := 39) (by decide) rfl (fun c6 => ?_) (fun c6 => ?_)
        · have h := ifn c6 h
          refine v_iload_n C dX8_sheet_39 rfl rfl 3 rfl ?_
          refine v_bipush C dX8_sheet_40 rfl bi_24 ?_
          refine v_icmp_le C dX8_sheet_42 (tgt := 48) (by decide) rfl (fun c7 => ?_) (fun c7 => ?_)
          · have h := ifp c7 h
            refine v_iload_n C dX8_sheet_48 rfl rfl 3 rfl ?_
            refine v_if_ge C dX8_sheet_49 (tgt := 55) (by decide) rfl (fun c8 => ?_) (fun c8 => ?_)
            · have h := ifp c8 h
              refine v_aload_n C dX8_sheet_55 rfl rfl 0 rfl ?_
              refine v_getr C dX8_sheet_56 rfl ff_X8_56 sk_0 rfl ?_
              refine v_iload_n C dX8_sheet_59 rfl rfl 1 rfl ?_
              obtain ⟨b9, h⟩ := gdS h
              obtain ⟨s10, es10, h⟩ := nmS h
              refine v_aald C (t0 := 2) rfl (fun _ => rfl) dX8_sheet_60 rfl sk_50 b9 ?_
              have hs10 : isSheet s10 := es10 ▸ isSheet_of b9
              refine v_nmr es10 ?_
              refine v_iload_n C dX8_sheet_61 rfl rfl 2 rfl ?_
              refine v_iload_n C dX8_sheet_62 rfl rfl 3 rfl ?_
              obtain ⟨K12, e11, h⟩ := bdS h
              refine v_callVv C yv_X2_begin m_746 (c_X2_begin hs10 e11) (Sub.whole hD _ _) ⟨_, _, _, _, _, wd_at (shk_0 hs10), rfl⟩ (As := [.int a2, .int a3]) rfl rfl (Nat.le_of_ble_eq_true rfl) ⟨Nat.le_of_ble_eq_true rfl, Nat.le_of_ble_eq_true rfl⟩ dX8_sheet_63 rfl ?_
              refine v_iload_n C dX8_sheet_66 rfl rfl 3 rfl ?_
              obtain rfl := Option.some.inj h
              exact RET _ _ dX8_sheet_67
            · have h := ifn c8 h
              refine v_ldc C dX8_sheet_52 rfl m_750 ?_
              obtain rfl := Option.some.inj h
              exact RET _ _ dX8_sheet_54
          · have h := ifn c7 h
            refine v_ldc C dX8_sheet_45 rfl m_290 ?_
            obtain rfl := Option.some.inj h
            exact RET _ _ dX8_sheet_47
        · have h := ifp c6 h
          refine v_aload_n C dX8_sheet_26 rfl rfl 0 rfl ?_
          refine v_getr C dX8_sheet_27 rfl ff_X8_56 sk_0 rfl ?_
          refine v_iload_n C dX8_sheet_30 rfl rfl 1 rfl ?_
          obtain ⟨b13, h⟩ := gdS h
          obtain ⟨s14, es14, h⟩ := nmS h
          refine v_aald C (t0 := 2) rfl (fun _ => rfl) dX8_sheet_31 rfl sk_50 b13 ?_
          have hs14 : isSheet s14 := es14 ▸ isSheet_of b13
          refine v_nmr es14 ?_
          refine v_iconst C dX8_sheet_32 rfl ic_n1 ?_
          refine v_iconst C dX8_sheet_33 rfl ic_0 ?_
          obtain ⟨K16, e15, h⟩ := bdS h
          refine v_callVv C yv_X2_begin m_746 (c_X2_begin hs14 e15) (Sub.whole hD _ _) ⟨_, _, _, _, _, wd_at (shk_0 hs14), rfl⟩ (As := [.int (-1), .int 0]) rfl rfl (Nat.le_of_ble_eq_true rfl) ⟨Nat.le_of_ble_eq_true rfl, Nat.le_of_ble_eq_true rfl⟩ dX8_sheet_34 rfl ?_
          refine v_iconst C dX8_sheet_37 rfl ic_0 ?_
          obtain rfl := Option.some.inj h
          exact RET _ _ dX8_sheet_38
      · have h := ifn c5 h
        refine v_ldc C dX8_sheet_18 rfl m_290 ?_
        obtain rfl := Option.some.inj h
        exact RET _ _ dX8_sheet_20
def C_X8_sheet (a1 : Int32) (a2 : Int32) (a3 : Int32) (K : Mem) : Option (Int32 × Mem) := F_X8_sheet_0 a1 a2 a3 K
set_option maxRecDepth 100000 in
theorem c_X8_sheet {l : Launch} {D : va_G} {cA : FieldType → ClassId} {X : Ex} {ad : Nat → Nat} {a1 : Int32} {a2 : Int32} {a3 : Int32} {K : Mem} {r : Int32} {K' : Mem} (h : C_X8_sheet a1 a2 a3 K = some (r, K')) : MI l D cA X yX8_sheet cX8_sheet 4 (some .int) 1 23 [.ref (ad 0), .int a1, .int a2, .int a3] (wd cA ad K 0 shsK) (wd cA ad K' 0 shsK) r :=
  mI_of (by decide +kernel) (Nat.le_of_ble_eq_true rfl) (fun G h1 h2 h3 h4 C hD RET => by subst h1 h2 h3 h4; exact wF_X8_sheet_0 C (fun K' => wd_D K' hD) RET  h)
def F_X8_mark_0 (a1 : Int32) (a2 : Int32) (a3 : Int32) (K : Mem) : Option (Int32 × Mem) :=
  bd (C_X8_isSheet K a1) fun r2 =>
  if r2 = 0 then (
    some ((-1000000001), K)
  ) else (
    gd (inb a1 4) <|
    nm (shG (Int32.toNatClampNeg a1)) fun s5 =>
    bd (C_X2_isMissing s5 K) fun r7 =>
    if r7 = 0 then (
      bd (C_X2_hasPlace s5 K a2) fun r10 =>
      if r10 = 0 then (
        some ((-1000000013), K)
      ) else (
        if (K s5 1) = 0 then (
          if a3 = (-1000000005) then (
            some ((-1000000012), K)
          ) else (
            gd (inb a2 24) <|
            nm (up K (s5 + 1) (Int32.toNatClampNeg a2) ((a3).toInt16.toInt32)) fun K22 =>
            some (1, K22)
          )
        ) else (
          if a3 = (-1000000005) then (
            gd (inb a2 24) <|
            nm (up K (s5 + 1) (Int32.toNatClampNeg a2) a3) fun K15 =>
            some (1, K15)
          ) else (
            if a3 < (-99999) then (
              some ((-1000000001), K)
            ) else (
              if a3 ≤ 99999 then (
                gd (inb a2 24) <|
                nm (up K (s5 + 1) (Int32.toNatClampNeg a2) a3) fun K19 =>
                some (1, K19)
              ) else (
                some ((-1000000001), K)
              )
            )
          )
        )
      )
    ) else (
      some ((-1000000011), K)
    )
  )
set_option maxRecDepth 100000 in
set_option maxHeartbeats 4000000 in
theorem wF_X8_mark_0 {G : Ctx} {ad : Nat → Nat} (C : Cx G RX8 cX8_mark 5 1 21) (hD : ∀ K, va_D (gA G) (wd (gC G) ad K 0 shsK)) {res : (Int32 × Mem)} (RET : RI G cX8_mark 5 (wd (gC G) ad res.2 0 shsK) res.1) {a1 : Int32} {a2 : Int32} {a3 : Int32} {K : Mem} (h : F_X8_mark_0 a1 a2 a3 K = some res) : V G 5 (wd (gC G) ad K 0 shsK) 0 [(0, .ref (ad 0)), (1, .int a1), (2, .int a2), (3, .int a3)] [] := by
  unfold F_X8_mark_0 at h
  refine v_aload_n C dX8_mark_0 rfl rfl 0 rfl ?_
  refine v_iload_n C dX8_mark_1 rfl rfl 1 rfl ?_
  obtain ⟨r2, e1, h⟩ := bdS h
  refine v_callVi C yv_X8_isSheet m_566 (c_X8_isSheet e1) (Sub.whole hD _ _) ⟨_, _, _, _, _, wd_at sk_0, rfl⟩ (As := [.int a1]) rfl rfl (Nat.le_of_ble_eq_true rfl) ⟨Nat.le_of_ble_eq_true rfl, Nat.le_of_ble_eq_true rfl⟩ dX8_mark_2 rfl ?_
  refine v_if_ne C dX8_mark_5 (tgt := 11) (by decide) rfl (fun c3 => ?_) (fun c3 => ?_)
  · have h := ifn c3 h
    refine v_aload_n C dX8_mark_11 rfl rfl 0 rfl ?_
    refine v_getr C dX8_mark_12 rfl ff_X8_56 sk_0 rfl ?_
    refine v_iload_n C dX8_mark_15 rfl rfl 1 rfl ?_
    obtain ⟨b4, h⟩ := gdS h
    obtain ⟨s5, es5, h⟩ := nmS h
    refine v_aald C (t0 := 2) rfl (fun _ => rfl) dX8_mark_16 rfl sk_50 b4 ?_
    have hs5 : isSheet s5 := es5 ▸ isSheet_of b4
    refine v_nmr es5 ?_
    refine v_astore C dX8_mark_17 rfl (by decide) (L' := [(4, .ref (ad s5)), (0, .ref (ad 0)), (1, .int a1), (2, .int a2), (3, .int a3)]) rfl ?_
    refine v_aload C dX8_mark_19 rfl 0 rfl ?_
    obtain ⟨r7, e6, h⟩ := bdS h
    refine v_callVi C yv_X2_isMissing m_570 (c_X2_isMissing hs5 e6) (Sub.whole hD _ _) ⟨_, _, _, _, _, wd_at (shk_0 hs5), rfl⟩ (As := []) rfl rfl (Nat.le_of_ble_eq_true rfl) ⟨Nat.le_of_ble_eq_true rfl, Nat.le_of_ble_eq_true rfl⟩ dX8_mark_21 rfl ?_
    refine v_if_eq C dX8_mark_24 (tgt := 30) (by decide) rfl (fun c8 => ?_) (fun c8 => ?_)
    · have h := ifp c8 h
      refine v_aload C dX8_mark_30 rfl 0 rfl ?_
      refine v_iload_n C dX8_mark_32 rfl rfl 3 rfl ?_
      obtain ⟨r10, e9, h⟩ := bdS h
      refine v_callVi C yv_X2_hasPlace m_755 (c_X2_hasPlace hs5 e9) (Sub.whole hD _ _) ⟨_, _, _, _, _, wd_at (shk_0 hs5), rfl⟩ (As := [.int a2]) rfl rfl (Nat.le_of_ble_eq_true rfl) ⟨Nat.le_of_ble_eq_true rfl, Nat.le_of_ble_eq_true rfl⟩ dX8_mark_33 rfl ?_
      refine v_if_ne C dX8_mark_36 (tgt := 42) (by decide) rfl (fun c11 => ?_) (fun c11 => ?_)
      · have h := ifn c11 h
        refine v_aload C dX8_mark_42 rfl 0 rfl ?_
        refine v_getf C dX8_mark_44 rfl ff_X8_242 (shk_0 hs5) rfl ?_
        refine v_if_ne C dX8_mark_47 (tgt := 70) (by decide) rfl (fun c12 => ?_) (fun c12 => ?_)
        · have h := ifn c12 h
          refine v_iload_n C dX8_mark_70 rfl rfl 4 rfl ?_
          refine v_ldc C dX8_mark_71 rfl m_521 ?_
          refine v_icmp_eq C dX8_mark_73 (tgt := 91) (by decide) rfl (fun c13 => ?_) (fun c13 => ?_)
          · have h := ifp c13 h
            refine v_aload C dX8_mark_91 rfl 0 rfl ?_
            refine v_getr C dX8_mark_93 rfl ff_X8_245 (shk_0 hs5) rfl ?_
            refine v_iload_n C dX8_mark_96 rfl rfl 3 rfl ?_
            refine v_iload_n C dX8_mark_97 rfl rfl 4 rfl ?_
            obtain ⟨b14, h⟩ := gdS h
            obtain ⟨K15, eK15, h⟩ := nmS h
            refine v_iast C hD dX8_mark_98 rfl (shk_1 hs5) b14 eK15 ?_
            refine v_iconst C dX8_mark_99 rfl ic_1 ?_
            obtain rfl := Option.some.inj h
            exact RET _ _ dX8_mark_100
          · have h := ifn c13 h
            refine v_iload_n C dX8_mark_76 rfl rfl 4 rfl ?_
            refine v_ldc C dX8_mark_77 rfl m_757 ?_
            refine v_icmp_lt C dX8_mark_79 (tgt := 88) (by decide) rfl (fun c16 => ?_) (fun c16 => ?_)
            · have h := ifp c16 h
              refine v_ldc C dX8_mark_88 rfl m_290 ?_
              obtain rfl := Option.some.inj h
              exact RET _ _ dX8_mark_90
            · have h := ifn c16 h
              refine v_iload_n C dX8_mark_82 rfl rfl 4 rfl ?_
              refine v_ldc C dX8_mark_83 rfl m_758 ?_
              refine v_icmp_le C dX8_mark_85 (tgt := 91) (by decide) rfl (fun c17 => ?_) (fun c17 => ?_)
              · have h := ifp c17 h
                refine v_aload C dX8_mark_91 rfl 0 rfl ?_
                refine v_getr C dX8_mark_93 rfl ff_X8_245 (shk_0 hs5) rfl ?_
                refine v_iload_n C dX8_mark_96 rfl rfl 3 rfl ?_
                refine v_iload_n C dX8_mark_97 rfl rfl 4 rfl ?_
                obtain ⟨b18, h⟩ := gdS h
                obtain ⟨K19, eK19, h⟩ := nmS h
                refine v_iast C hD dX8_mark_98 rfl (shk_1 hs5) b18 eK19 ?_
                refine v_iconst C dX8_mark_99 rfl ic_1 ?_
                obtain rfl := Option.some.inj h
                exact RET _ _ dX8_mark_100
              · have h := ifn c17 h
                refine v_ldc C dX8_mark_88 rfl m_290 ?_
                obtain rfl := Option.some.inj h
                exact RET _ _ dX8_mark_90
        · have h := ifp c12 h
          refine v_iload_n C dX8_mark_50 rfl rfl 4 rfl ?_
          refine v_ldc C dX8_mark_51 rfl m_521 ?_
          refine v_icmp_ne C dX8_mark_53 (tgt := 59) (by decide) rfl (fun c20 => ?_) (fun c20 => ?_)
          · have h := ifn c20 h
            refine v_aload C dX8_mark_59 rfl 0 rfl ?_
            refine v_getr C dX8_mark_61 rfl ff_X8_245 (shk_0 hs5) rfl ?_
            refine v_iload_n C dX8_mark_64 rfl rfl 3 rfl ?_
            refine v_iload_n C dX8_mark_65 rfl rfl 4 rfl ?_
            refine v_i2s C dX8_mark_66 rfl ?_
            obtain ⟨b21, h⟩ := gdS h
            obtain ⟨K22, eK22, h⟩ := nmS h
            refine v_iast C hD dX8_mark_67 rfl (shk_1 hs5) b21 eK22 ?_
            refine v_iconst C dX8_mark_68 rfl ic_1 ?_
            obtain rfl := Option.some.inj h
            exact RET _ _ dX8_mark_69
          · have h := ifp c20 h
            refine v_ldc C dX8_mark_56 rfl m_383 ?_
            obtain rfl := Option.some.inj h
            exact RET _ _ dX8_mark_58
      · have h := ifp c11 h
        refine v_ldc C dX8_mark_39 rfl m_756 ?_
        obtain rfl := Option.some.inj h
        exact RET _ _ dX8_mark_41
    · have h := ifn c8 h
      refine v_ldc C dX8_mark_27 rfl m_574 ?_
      obtain rfl := Option.some.inj h
      exact RET _ _ dX8_mark_29
  · have h := ifp c3 h
    refine v_ldc C dX8_mark_8 rfl m_290 ?_
    obtain rfl := Option.some.inj h
    exact RET _ _ dX8_mark_10
def C_X8_mark (a1 : Int32) (a2 : Int32) (a3 : Int32) (K : Mem) : Option (Int32 × Mem) := F_X8_mark_0 a1 a2 a3 K
set_option maxRecDepth 100000 in
theorem c_X8_mark {l : Launch} {D : va_G} {cA : FieldType → ClassId} {X : Ex} {ad : Nat → Nat} {a1 : Int32} {a2 : Int32} {a3 : Int32} {K : Mem} {r : Int32} {K' : Mem} (h : C_X8_mark a1 a2 a3 K = some (r, K')) : MI l D cA X yX8_mark cX8_mark 5 (some .int) 1 21 [.ref (ad 0), .int a1, .int a2, .int a3] (wd cA ad K 0 shsK) (wd cA ad K' 0 shsK) r :=
  mI_of (by decide +kernel) (Nat.le_of_ble_eq_true rfl) (fun G h1 h2 h3 h4 C hD RET => by subst h1 h2 h3 h4; exact wF_X8_mark_0 C (fun K' => wd_D K' hD) RET  h)
def F_X8_pour_33 (k33 : Nat → Int32 → Int32 → Mem → Option (Int32 × Mem)) (s2 : Nat) (a3 : Int32) (a4 : Int32) (K : Mem) : Option (Int32 × Mem) :=
  if (K 21 7) ≤ a4 then (
    some (a3, K)
  ) else (
    bd (C_X2_hasNumber s2 K a4) fun r11 =>
    if r11 = 0 then (
      nm (a4 + 1) fun v13 =>
      k33 s2 a3 v13 K
    ) else (
      gd (inb a4 24) <|
      bd (C_X8_heldWithin (K (s2 + 1) (Int32.toNatClampNeg a4)) 99) fun r16 =>
      gd (inb a4 12) <|
      if r16 = (K 24 (Int32.toNatClampNeg a4)) then (
        nm (a4 + 1) fun v19 =>
        k33 s2 a3 v19 K
      ) else (
        gd (inb a4 12) <|
        nm (up K 24 (Int32.toNatClampNeg a4) r16) fun K21 =>
        nm (a3 + 1) fun v22 =>
        nm (a4 + 1) fun v23 =>
        k33 s2 v22 v23 K21
      )
    )
  )
def L_X8_pour_33 : Nat → Nat → Int32 → Int32 → Mem → Option (Int32 × Mem)
  | 0, _, _, _, _ => none
  | n + 1, s2, a3, a4, K => F_X8_pour_33 (fun s2 a3 a4 K => L_X8_pour_33 n s2 a3 a4 K) s2 a3 a4 K
set_option maxRecDepth 100000 in
set_option maxHeartbeats 4000000 in
theorem wF_X8_pour_33 {G : Ctx} {ad : Nat → Nat} {k33 : Nat → Int32 → Int32 → Mem → Option (Int32 × Mem)} (C : Cx G RX8 cX8_pour 6 2 51) (hD : ∀ K, va_D (gA G) (wd (gC G) ad K 0 shsK)) {res : (Int32 × Mem)} (RET : RI G cX8_pour 6 (wd (gC G) ad res.2 0 shsK) res.1) (hk33 : ∀ {s2 : Nat} {a3 : Int32} {a4 : Int32} {K : Mem} (hs2 : isSheet s2), k33 s2 a3 a4 K = some res → V G 6 (wd (gC G) ad K 0 shsK) 33 [(0, .ref (ad 0)), (2, .ref (ad s2)), (3, .int a3), (4, .int a4)] []) {s2 : Nat} (hs2 : isSheet s2) {a3 : Int32} {a4 : Int32} {K : Mem} (h : F_X8_pour_33 k33 s2 a3 a4 K = some res) : V G 6 (wd (gC G) ad K 0 shsK) 33 [(0, .ref (ad 0)), (2, .ref (ad s2)), (3, .int a3), (4, .int a4)] [] := by
  unfold F_X8_pour_33 at h
  refine v_iload C dX8_pour_33 rfl 3 rfl ?_
  refine v_aload_n C dX8_pour_35 rfl rfl 0 rfl ?_
  refine v_getr C dX8_pour_36 rfl ff_X8_21 sk_0 rfl ?_
  refine v_getf C dX8_pour_39 rfl ff_X8_91 sk_21 rfl ?_
  refine v_icmp_ge C dX8_pour_42 (tgt := 104) (by decide) rfl (fun c9 => ?_) (fun c9 => ?_)
  · have h := ifp c9 h
    refine v_iload_n C dX8_pour_104 rfl rfl 2 rfl ?_
    obtain rfl := Option.some.inj h
    exact RET _ _ dX8_pour_105
  · have h := ifn c9 h
    refine v_aload_n C dX8_pour_45 rfl rfl 1 rfl ?_
    refine v_iload C dX8_pour_46 rfl 3 rfl ?_
    obtain ⟨r11, e10, h⟩ := bdS h
    refine v_callVi C yv_X2_hasNumber m_579 (c_X2_hasNumber hs2 e10) (Sub.whole hD _ _) ⟨_, _, _, _, _, wd_at (shk_0 hs2), rfl⟩ (As := [.int a4]) rfl rfl (Nat.le_of_ble_eq_true rfl) ⟨Nat.le_of_ble_eq_true rfl, Nat.le_of_ble_eq_true rfl⟩ dX8_pour_48 rfl ?_
    refine v_if_eq C dX8_pour_51 (tgt := 98) (by decide) rfl (fun c12 => ?_) (fun c12 => ?_)
    · have h := ifp c12 h
      obtain ⟨v13, ev13, h⟩ := nmS h
      refine v_iinc C dX8_pour_98 rfl 3 rfl (v := v13) (by rw [ev13]; rfl) (by decide) (L' := [(4, .int v13), (0, .ref (ad 0)), (2, .ref (ad s2)), (3, .int a3)]) rfl ?_
      refine v_goto C dX8_pour_101 (tgt := 33) (by decide) ?_
      refine v_sub [1, 2, 3, 0] rfl ?_
      exact hk33 hs2 h
    · have h := ifn c12 h
      refine v_aload_n C dX8_pour_54 rfl rfl 1 rfl ?_
      refine v_getr C dX8_pour_55 rfl ff_X8_245 (shk_0 hs2) rfl ?_
      refine v_iload C dX8_pour_58 rfl 3 rfl ?_
      obtain ⟨b14, h⟩ := gdS h
      refine v_iald C dX8_pour_60 rfl (shk_1 hs2) b14 ?_
      refine v_bipush C dX8_pour_61 rfl bi_99 ?_
      obtain ⟨r16, e15, h⟩ := bdS h
      refine v_callSi C ys_X8_heldWithin m_763 (c_X8_heldWithin e15) (Sub.whole hD _ _) (As := [.int (K (s2 + 1) (Int32.toNatClampNeg a4)), .int 99]) rfl rfl (Nat.le_of_ble_eq_true rfl) ⟨Nat.le_of_ble_eq_true rfl, Nat.le_of_ble_eq_true rfl⟩ dX8_pour_63 rfl ?_
      refine v_istore C dX8_pour_66 rfl (by decide) (L' := [(5, .int r16), (0, .ref (ad 0)), (2, .ref (ad s2)), (3, .int a3), (4, .int a4)]) rfl ?_
      refine v_iload C dX8_pour_68 rfl 0 rfl ?_
      refine v_aload_n C dX8_pour_70 rfl rfl 1 rfl ?_
      refine v_getr C dX8_pour_71 rfl ff_X8_21 sk_0 rfl ?_
      refine v_getr C dX8_pour_74 rfl ff_X8_104 sk_21 rfl ?_
      refine v_iload C dX8_pour_77 rfl 4 rfl ?_
      obtain ⟨b17, h⟩ := gdS h
      refine v_iald C dX8_pour_79 rfl sk_24 b17 ?_
      refine v_icmp_eq C dX8_pour_80 (tgt := 98) (by decide) rfl (fun c18 => ?_) (fun c18 => ?_)
      · have h := ifp c18 h
        obtain ⟨v19, ev19, h⟩ := nmS h
        refine v_iinc C dX8_pour_98 rfl 4 rfl (v := v19) (by rw [ev19]; rfl) (by decide) (L' := [(4, .int v19), (5, .int r16), (0, .ref (ad 0)), (2, .ref (ad s2)), (3, .int a3)]) rfl ?_
        refine v_goto C dX8_pour_101 (tgt := 33) (by decide) ?_
        refine v_sub [2, 3, 4, 0] rfl ?_
        exact hk33 hs2 h
      · have h := ifn c18 h
        refine v_aload_n C dX8_pour_83 rfl rfl 1 rfl ?_
        refine v_getr C dX8_pour_84 rfl ff_X8_21 sk_0 rfl ?_
        refine v_getr C dX8_pour_87 rfl ff_X8_104 sk_21 rfl ?_
        refine v_iload C dX8_pour_90 rfl 4 rfl ?_
        refine v_iload C dX8_pour_92 rfl 0 rfl ?_
        obtain ⟨b20, h⟩ := gdS h
        obtain ⟨K21, eK21, h⟩ := nmS h
        refine v_iast C hD dX8_pour_94 rfl sk_24 b20 eK21 ?_
        obtain ⟨v22, ev22, h⟩ := nmS h
        refine v_iinc C dX8_pour_95 rfl 3 rfl (v := v22) (by rw [ev22]; rfl) (by decide) (L' := [(3, .int v22), (5, .int r16), (0, .ref (ad 0)), (2, .ref (ad s2)), (4, .int a4)]) rfl ?_
        obtain ⟨v23, ev23, h⟩ := nmS h
        refine v_iinc C dX8_pour_98 rfl 4 rfl (v := v23) (by rw [ev23]; rfl) (by decide) (L' := [(4, .int v23), (3, .int v22), (5, .int r16), (0, .ref (ad 0)), (2, .ref (ad s2))]) rfl ?_
        refine v_goto C dX8_pour_101 (tgt := 33) (by decide) ?_
        refine v_sub [3, 4, 1, 0] rfl ?_
        exact hk33 hs2 h
theorem wL_X8_pour_33 {G : Ctx} {ad : Nat → Nat} (C : Cx G RX8 cX8_pour 6 2 51) (hD : ∀ K, va_D (gA G) (wd (gC G) ad K 0 shsK)) {res : (Int32 × Mem)} (RET : RI G cX8_pour 6 (wd (gC G) ad res.2 0 shsK) res.1) : ∀ (n : Nat) {s2 : Nat} {a3 : Int32} {a4 : Int32} {K : Mem} (hs2 : isSheet s2) (h : L_X8_pour_33 n s2 a3 a4 K = some res), V G 6 (wd (gC G) ad K 0 shsK) 33 [(0, .ref (ad 0)), (2, .ref (ad s2)), (3, .int a3), (4, .int a4)] [] := by
  intro n
  induction n with
  | zero =>
    intro s2 a3 a4 K hs2 h
    cases (show (none : Option (Int32 × Mem)) = some res from h)
  | succ n ih =>
    intro s2 a3 a4 K hs2 h
    exact wF_X8_pour_33 (k33 := fun s2 a3 a4 K => L_X8_pour_33  n s2 a3 a4 K) C hD RET (fun hs2 h => ih hs2 h) hs2 h
def F_X8_pour_0 (a1 : Int32) (K : Mem) : Option (Int32 × Mem) :=
  bd (C_X8_isSheet K a1) fun r2 =>
  if r2 = 0 then (
    some ((-1000000001), K)
  ) else (
    gd (inb a1 4) <|
    nm (shG (Int32.toNatClampNeg a1)) fun s5 =>
    bd (C_X2_isMissing s5 K) fun r7 =>
    if r7 = 0 then (
      L_X8_pour_33 FU s5 0 0 K
    ) else (
      some ((-1000000011), K)
    )
  )
set_option maxRecDepth 100000 in
set_option maxHeartbeats 4000000 in
theorem wF_X8_pour_0 {G : Ctx} {ad : Nat → Nat} (C : Cx G RX8 cX8_pour 6 2 51) (hD : ∀ K, va_D (gA G) (wd (gC G) ad K 0 shsK)) {res : (Int32 × Mem)} (RET : RI G cX8_pour 6 (wd (gC G) ad res.2 0 shsK) res.1) {a1 : Int32} {K : Mem} (h : F_X8_pour_0 a1 K = some res) : V G 6 (wd (gC G) ad K 0 shsK) 0 [(0, .ref (ad 0)), (1, .int a1)] [] := by
  unfold F_X8_pour_0 at h
  refine v_aload_n C dX8_pour_0 rfl rfl 0 rfl ?_
  refine v_iload_n C dX8_pour_1 rfl rfl 1 rfl ?_
  obtain ⟨r2, e1, h⟩ := bdS h
  refine v_callVi C yv_X8_isSheet m_566 (c_X8_isSheet e1) (Sub.whole hD _ _) ⟨_, _, _, _, _, wd_at sk_0, rfl⟩ (As := [.int a1]) rfl rfl (Nat.le_of_ble_eq_true rfl) ⟨Nat.le_of_ble_eq_true rfl, Nat.le_of_ble_eq_true rfl⟩ dX8_pour_2 rfl ?_
  refine v_if_ne C dX8_pour_5 (tgt := 11) (by decide) rfl (fun c3 => ?_) (fun c3 => ?_)
  · have h := ifn c3 h
    refine v_aload_n C dX8_pour_11 rfl rfl 0 rfl ?_
    refine v_getr C dX8_pour_12 rfl ff_X8_56 sk_0 rfl ?_
    refine v_iload_n C dX8_pour_15 rfl rfl 1 rfl ?_
    obtain ⟨b4, h⟩ := gdS h
    obtain ⟨s5, es5, h⟩ := nmS h
    refine v_aald C (t0 := 2) rfl (fun _ => rfl) dX8_pour_16 rfl sk_50 b4 ?_
    have hs5 : isSheet s5 := es5 ▸ isSheet_of b4
    refine v_nmr es5 ?_
    refine v_astore_n C dX8_pour_17 rfl rfl (by decide) (L' := [(2, .ref (ad s5)), (0, .ref (ad 0)), (1, .int a1)]) rfl ?_
    refine v_aload_n C dX8_pour_18 rfl rfl 0 rfl ?_
    obtain ⟨r7, e6, h⟩ := bdS h
    refine v_callVi C yv_X2_isMissing m_570 (c_X2_isMissing hs5 e6) (Sub.whole hD _ _) ⟨_, _, _, _, _, wd_at (shk_0 hs5), rfl⟩ (As := []) rfl rfl (Nat.le_of_ble_eq_true rfl) ⟨Nat.le_of_ble_eq_true rfl, Nat.le_of_ble_eq_true rfl⟩ dX8_pour_19 rfl ?_
    refine v_if_eq C dX8_pour_22 (tgt := 28) (by decide) rfl (fun c8 => ?_) (fun c8 => ?_)
    · have h := ifp c8 h
      refine v_iconst C dX8_pour_28 rfl ic_0 ?_
      refine v_istore_n C dX8_pour_29 rfl rfl (by decide) (L' := [(3, .int 0), (2, .ref (ad s5)), (0, .ref (ad 0)), (1, .int a1)]) rfl ?_
      refine v_iconst C dX8_pour_30 rfl ic_0 ?_
      refine v_istore C dX8_pour_31 rfl (by decide) (L' := [(4, .int 0), (3, .int 0), (2, .ref (ad s5)), (0, .ref (ad 0)), (1, .int a1)]) rfl ?_
      refine v_sub [3, 2, 1, 0] rfl ?_
      exact wL_X8_pour_33 C hD RET FU hs5 h
    · have h := ifn c8 h
      refine v_ldc C dX8_pour_25 rfl m_574 ?_
      obtain rfl := Option.some.inj h
      exact RET _ _ dX8_pour_27
  · have h := ifp c3 h
    refine v_ldc C dX8_pour_8 rfl m_290 ?_
    obtain rfl := Option.some.inj h
    exact RET _ _ dX8_pour_10
def C_X8_pour (a1 : Int32) (K : Mem) : Option (Int32 × Mem) := F_X8_pour_0 a1 K
set_option maxRecDepth 100000 in
theorem c_X8_pour {l : Launch} {D : va_G} {cA : FieldType → ClassId} {X : Ex} {ad : Nat → Nat} {a1 : Int32} {K : Mem} {r : Int32} {K' : Mem} (h : C_X8_pour a1 K = some (r, K')) : MI l D cA X yX8_pour cX8_pour 6 (some .int) 2 51 [.ref (ad 0), .int a1] (wd cA ad K 0 shsK) (wd cA ad K' 0 shsK) r :=
  mI_of (by decide +kernel) (Nat.le_of_ble_eq_true rfl) (fun G h1 h2 h3 h4 C hD RET => by subst h1 h2 h3 h4; exact wF_X8_pour_0 C (fun K' => wd_D K' hD) RET  h)
def F_X8_reads_30 (k30 : Nat → Int32 → Option Int32) (K : Mem) (s2 : Nat) (a3 : Int32) : Option Int32 :=
  if (K s2 2) ≤ a3 then (
    some (-1000000005)
  ) else (
    bd (C_X2_hasNumber s2 K a3) fun r11 =>
    if r11 = 0 then (
      nm (a3 + 1) fun v13 =>
      k30 s2 v13
    ) else (
      bd (C_X6_has 21 K a3) fun r15 =>
      if r15 = 0 then (
        some a3
      ) else (
        gd (inb a3 24) <|
        gd (inb a3 12) <|
        if (K (s2 + 1) (Int32.toNatClampNeg a3)) = (K 23 (Int32.toNatClampNeg a3)) then (
          nm (a3 + 1) fun v20 =>
          k30 s2 v20
        ) else (
          some a3
        )
      )
    )
  )
def L_X8_reads_30 (K : Mem) : Nat → Nat → Int32 → Option Int32
  | 0, _, _ => none
  | n + 1, s2, a3 => F_X8_reads_30 (fun s2 a3 => L_X8_reads_30 K n s2 a3) K s2 a3
set_option maxRecDepth 100000 in
set_option maxHeartbeats 4000000 in
theorem wF_X8_reads_30 {G : Ctx} {ad : Nat → Nat} {K : Mem} {k30 : Nat → Int32 → Option Int32} (C : Cx G RX8 cX8_reads 4 2 42) (hD : ∀ K, va_D (gA G) (wd (gC G) ad K 0 shsK)) {res : Int32} (RET : RI G cX8_reads 4 (wd (gC G) ad K 0 shsK) res) (hk30 : ∀ {s2 : Nat} {a3 : Int32} (hs2 : isSheet s2), k30 s2 a3 = some res → V G 4 (wd (gC G) ad K 0 shsK) 30 [(0, .ref (ad 0)), (2, .ref (ad s2)), (3, .int a3)] []) {s2 : Nat} (hs2 : isSheet s2) {a3 : Int32} (h : F_X8_reads_30 k30 K s2 a3 = some res) : V G 4 (wd (gC G) ad K 0 shsK) 30 [(0, .ref (ad 0)), (2, .ref (ad s2)), (3, .int a3)] [] := by
  unfold F_X8_reads_30 at h
  refine v_iload_n C dX8_reads_30 rfl rfl 2 rfl ?_
  refine v_aload_n C dX8_reads_31 rfl rfl 1 rfl ?_
  refine v_getf C dX8_reads_32 rfl ff_X8_256 (shk_0 hs2) rfl ?_
  refine v_icmp_ge C dX8_reads_35 (tgt := 83) (by decide) rfl (fun c9 => ?_) (fun c9 => ?_)
  · have h := ifp c9 h
    refine v_ldc C dX8_reads_83 rfl m_521 ?_
    obtain rfl := Option.some.inj h
    exact RET _ _ dX8_reads_85
  · have h := ifn c9 h
    refine v_aload_n C dX8_reads_38 rfl rfl 1 rfl ?_
    refine v_iload_n C dX8_reads_39 rfl rfl 2 rfl ?_
    obtain ⟨r11, e10, h⟩ := bdS h
    refine v_callVi C yv_X2_hasNumber m_579 (c_X2_hasNumber hs2 e10) (Sub.whole hD _ _) ⟨_, _, _, _, _, wd_at (shk_0 hs2), rfl⟩ (As := [.int a3]) rfl rfl (Nat.le_of_ble_eq_true rfl) ⟨Nat.le_of_ble_eq_true rfl, Nat.le_of_ble_eq_true rfl⟩ dX8_reads_40 rfl ?_
    refine v_if_eq C dX8_reads_43 (tgt := 77) (by decide) rfl (fun c12 => ?_) (fun c12 => ?_)
    · have h := ifp c12 h
      obtain ⟨v13, ev13, h⟩ := nmS h
      refine v_iinc C dX8_reads_77 rfl 2 rfl (v := v13) (by rw [ev13]; rfl) (by decide) (L' := [(3, .int v13), (0, .ref (ad 0)), (2, .ref (ad s2))]) rfl ?_
      refine v_goto C dX8_reads_80 (tgt := 30) (by decide) ?_
      refine v_sub [1, 2, 0] rfl ?_
      exact hk30 hs2 h
    · have h := ifn c12 h
      refine v_aload_n C dX8_reads_46 rfl rfl 0 rfl ?_
      refine v_getr C dX8_reads_47 rfl ff_X8_21 sk_0 rfl ?_
      refine v_iload_n C dX8_reads_50 rfl rfl 2 rfl ?_
      obtain ⟨r15, e14, h⟩ := bdS h
      refine v_callVi C yv_X6_has m_305 (c_X6_has isTown_21 e14) (Sub.whole hD _ _) ⟨_, _, _, _, _, wd_at sk_21, rfl⟩ (As := [.int a3]) rfl rfl (Nat.le_of_ble_eq_true rfl) ⟨Nat.le_of_ble_eq_true rfl, Nat.le_of_ble_eq_true rfl⟩ dX8_reads_51 rfl ?_
      refine v_if_eq C dX8_reads_54 (tgt := 75) (by decide) rfl (fun c16 => ?_) (fun c16 => ?_)
      · have h := ifp c16 h
        refine v_iload_n C dX8_reads_75 rfl rfl 2 rfl ?_
        obtain rfl := Option.some.inj h
        exact RET _ _ dX8_reads_76
      · have h := ifn c16 h
        refine v_aload_n C dX8_reads_57 rfl rfl 1 rfl ?_
        refine v_getr C dX8_reads_58 rfl ff_X8_245 (shk_0 hs2) rfl ?_
        refine v_iload_n C dX8_reads_61 rfl rfl 2 rfl ?_
        obtain ⟨b17, h⟩ := gdS h
        refine v_iald C dX8_reads_62 rfl (shk_1 hs2) b17 ?_
        refine v_aload_n C dX8_reads_63 rfl rfl 0 rfl ?_
        refine v_getr C dX8_reads_64 rfl ff_X8_21 sk_0 rfl ?_
        refine v_getr C dX8_reads_67 rfl ff_X8_101 sk_21 rfl ?_
        refine v_iload_n C dX8_reads_70 rfl rfl 2 rfl ?_
        obtain ⟨b18, h⟩ := gdS h
        refine v_iald C dX8_reads_71 rfl sk_23 b18 ?_
        refine v_icmp_eq C dX8_reads_72 (tgt := 77) (by decide) rfl (fun c19 => ?_) (fun c19 => ?_)
        · have h := ifp c19 h
          obtain ⟨v20, ev20, h⟩ := nmS h
          refine v_iinc C dX8_reads_77 rfl 2 rfl (v := v20) (by rw [ev20]; rfl) (by decide) (L' := [(3, .int v20), (0, .ref (ad 0)), (2, .ref (ad s2))]) rfl ?_
          refine v_goto C dX8_reads_80 (tgt := 30) (by decide) ?_
          refine v_sub [1, 2, 0] rfl ?_
          exact hk30 hs2 h
        · have h := ifn c19 h
          refine v_iload_n C dX8_reads_75 rfl rfl 2 rfl ?_
          obtain rfl := Option.some.inj h
          exact RET _ _ dX8_reads_76
theorem wL_X8_reads_30 {G : Ctx} {ad : Nat → Nat} {K : Mem} (C : Cx G RX8 cX8_reads 4 2 42) (hD : ∀ K, va_D (gA G) (wd (gC G) ad K 0 shsK)) {res : Int32} (RET : RI G cX8_reads 4 (wd (gC G) ad K 0 shsK) res) : ∀ (n : Nat) {s2 : Nat} {a3 : Int32} (hs2 : isSheet s2) (h : L_X8_reads_30 K n s2 a3 = some res), V G 4 (wd (gC G) ad K 0 shsK) 30 [(0, .ref (ad 0)), (2, .ref (ad s2)), (3, .int a3)] [] := by
  intro n
  induction n with
  | zero =>
    intro s2 a3 hs2 h
    cases (show (none : Option Int32) = some res from h)
  | succ n ih =>
    intro s2 a3 hs2 h
    exact wF_X8_reads_30 (k30 := fun s2 a3 => L_X8_reads_30 K n s2 a3) C hD RET (fun hs2 h => ih hs2 h) hs2 h
def F_X8_reads_0 (K : Mem) (a1 : Int32) : Option Int32 :=
  bd (C_X8_isSheet K a1) fun r2 =>
  if r2 = 0 then (
    some (-1000000001)
  ) else (
    gd (inb a1 4) <|
    nm (shG (Int32.toNatClampNeg a1)) fun s5 =>
    bd (C_X2_isMissing s5 K) fun r7 =>
    if r7 = 0 then (
      L_X8_reads_30 K FU s5 0
    ) else (
      some (-1000000011)
    )
  )
set_option maxRecDepth 100000 in
set_option maxHeartbeats 4000000 in
theorem wF_X8_reads_0 {G : Ctx} {ad : Nat → Nat} {K : Mem} (C : Cx G RX8 cX8_reads 4 2 42) (hD : ∀ K, va_D (gA G) (wd (gC G) ad K 0 shsK)) {res : Int32} (RET : RI G cX8_reads 4 (wd (gC G) ad K 0 shsK) res) {a1 : Int32} (h : F_X8_reads_0 K a1 = some res) : V G 4 (wd (gC G) ad K 0 shsK) 0 [(0, .ref (ad 0)), (1, .int a1)] [] := by
  unfold F_X8_reads_0 at h
  refine v_aload_n C dX8_reads_0 rfl rfl 0 rfl ?_
  refine v_iload_n C dX8_reads_1 rfl rfl 1 rfl ?_
  obtain ⟨r2, e1, h⟩ := bdS h
  refine v_callVi C yv_X8_isSheet m_566 (c_X8_isSheet e1) (Sub.whole hD _ _) ⟨_, _, _, _, _, wd_at sk_0, rfl⟩ (As := [.int a1]) rfl rfl (Nat.le_of_ble_eq_true rfl) ⟨Nat.le_of_ble_eq_true rfl, Nat.le_of_ble_eq_true rfl⟩ dX8_reads_2 rfl ?_
  refine v_if_ne C dX8_reads_5 (tgt := 11) (by decide) rfl (fun c3 => ?_) (fun c3 => ?_)
  · have h := ifn c3 h
    refine v_aload_n C dX8_reads_11 rfl rfl 0 rfl ?_
    refine v_getr C dX8_reads_12 rfl ff_X8_56 sk_0 rfl ?_
    refine v_iload_n C dX8_reads_15 rfl rfl 1 rfl ?_
    obtain ⟨b4, h⟩ := gdS h
    obtain ⟨s5, es5, h⟩ := nmS h
    refine v_aald C (t0 := 2) rfl (fun _ => rfl) dX8_reads_16 rfl sk_50 b4 ?_
    have hs5 : isSheet s5 := es5 ▸ isSheet_of b4
    refine v_nmr es5 ?_
    refine v_astore_n C dX8_reads_17 rfl rfl (by decide) (L' := [(2, .ref (ad s5)), (0, .ref (ad 0)), (1, .int a1)]) rfl ?_
    refine v_aload_n C dX8_reads_18 rfl rfl 0 rfl ?_
    obtain ⟨r7, e6, h⟩ := bdS h
    refine v_callVi C yv_X2_isMissing m_570 (c_X2_isMissing hs5 e6) (Sub.whole hD _ _) ⟨_, _, _, _, _, wd_at (shk_0 hs5), rfl⟩ (As := []) rfl rfl (Nat.le_of_ble_eq_true rfl) ⟨Nat.le_of_ble_eq_true rfl, Nat.le_of_ble_eq_true rfl⟩ dX8_reads_19 rfl ?_
    refine v_if_eq C dX8_reads_22 (tgt := 28) (by decide) rfl (fun c8 => ?_) (fun c8 => ?_)
    · have h := ifp c8 h
      refine v_iconst C dX8_reads_28 rfl ic_0 ?_
      refine v_istore_n C dX8_reads_29 rfl rfl (by decide) (L' := [(3, .int 0), (2, .ref (ad s5)), (0, .ref (ad 0)), (1, .int a1)]) rfl ?_
      refine v_sub [2, 1, 0] rfl ?_
      exact wL_X8_reads_30 C hD RET FU hs5 h
    · have h := ifn c8 h
      refine v_ldc C dX8_reads_25 rfl m_574 ?_
      obtain rfl := Option.some.inj h
      exact RET _ _ dX8_reads_27
  · have h := ifp c3 h
    refine v_ldc C dX8_reads_8 rfl m_290 ?_
    obtain rfl := Option.some.inj h
    exact RET _ _ dX8_reads_10
def C_X8_reads (K : Mem) (a1 : Int32) : Option Int32 := F_X8_reads_0 K a1
set_option maxRecDepth 100000 in
theorem c_X8_reads {l : Launch} {D : va_G} {cA : FieldType → ClassId} {X : Ex} {ad : Nat → Nat} {a1 : Int32} {K : Mem} {r : Int32} (h : C_X8_reads K a1 = some r) : MI l D cA X yX8_reads cX8_reads 4 (some .int) 2 42 [.ref (ad 0), .int a1] (wd cA ad K 0 shsK) (wd cA ad K 0 shsK) r :=
  mI_of (by decide +kernel) (Nat.le_of_ble_eq_true rfl) (fun G h1 h2 h3 h4 C hD RET => by subst h1 h2 h3 h4; exact wF_X8_reads_0 C (fun K' => wd_D K' hD) RET  h)
def F_X8_copy_0 (a1 : Int32) (a2 : Int32) (a3 : Int32) (a4 : Int32) (a5 : Int32) (K : Mem) : Option (Int32 × Mem) :=
  bd (C_X8_isSheet K a1) fun r2 =>
  if r2 = 0 then (
    some ((-1000000001), K)
  ) else (
    bd (C_X8_isSheet K a3) fun r5 =>
    if r5 = 0 then (
      some ((-1000000001), K)
    ) else (
      gd (inb a1 4) <|
      nm (shG (Int32.toNatClampNeg a1)) fun s8 =>
      gd (inb a3 4) <|
      nm (shG (Int32.toNatClampNeg a3)) fun s10 =>
      bd (C_X2_isMissing s8 K) fun r12 =>
      if r12 = 0 then (
        bd (C_X2_isMissing s10 K) fun r15 =>
        if r15 = 0 then (
          if (K s8 1) = (K s10 1) then (
            bd (C_X2_hasPlaces s8 K a2 a5) fun r19 =>
            if r19 = 0 then (
              some ((-1000000013), K)
            ) else (
              bd (C_X2_hasPlaces s10 K a4 a5) fun r22 =>
              if r22 = 0 then (
                some ((-1000000013), K)
              ) else (
                gd (cpok a2 a4 a5 24 24) <|
                nm (cpm K (s8 + 1) (s10 + 1) (Int32.toNatClampNeg a2) (Int32.toNatClampNeg a4) (Int32.toNatClampNeg a5)) fun K25 =>
                some (a5, K25)
              )
            )
          ) else (
            some ((-1000000012), K)
          )
        ) else (
          some ((-1000000011), K)
        )
      ) else (
        some ((-1000000011), K)
      )
    )
  )
set_option maxRecDepth 100000 in
set_option maxHeartbeats 4000000 in
theorem wF_X8_copy_0 {G : Ctx} {ad : Nat → Nat} (C : Cx G RX8 cX8_copy 8 1 30) (hD : ∀ K, va_D (gA G) (wd (gC G) ad K 0 shsK)) {res : (Int32 × Mem)} (RET : RI G cX8_copy 8 (wd (gC G) ad res.2 0 shsK) res.1) {a1 : Int32} {a2 : Int32} {a3 : Int32} {a4 : Int32} {a5 : Int32} {K : Mem} (h : F_X8_copy_0 a1 a2 a3 a4 a5 K = some res) : V G 8 (wd (gC G) ad K 0 shsK) 0 [(0, .ref (ad 0)), (1, .int a1), (2, .int a2), (3, .int a3), (4, .int a4), (5, .int a5)] [] := by
  unfold F_X8_copy_0 at h
  refine v_aload_n C dX8_copy_0 rfl rfl 0 rfl ?_
  refine v_iload_n C dX8_copy_1 rfl rfl 1 rfl ?_
  obtain ⟨r2, e1, h⟩ := bdS h
  refine v_callVi C yv_X8_isSheet m_566 (c_X8_isSheet e1) (Sub.whole hD _ _) ⟨_, _, _, _, _, wd_at sk_0, rfl⟩ (As := [.int a1]) rfl rfl (Nat.le_of_ble_eq_true rfl) ⟨Nat.le_of_ble_eq_true rfl, Nat.le_of_ble_eq_true rfl⟩ dX8_copy_2 rfl ?_
  refine v_if_eq C dX8_copy_5 (tgt := 16) (by decide) rfl (fun c3 => ?_) (fun c3 => ?_)
  · have h := ifp c3 h
    refine v_ldc C dX8_copy_16 rfl m_290 ?_
    obtain rfl := Option.some.inj h
    exact RET _ _ dX8_copy_18
  · have h := ifn c3 h
    refine v_aload_n C dX8_copy_8 rfl rfl 0 rfl ?_
    refine v_iload_n C dX8_copy_9 rfl rfl 3 rfl ?_
    obtain ⟨r5, e4, h⟩ := bdS h
    refine v_callVi C yv_X8_isSheet m_566 (c_X8_isSheet e4) (Sub.whole hD _ _) ⟨_, _, _, _, _, wd_at sk_0, rfl⟩ (As := [.int a3]) rfl rfl (Nat.le_of_ble_eq_true rfl) ⟨Nat.le_of_ble_eq_true rfl, Nat.le_of_ble_eq_true rfl⟩ dX8_copy_10 rfl ?_
    refine v_if_ne C dX8_copy_13 (tgt := 19) (by decide) rfl (fun c6 => ?_) (fun c6 => ?_)
    · have h := ifn c6 h
      refine v_aload_n C dX8_copy_19 rfl rfl 0 rfl ?_
      refine v_getr C dX8_copy_20 rfl ff_X8_56 sk_0 rfl ?_
      refine v_iload_n C dX8_copy_23 rfl rfl 1 rfl ?_
      obtain ⟨b7, h⟩ := gdS h
      obtain ⟨s8, es8, h⟩ := nmS h
      refine v_aald C (t0 := 2) rfl (fun _ => rfl) dX8_copy_24 rfl sk_50 b7 ?_
      have hs8 : isSheet s8 := es8 ▸ isSheet_of b7
      refine v_nmr es8 ?_
      refine v_astore C dX8_copy_25 rfl (by decide) (L' := [(6, .ref (ad s8)), (0, .ref (ad 0)), (1, .int a1), (2, .int a2), (3, .int a3), (4, .int a4), (5, .int a5)]) rfl ?_
      refine v_aload_n C dX8_copy_27 rfl rfl 1 rfl ?_
      refine v_getr C dX8_copy_28 rfl ff_X8_56 sk_0 rfl ?_
      refine v_iload_n C dX8_copy_31 rfl rfl 4 rfl ?_
      obtain ⟨b9, h⟩ := gdS h
      obtain ⟨s10, es10, h⟩ := nmS h
      refine v_aald C (t0 := 2) rfl (fun _ => rfl) dX8_copy_32 rfl sk_50 b9 ?_
      have hs10 : isSheet s10 := es10 ▸ isSheet_of b9
      refine v_nmr es10 ?_
      refine v_astore C dX8_copy_33 rfl (by decide) (L' := [(7, .ref (ad s10)), (6, .ref (ad s8)), (0, .ref (ad 0)), (1, .int a1), (2, .int a2), (3, .int a3), (4, .int a4), (5, .int a5)]) rfl ?_
      refine v_aload C dX8_copy_35 rfl 1 rfl ?_
      obtain ⟨r12, e11, h⟩ := bdS h
      refine v_callVi C yv_X2_isMissing m_570 (c_X2_isMissing hs8 e11) (Sub.whole hD _ _) ⟨_, _, _, _, _, wd_at (shk_0 hs8), rfl⟩ (As := []) rfl rfl (Nat.le_of_ble_eq_true rfl) ⟨Nat.le_of_ble_eq_true rfl, Nat.le_of_ble_eq_true rfl⟩ dX8_copy_37 rfl ?_
      refine v_if_ne C dX8_copy_40 (tgt := 51) (by decide) rfl (fun c13 => ?_) (fun c13 => ?_)
      · have h := ifn c13 h
        refine v_ldc C dX8_copy_51 rfl m_574 ?_
        obtain rfl := Option.some.inj h
        exact RET _ _ dX8_copy_53
      · have h := ifp c13 h
        refine v_aload C dX8_copy_43 rfl 0 rfl ?_
        obtain ⟨r15, e14, h⟩ := bdS h
        refine v_callVi C yv_X2_isMissing m_570 (c_X2_isMissing hs10 e14) (Sub.whole hD _ _) ⟨_, _, _, _, _, wd_at (shk_0 hs10), rfl⟩ (As := []) rfl rfl (Nat.le_of_ble_eq_true rfl) ⟨Nat.le_of_ble_eq_true rfl, Nat.le_of_ble_eq_true rfl⟩ dX8_copy_45 rfl ?_
        refine v_if_eq C dX8_copy_48 (tgt := 54) (by decide) rfl (fun c16 => ?_) (fun c16 => ?_)
        · have h := ifp c16 h
          refine v_aload C dX8_copy_54 rfl 1 rfl ?_
          refine v_getf C dX8_copy_56 rfl ff_X8_242 (shk_0 hs8) rfl ?_
          refine v_aload C dX8_copy_59 rfl 0 rfl ?_
          refine v_getf C dX8_copy_61 rfl ff_X8_242 (shk_0 hs10) rfl ?_
          refine v_icmp_eq C dX8_copy_64 (tgt := 70) (by decide) rfl (fun c17 => ?_) (fun c17 => ?_)
          · have h := ifp c17 h
            refine v_aload C dX8_copy_70 rfl 1 rfl ?_
            refine v_iload_n C dX8_copy_72 rfl rfl 4 rfl ?_
            refine v_iload C dX8_copy_73 rfl 7 rfl ?_
            obtain ⟨r19, e18, h⟩ := bdS h
            refine v_callVi C yv_X2_hasPlaces m_772 (c_X2_hasPlaces hs8 e18) (Sub.whole hD _ _) ⟨_, _, _, _, _, wd_at (shk_0 hs8), rfl⟩ (As := [.int a2, .int a5]) rfl rfl (Nat.le_of_ble_eq_true rfl) ⟨Nat.le_of_ble_eq_true rfl, Nat.le_of_ble_eq_true rfl⟩ dX8_copy_75 rfl ?_
            refine v_if_eq C dX8_copy_78 (tgt := 93) (by decide) rfl (fun c20 => ?_) (fun c20 => ?_)
            · have h := ifp c20 h
              refine v_ldc C dX8_copy_93 rfl m_756 ?_
              obtain rfl := Option.some.inj h
              exact RET _ _ dX8_copy_95
            · have h := ifn c20 h
              refine v_aload C dX8_copy_81 rfl 0 rfl ?_
              refine v_iload C dX8_copy_83 rfl 6 rfl ?_
              refine v_iload C dX8_copy_85 rfl 7 rfl ?_
              obtain ⟨r22, e21, h⟩ := bdS h
              refine v_callVi C yv_X2_hasPlaces m_772 (c_X2_hasPlaces hs10 e21) (Sub.whole hD _ _) ⟨_, _, _, _, _, wd_at (shk_0 hs10), rfl⟩ (As := [.int a4, .int a5]) rfl rfl (Nat.le_of_ble_eq_true rfl) ⟨Nat.le_of_ble_eq_true rfl, Nat.le_of_ble_eq_true rfl⟩ dX8_copy_87 rfl ?_
              refine v_if_ne C dX8_copy_90 (tgt := 96) (by decide) rfl (fun c23 => ?_) (fun c23 => ?_)
              · have h := ifn c23 h
                refine v_aload C dX8_copy_96 rfl 1 rfl ?_
                refine v_getr C dX8_copy_98 rfl ff_X8_245 (shk_0 hs8) rfl ?_
                refine v_iload_n C dX8_copy_101 rfl rfl 4 rfl ?_
                refine v_aload C dX8_copy_102 rfl 0 rfl ?_
                refine v_getr C dX8_copy_104 rfl ff_X8_245 (shk_0 hs10) rfl ?_
                refine v_iload C dX8_copy_107 rfl 6 rfl ?_
                refine v_iload C dX8_copy_109 rfl 7 rfl ?_
                obtain ⟨b24, h⟩ := gdS h
                obtain ⟨K25, eK25, h⟩ := nmS h
                refine v_copy C hD dX8_copy_111 rfl m_776 m_541 m_540 m_13 (Nat.le_of_ble_eq_true rfl) (Nat.le_of_ble_eq_true rfl) (shk_1 hs8) (shk_1 hs10) b24 eK25 ?_
                refine v_iload C dX8_copy_114 rfl 7 rfl ?_
                obtain rfl := Option.some.inj h
                exact RET _ _ dX8_copy_116
              · have h := ifp c23 h
                refine v_ldc C dX8_copy_93 rfl m_756 ?_
                obtain rfl := Option.some.inj h
                exact RET _ _ dX8_copy_95
          · have h := ifn c17 h
            refine v_ldc C dX8_copy_67 rfl m_383 ?_
            obtain rfl := Option.some.inj h
            exact RET _ _ dX8_copy_69
        · have h := ifn c16 h
          refine v_ldc C dX8_copy_51 rfl m_574 ?_
          obtain rfl := Option.some.inj h
          exact RET _ _ dX8_copy_53
    · have h := ifp c6 h
      refine v_ldc C dX8_copy_16 rfl m_290 ?_
      obtain rfl := Option.some.inj h
      exact RET _ _ dX8_copy_18
def C_X8_copy (a1 : Int32) (a2 : Int32) (a3 : Int32) (a4 : Int32) (a5 : Int32) (K : Mem) : Option (Int32 × Mem) := F_X8_copy_0 a1 a2 a3 a4 a5 K
set_option maxRecDepth 100000 in
theorem c_X8_copy {l : Launch} {D : va_G} {cA : FieldType → ClassId} {X : Ex} {ad : Nat → Nat} {a1 : Int32} {a2 : Int32} {a3 : Int32} {a4 : Int32} {a5 : Int32} {K : Mem} {r : Int32} {K' : Mem} (h : C_X8_copy a1 a2 a3 a4 a5 K = some (r, K')) : MI l D cA X yX8_copy cX8_copy 8 (some .int) 1 30 [.ref (ad 0), .int a1, .int a2, .int a3, .int a4, .int a5] (wd cA ad K 0 shsK) (wd cA ad K' 0 shsK) r :=
  mI_of (by decide +kernel) (Nat.le_of_ble_eq_true rfl) (fun G h1 h2 h3 h4 C hD RET => by subst h1 h2 h3 h4; exact wF_X8_copy_0 C (fun K' => wd_D K' hD) RET  h)
def F_X8_isSlot_0 (K : Mem) (a1 : Int32) : Option Int32 :=
  if a1 < 0 then (
    some 0
  ) else (
    if 5 ≤ a1 then (
      some 0
    ) else (
      some 1
    )
  )
set_option maxRecDepth 100000 in
set_option maxHeartbeats 4000000 in
theorem wF_X8_isSlot_0 {G : Ctx} {ad : Nat → Nat} {K : Mem} (C : Cx G RX8 cX8_isSlot 2 0 0) (hD : ∀ K, va_D (gA G) (wd (gC G) ad K 0 shsK)) {res : Int32} (RET : RZ G cX8_isSlot 2 (wd (gC G) ad K 0 shsK) res) {a1 : Int32} (h : F_X8_isSlot_0 K a1 = some res) : V G 2 (wd (gC G) ad K 0 shsK) 0 [(0, .ref (ad 0)), (1, .int a1)] [] := by
  unfold F_X8_isSlot_0 at h
  refine v_iload_n C dX8_isSlot_0 rfl rfl 1 rfl ?_
  refine v_if_lt C dX8_isSlot_1 (tgt := 13) (by decide) rfl (fun c1 => ?_) (fun c1 => ?_)
  · have h := ifp c1 h
    refine v_iconst C dX8_isSlot_13 rfl ic_0 ?_
    obtain rfl := Option.some.inj h
    exact RET _ _ dX8_isSlot_14 (Or.inl rfl)
  · have h := ifn c1 h
    refine v_iload_n C dX8_isSlot_4 rfl rfl 1 rfl ?_
    refine v_iconst C dX8_isSlot_5 rfl ic_5 ?_
    refine v_icmp_ge C dX8_isSlot_6 (tgt := 13) (by decide) rfl (fun c2 => ?_) (fun c2 => ?_)
    · have h := ifp c2 h
      refine v_iconst C dX8_isSlot_13 rfl ic_0 ?_
      obtain rfl := Option.some.inj h
      exact RET _ _ dX8_isSlot_14 (Or.inl rfl)
    · have h := ifn c2 h
      refine v_iconst C dX8_isSlot_9 rfl ic_1 ?_
      refine v_goto C dX8_isSlot_10 (tgt := 14) (by decide) ?_
      obtain rfl := Option.some.inj h
      exact RET _ _ dX8_isSlot_14 (Or.inr rfl)
def C_X8_isSlot (K : Mem) (a1 : Int32) : Option Int32 := F_X8_isSlot_0 K a1
set_option maxRecDepth 100000 in
theorem c_X8_isSlot {l : Launch} {D : va_G} {cA : FieldType → ClassId} {X : Ex} {ad : Nat → Nat} {a1 : Int32} {K : Mem} {r : Int32} (h : C_X8_isSlot K a1 = some r) : MI l D cA X yX8_isSlot cX8_isSlot 2 (some .boolean) 0 0 [.ref (ad 0), .int a1] (wd cA ad K 0 shsK) (wd cA ad K 0 shsK) r :=
  mZ_of (by decide +kernel) (Nat.le_of_ble_eq_true rfl) (fun G h1 h2 h3 h4 C hD RET => by subst h1 h2 h3 h4; exact wF_X8_isSlot_0 C (fun K' => wd_D K' hD) RET  h)
def F_X8_lay_0 (a1 : Int32) (a2 : Int32) (a3 : Int32) (K : Mem) : Option (Int32 × Mem) :=
  bd (C_X8_isSlot K a1) fun r2 =>
  if r2 = 0 then (
    some ((-1000000001), K)
  ) else (
    gd (inb a1 5) <|
    nm (slG (Int32.toNatClampNeg a1)) fun s5 =>
    nm (K s5 1) fun v6 =>
    if a2 = 0 then (
      nm (up K s5 1 0) fun K8 =>
      some (v6, K8)
    ) else (
      if a2 = 1 then (
        bd (C_X6_has 21 K a3) fun r11 =>
        if r11 = 0 then (
          some ((-1000000001), K)
        ) else (
          gd (inb a3 12) <|
          gd (inb a3 12) <|
          bd (C_X3_takeCourse s5 (K 22 (Int32.toNatClampNeg a3)) (K 23 (Int32.toNatClampNeg a3)) K) fun K16 =>
          some (v6, K16)
        )
      ) else (
        if a2 = 2 then (
          bd (C_X8_isSheet K a3) fun r19 =>
          if r19 = 0 then (
            some ((-1000000001), K)
          ) else (
            gd (inb a3 4) <|
            nm (shG (Int32.toNatClampNeg a3)) fun s22 =>
            bd (C_X2_isMissing s22 K) fun r24 =>
            if r24 = 0 then (
              gd (inb a3 4) <|
              nm (shG (Int32.toNatClampNeg a3)) fun s27 =>
              bd (C_X3_takeSheet s5 s27 K) fun K29 =>
              some (v6, K29)
            ) else (
              some ((-1000000011), K)
            )
          )
        ) else (
          if a2 = 3 then (
            bd (C_X3_takeNumber s5 a3 K) fun K32 =>
            some (v6, K32)
          ) else (
            some ((-1000000001), K)
          )
        )
      )
    )
  )
set_option maxRecDepth 100000 in
set_option maxHeartbeats 4000000 in
theorem wF_X8_lay_0 {G : Ctx} {ad : Nat → Nat} (C : Cx G RX8 cX8_lay 6 3 72) (hD : ∀ K, va_D (gA G) (wd (gC G) ad K 0 shsK)) {res : (Int32 × Mem)} (RET : RI G cX8_lay 6 (wd (gC G) ad res.2 0 shsK) res.1) {a1 : Int32} {a2 : Int32} {a3 : Int32} {K : Mem} (h : F_X8_lay_0 a1 a2 a3 K = some res) : V G 6 (wd (gC G) ad K 0 shsK) 0 [(0, .ref (ad 0)), (1, .int a1), (2, .int a2), (3, .int a3)] [] := by
  unfold F_X8_lay_0 at h
  refine v_aload_n C dX8_lay_0 rfl rfl 0 rfl ?_
  refine v_iload_n C dX8_lay_1 rfl rfl 1 rfl ?_
  obtain ⟨r2, e1, h⟩ := bdS h
  refine v_callVi C yv_X8_isSlot m_781 (c_X8_isSlot e1) (Sub.whole hD _ _) ⟨_, _, _, _, _, wd_at sk_0, rfl⟩ (As := [.int a1]) rfl rfl (Nat.le_of_ble_eq_true rfl) ⟨Nat.le_of_ble_eq_true rfl, Nat.le_of_ble_eq_true rfl⟩ dX8_lay_2 rfl ?_
  refine v_if_ne C dX8_lay_5 (tgt := 11) (by decide) rfl (fun c3 => ?_) (fun c3 => ?_)
  · have h := ifn c3 h
    refine v_aload_n C dX8_lay_11 rfl rfl 0 rfl ?_
    refine v_getr C dX8_lay_12 rfl ff_X8_63 sk_0 rfl ?_
    refine v_iload_n C dX8_lay_15 rfl rfl 1 rfl ?_
    obtain ⟨b4, h⟩ := gdS h
    obtain ⟨s5, es5, h⟩ := nmS h
    refine v_aald C (t0 := 3) rfl (fun _ => rfl) dX8_lay_16 rfl sk_59 b4 ?_
    have hs5 : isSlot s5 := es5 ▸ isSlot_of b4
    refine v_nmr es5 ?_
    refine v_astore C dX8_lay_17 rfl (by decide) (L' := [(4, .ref (ad s5)), (0, .ref (ad 0)), (1, .int a1), (2, .int a2), (3, .int a3)]) rfl ?_
    refine v_aload C dX8_lay_19 rfl 0 rfl ?_
    refine v_getf C dX8_lay_21 rfl ff_X8_271 (slk_0 hs5) rfl ?_
    obtain ⟨v6, ev6, h⟩ := nmS h
    refine v_nmi ev6 ?_
    refine v_istore C dX8_lay_24 rfl (by decide) (L' := [(5, .int v6), (4, .ref (ad s5)), (0, .ref (ad 0)), (1, .int a1), (2, .int a2), (3, .int a3)]) rfl ?_
    refine v_iload_n C dX8_lay_26 rfl rfl 4 rfl ?_
    by_cases c7 : a2 = 0
    · have h := ifp c7 h
      refine v_tsIn C dX8_lay_27 c7 (by decide) (by decide) (off := 29) (by decide) (tgt := 56) (by decide) ?_
      refine v_aload C dX8_lay_56 rfl 1 rfl ?_
      refine v_iconst C dX8_lay_58 rfl ic_0 ?_
      obtain ⟨K8, eK8, h⟩ := nmS h
      refine v_putf C hD dX8_lay_59 rfl fp_X8_271 (slk_0 hs5) rfl eK8 ?_
      refine v_iload C dX8_lay_62 rfl 0 rfl ?_
      obtain rfl := Option.some.inj h
      exact RET _ _ dX8_lay_64
    · have h := ifn c7 h
      by_cases c9 : a2 = 1
      · have h := ifp c9 h
        refine v_tsIn C dX8_lay_27 c9 (by decide) (by decide) (off := 38) (by decide) (tgt := 65) (by decide) ?_
        refine v_aload_n C dX8_lay_65 rfl rfl 2 rfl ?_
        refine v_getr C dX8_lay_66 rfl ff_X8_21 sk_0 rfl ?_
        refine v_iload_n C dX8_lay_69 rfl rfl 5 rfl ?_
        obtain ⟨r11, e10, h⟩ := bdS h
        refine v_callVi C yv_X6_has m_305 (c_X6_has isTown_21 e10) (Sub.whole hD _ _) ⟨_, _, _, _, _, wd_at sk_21, rfl⟩ (As := [.int a3]) rfl rfl (Nat.le_of_ble_eq_true rfl) ⟨Nat.le_of_ble_eq_true rfl, Nat.le_of_ble_eq_true rfl⟩ dX8_lay_70 rfl ?_
        refine v_if_ne C dX8_lay_73 (tgt := 79) (by decide) rfl (fun c12 => ?_) (fun c12 => ?_)
        · have h := ifn c12 h
          refine v_aload C dX8_lay_79 rfl 1 rfl ?_
          refine v_aload_n C dX8_lay_81 rfl rfl 2 rfl ?_
          refine v_getr C dX8_lay_82 rfl ff_X8_21 sk_0 rfl ?_
          refine v_getr C dX8_lay_85 rfl ff_X8_98 sk_21 rfl ?_
          refine v_iload_n C dX8_lay_88 rfl rfl 5 rfl ?_
          obtain ⟨b13, h⟩ := gdS h
          refine v_iald C dX8_lay_89 rfl sk_22 b13 ?_
          refine v_aload_n C dX8_lay_90 rfl rfl 2 rfl ?_
          refine v_getr C dX8_lay_91 rfl ff_X8_21 sk_0 rfl ?_
          refine v_getr C dX8_lay_94 rfl ff_X8_101 sk_21 rfl ?_
          refine v_iload_n C dX8_lay_97 rfl rfl 5 rfl ?_
          obtain ⟨b14, h⟩ := gdS h
          refine v_iald C dX8_lay_98 rfl sk_23 b14 ?_
          obtain ⟨K16, e15, h⟩ := bdS h
          refine v_callVv C yv_X3_takeCourse m_785 (c_X3_takeCourse hs5 e15) (Sub.whole hD _ _) ⟨_, _, _, _, _, wd_at (slk_0 hs5), rfl⟩ (As := [.int (K 22 (Int32.toNatClampNeg a3)), .int (K 23 (Int32.toNatClampNeg a3))]) rfl rfl (Nat.le_of_ble_eq_true rfl) ⟨Nat.le_of_ble_eq_true rfl, Nat.le_of_ble_eq_true rfl⟩ dX8_lay_99 rfl ?_
          refine v_iload C dX8_lay_102 rfl 0 rfl ?_
          obtain rfl := Option.some.inj h
          exact RET _ _ dX8_lay_104
        · have h := ifp c12 h
          refine v_ldc C dX8_lay_76 rfl m_290 ?_
          obtain rfl := Option.some.inj h
          exact RET _ _ dX8_lay_78
      · have h := ifn c9 h
        by_cases c17 : a2 = 2
        · have h := ifp c17 h
          refine v_tsIn C dX8_lay_27 c17 (by decide) (by decide) (off := 78) (by decide) (tgt := 105) (by decide) ?_
          refine v_aload_n C dX8_lay_105 rfl rfl 2 rfl ?_
          refine v_iload_n C dX8_lay_106 rfl rfl 5 rfl ?_
          obtain ⟨r19, e18, h⟩ := bdS h
          refine v_callVi C yv_X8_isSheet m_566 (c_X8_isSheet e18) (Sub.whole hD _ _) ⟨_, _, _, _, _, wd_at sk_0, rfl⟩ (As := [.int a3]) rfl rfl (Nat.le_of_ble_eq_true rfl) ⟨Nat.le_of_ble_eq_true rfl, Nat.le_of_ble_eq_true rfl⟩ dX8_lay_107 rfl ?_
          refine v_if_ne C dX8_lay_110 (tgt := 116) (by decide) rfl (fun c20 => ?_) (fun c20 => ?_)
          · have h := ifn c20 h
            refine v_aload_n C dX8_lay_116 rfl rfl 2 rfl ?_
            refine v_getr C dX8_lay_117 rfl ff_X8_56 sk_0 rfl ?_
            refine v_iload_n C dX8_lay_120 rfl rfl 5 rfl ?_
            obtain ⟨b21, h⟩ := gdS h
            obtain ⟨s22, es22, h⟩ := nmS h
            refine v_aald C (t0 := 2) rfl (fun _ => rfl) dX8_lay_121 rfl sk_50 b21 ?_
            have hs22 : isSheet s22 := es22 ▸ isSheet_of b21
            refine v_nmr es22 ?_
            obtain ⟨r24, e23, h⟩ := bdS h
            refine v_callVi C yv_X2_isMissing m_570 (c_X2_isMissing hs22 e23) (Sub.whole hD _ _) ⟨_, _, _, _, _, wd_at (shk_0 hs22), rfl⟩ (As := []) rfl rfl (Nat.le_of_ble_eq_true rfl) ⟨Nat.le_of_ble_eq_true rfl, Nat.le_of_ble_eq_true rfl⟩ dX8_lay_122 rfl ?_
            refine v_if_eq C dX8_lay_125 (tgt := 131) (by decide) rfl (fun c25 => ?_) (fun c25 => ?_)
            · have h := ifp c25 h
              refine v_aload C dX8_lay_131 rfl 1 rfl ?_
              refine v_aload_n C dX8_lay_133 rfl rfl 2 rfl ?_
              refine v_getr C dX8_lay_134 rfl ff_X8_56 sk_0 rfl ?_
              refine v_iload_n C dX8_lay_137 rfl rfl 5 rfl ?_
              obtain ⟨b26, h⟩ := gdS h
              obtain ⟨s27, es27, h⟩ := nmS h
              refine v_aald C (t0 := 2) rfl (fun _ => rfl) dX8_lay_138 rfl sk_50 b26 ?_
              have hs27 : isSheet s27 := es27 ▸ isSheet_of b26
              refine v_nmr es27 ?_
              obtain ⟨K29, e28, h⟩ := bdS h
              refine v_callVv C yv_X3_takeSheet m_789 (c_X3_takeSheet hs5 hs27 e28) (Sub.whole hD _ _) ⟨_, _, _, _, _, wd_at (slk_0 hs5), rfl⟩ (As := [.ref (ad s27)]) rfl rfl (Nat.le_of_ble_eq_true rfl) ⟨Nat.le_of_ble_eq_true rfl, Nat.le_of_ble_eq_true rfl⟩ dX8_lay_139 rfl ?_
              refine v_iload C dX8_lay_142 rfl 0 rfl ?_
              obtain rfl := Option.some.inj h
              exact RET _ _ dX8_lay_144
            · have h := ifn c25 h
              refine v_ldc C dX8_lay_128 rfl m_574 ?_
              obtain rfl := Option.some.inj h
              exact RET _ _ dX8_lay_130
          · have h := ifp c20 h
            refine v_ldc C dX8_lay_113 rfl m_290 ?_
            obtain rfl := Option.some.inj h
            exact RET _ _ dX8_lay_115
        · have h := ifn c17 h
          by_cases c30 : a2 = 3
          · have h := ifp c30 h
            refine v_tsIn C dX8_lay_27 c30 (by decide) (by decide) (off := 118) (by decide) (tgt := 145) (by decide) ?_
            refine v_aload C dX8_lay_145 rfl 1 rfl ?_
            refine v_iload_n C dX8_lay_147 rfl rfl 5 rfl ?_
            obtain ⟨K32, e31, h⟩ := bdS h
            refine v_callVv C yv_X3_takeNumber m_798 (c_X3_takeNumber hs5 e31) (Sub.whole hD _ _) ⟨_, _, _, _, _, wd_at (slk_0 hs5), rfl⟩ (As := [.int a3]) rfl rfl (Nat.le_of_ble_eq_true rfl) ⟨Nat.le_of_ble_eq_true rfl, Nat.le_of_ble_eq_true rfl⟩ dX8_lay_148 rfl ?_
            refine v_iload C dX8_lay_151 rfl 0 rfl ?_
            obtain rfl := Option.some.inj h
            exact RET _ _ dX8_lay_153
          · have h := ifn c30 h
            refine v_tsOut C dX8_lay_27 (by have ec7 := lv_neT c7 (k := 0) (a := 0) (by decide); have ec9 := lv_neT c9 (k := 1) (a := 1) (by decide); have ec17 := lv_neT c17 (k := 2) (a := 2) (by decide); have ec30 := lv_neT c30 (k := 3) (a := 3) (by decide); omega) (tgt := 154) (by decide) ?_
            refine v_ldc C dX8_lay_154 rfl m_290 ?_
            obtain rfl := Option.some.inj h
            exact RET _ _ dX8_lay_156
  · have h := ifp c3 h
    refine v_ldc C dX8_lay_8 rfl m_290 ?_
    obtain rfl := Option.some.inj h
    exact RET _ _ dX8_lay_10
def C_X8_lay (a1 : Int32) (a2 : Int32) (a3 : Int32) (K : Mem) : Option (Int32 × Mem) := F_X8_lay_0 a1 a2 a3 K
set_option maxRecDepth 100000 in
theorem c_X8_lay {l : Launch} {D : va_G} {cA : FieldType → ClassId} {X : Ex} {ad : Nat → Nat} {a1 : Int32} {a2 : Int32} {a3 : Int32} {K : Mem} {r : Int32} {K' : Mem} (h : C_X8_lay a1 a2 a3 K = some (r, K')) : MI l D cA X yX8_lay cX8_lay 6 (some .int) 3 72 [.ref (ad 0), .int a1, .int a2, .int a3] (wd cA ad K 0 shsK) (wd cA ad K' 0 shsK) r :=
  mI_of (by decide +kernel) (Nat.le_of_ble_eq_true rfl) (fun G h1 h2 h3 h4 C hD RET => by subst h1 h2 h3 h4; exact wF_X8_lay_0 C (fun K' => wd_D K' hD) RET  h)
def F_X8_ask_0 (K : Mem) (a1 : Int32) (a2 : Int32) : Option Int32 :=
  bd (C_X8_isSlot K a1) fun r2 =>
  if r2 = 0 then (
    some (-1000000001)
  ) else (
    bd (C_X0_isKind a2) fun r5 =>
    if r5 = 0 then (
      some (-1000000001)
    ) else (
      gd (inb a1 5) <|
      nm (slG (Int32.toNatClampNeg a1)) fun s8 =>
      if (K s8 1) = 0 then (
        some (-1000000011)
      ) else (
        if (K s8 1) = 1 then (
          bd (C_X0_isUnder (K s8 2) a2) fun r12 =>
          if r12 = 0 then (
            some (-1000000012)
          ) else (
            bd (C_X0_worth (K s8 2) (K s8 3)) fun r15 =>
            some r15
          )
        ) else (
          some (-1000000012)
        )
      )
    )
  )
set_option maxRecDepth 100000 in
set_option maxHeartbeats 4000000 in
theorem wF_X8_ask_0 {G : Ctx} {ad : Nat → Nat} {K : Mem} (C : Cx G RX8 cX8_ask 4 2 43) (hD : ∀ K, va_D (gA G) (wd (gC G) ad K 0 shsK)) {res : Int32} (RET : RI G cX8_ask 4 (wd (gC G) ad K 0 shsK) res) {a1 : Int32} {a2 : Int32} (h : F_X8_ask_0 K a1 a2 = some res) : V G 4 (wd (gC G) ad K 0 shsK) 0 [(0, .ref (ad 0)), (1, .int a1), (2, .int a2)] [] := by
  unfold F_X8_ask_0 at h
  refine v_aload_n C dX8_ask_0 rfl rfl 0 rfl ?_
  refine v_iload_n C dX8_ask_1 rfl rfl 1 rfl ?_
  obtain ⟨r2, e1, h⟩ := bdS h
  refine v_callVi C yv_X8_isSlot m_781 (c_X8_isSlot e1) (Sub.whole hD _ _) ⟨_, _, _, _, _, wd_at sk_0, rfl⟩ (As := [.int a1]) rfl rfl (Nat.le_of_ble_eq_true rfl) ⟨Nat.le_of_ble_eq_true rfl, Nat.le_of_ble_eq_true rfl⟩ dX8_ask_2 rfl ?_
  refine v_if_eq C dX8_ask_5 (tgt := 15) (by decide) rfl (fun c3 => ?_) (fun c3 => ?_)
  · have h := ifp c3 h
    refine v_ldc C dX8_ask_15 rfl m_290 ?_
    obtain rfl := Option.some.inj h
    exact RET _ _ dX8_ask_17
  · have h := ifn c3 h
    refine v_iload_n C dX8_ask_8 rfl rfl 2 rfl ?_
    obtain ⟨r5, e4, h⟩ := bdS h
    refine v_callSi C ys_X0_isKind m_284 (c_X0_isKind e4) (Sub.whole hD _ _) (As := [.int a2]) rfl rfl (Nat.le_of_ble_eq_true rfl) ⟨Nat.le_of_ble_eq_true rfl, Nat.le_of_ble_eq_true rfl⟩ dX8_ask_9 rfl ?_
    refine v_if_ne C dX8_ask_12 (tgt := 18) (by decide) rfl (fun c6 => ?_) (fun c6 => ?_)
    · have h := ifn c6 h
      refine v_aload_n C dX8_ask_18 rfl rfl 0 rfl ?_
      refine v_getr C dX8_ask_19 rfl ff_X8_63 sk_0 rfl ?_
      refine v_iload_n C dX8_ask_22 rfl rfl 1 rfl ?_
      obtain ⟨b7, h⟩ := gdS h
      obtain ⟨s8, es8, h⟩ := nmS h
      refine v_aald C (t0 := 3) rfl (fun _ => rfl) dX8_ask_23 rfl sk_59 b7 ?_
      have hs8 : isSlot s8 := es8 ▸ isSlot_of b7
      refine v_nmr es8 ?_
      refine v_astore_n C dX8_ask_24 rfl rfl (by decide) (L' := [(3, .ref (ad s8)), (0, .ref (ad 0)), (1, .int a1), (2, .int a2)]) rfl ?_
      refine v_aload_n C dX8_ask_25 rfl rfl 0 rfl ?_
      refine v_getf C dX8_ask_26 rfl ff_X8_271 (slk_0 hs8) rfl ?_
      refine v_if_ne C dX8_ask_29 (tgt := 35) (by decide) rfl (fun c9 => ?_) (fun c9 => ?_)
      · have h := ifn c9 h
        refine v_aload_n C dX8_ask_35 rfl rfl 0 rfl ?_
        refine v_getf C dX8_ask_36 rfl ff_X8_271 (slk_0 hs8) rfl ?_
        refine v_iconst C dX8_ask_39 rfl ic_1 ?_
        refine v_icmp_ne C dX8_ask_40 (tgt := 54) (by decide) rfl (fun c10 => ?_) (fun c10 => ?_)
        · have h := ifn c10 h
          refine v_ldc C dX8_ask_54 rfl m_383 ?_
          obtain rfl := Option.some.inj h
          exact RET _ _ dX8_ask_56
        · have h := ifp c10 h
          refine v_aload_n C dX8_ask_43 rfl rfl 0 rfl ?_
          refine v_getf C dX8_ask_44 rfl ff_X8_284 (slk_0 hs8) rfl ?_
          refine v_iload_n C dX8_ask_47 rfl rfl 3 rfl ?_
          obtain ⟨r12, e11, h⟩ := bdS h
          refine v_callSi C ys_X0_isUnder m_377 (c_X0_isUnder e11) (Sub.whole hD _ _) (As := [.int (K s8 2), .int a2]) rfl rfl (Nat.le_of_ble_eq_true rfl) ⟨Nat.le_of_ble_eq_true rfl, Nat.le_of_ble_eq_true rfl⟩ dX8_ask_48 rfl ?_
          refine v_if_ne C dX8_ask_51 (tgt := 57) (by decide) rfl (fun c13 => ?_) (fun c13 => ?_)
          · have h := ifn c13 h
            refine v_aload_n C dX8_ask_57 rfl rfl 0 rfl ?_
            refine v_getf C dX8_ask_58 rfl ff_X8_284 (slk_0 hs8) rfl ?_
            refine v_aload_n C dX8_ask_61 rfl rfl 0 rfl ?_
            refine v_getf C dX8_ask_62 rfl ff_X8_286 (slk_0 hs8) rfl ?_
            obtain ⟨r15, e14, h⟩ := bdS h
            refine v_callSi C ys_X0_worth m_370 (c_X0_worth e14) (Sub.whole hD _ _) (As := [.int (K s8 2), .int (K s8 3)]) rfl rfl (Nat.le_of_ble_eq_true rfl) ⟨Nat.le_of_ble_eq_true rfl, Nat.le_of_ble_eq_true rfl⟩ dX8_ask_65 rfl ?_
            obtain rfl := Option.some.inj h
            exact RET _ _ dX8_ask_68
          · have h := ifp c13 h
            refine v_ldc C dX8_ask_54 rfl m_383 ?_
            obtain rfl := Option.some.inj h
            exact RET _ _ dX8_ask_56
      · have h := ifp c9 h
        refine v_ldc C dX8_ask_32 rfl m_574 ?_
        obtain rfl := Option.some.inj h
        exact RET _ _ dX8_ask_34
    · have h := ifp c6 h
      refine v_ldc C dX8_ask_15 rfl m_290 ?_
      obtain rfl := Option.some.inj h
      exact RET _ _ dX8_ask_17
def C_X8_ask (K : Mem) (a1 : Int32) (a2 : Int32) : Option Int32 := F_X8_ask_0 K a1 a2
set_option maxRecDepth 100000 in
theorem c_X8_ask {l : Launch} {D : va_G} {cA : FieldType → ClassId} {X : Ex} {ad : Nat → Nat} {a1 : Int32} {a2 : Int32} {K : Mem} {r : Int32} (h : C_X8_ask K a1 a2 = some r) : MI l D cA X yX8_ask cX8_ask 4 (some .int) 2 43 [.ref (ad 0), .int a1, .int a2] (wd cA ad K 0 shsK) (wd cA ad K 0 shsK) r :=
  mI_of (by decide +kernel) (Nat.le_of_ble_eq_true rfl) (fun G h1 h2 h3 h4 C hD RET => by subst h1 h2 h3 h4; exact wF_X8_ask_0 C (fun K' => wd_D K' hD) RET  h)
def F_X8_item_0 (K : Mem) (a1 : Int32) (a2 : Int32) : Option Int32 :=
  bd (C_X8_isSlot K a1) fun r2 =>
  if r2 = 0 then (
    some (-1000000001)
  ) else (
    gd (inb a1 5) <|
    nm (slG (Int32.toNatClampNeg a1)) fun s5 =>
    if (K s5 1) = 0 then (
      some (-1000000011)
    ) else (
      if (K s5 1) = 2 then (
        bd (C_X2_hasPlace (s5 + 1) K a2) fun r9 =>
        if r9 = 0 then (
          some (-1000000013)
        ) else (
          bd (C_X2_hasNumber (s5 + 1) K a2) fun r12 =>
          if r12 = 0 then (
            some (-1000000012)
          ) else (
            gd (inb a2 24) <|
            some (K (s5 + 1 + 1) (Int32.toNatClampNeg a2))
          )
        )
      ) else (
        some (-1000000012)
      )
    )
  )
set_option maxRecDepth 100000 in
set_option maxHeartbeats 4000000 in
theorem wF_X8_item_0 {G : Ctx} {ad : Nat → Nat} {K : Mem} (C : Cx G RX8 cX8_item 4 2 42) (hD : ∀ K, va_D (gA G) (wd (gC G) ad K 0 shsK)) {res : Int32} (RET : RI G cX8_item 4 (wd (gC G) ad K 0 shsK) res) {a1 : Int32} {a2 : Int32} (h : F_X8_item_0 K a1 a2 = some res) : V G 4 (wd (gC G) ad K 0 shsK) 0 [(0, .ref (ad 0)), (1, .int a1), (2, .int a2)] [] := by
  unfold F_X8_item_0 at h
  refine v_aload_n C dX8_item_0 rfl rfl 0 rfl ?_
  refine v_iload_n C dX8_item_1 rfl rfl 1 rfl ?_
  obtain ⟨r2, e1, h⟩ := bdS h
  refine v_callVi C yv_X8_isSlot m_781 (c_X8_isSlot e1) (Sub.whole hD _ _) ⟨_, _, _, _, _, wd_at sk_0, rfl⟩ (As := [.int a1]) rfl rfl (Nat.le_of_ble_eq_true rfl) ⟨Nat.le_of_ble_eq_true rfl, Nat.le_of_ble_eq_true rfl⟩ dX8_item_2 rfl ?_
  refine v_if_ne C dX8_item_5 (tgt := 11) (by decide) rfl (fun c3 => ?_) (fun c3 => ?_)
  · have h := ifn c3 h
    refine v_aload_n C dX8_item_11 rfl rfl 0 rfl ?_
    refine v_getr C dX8_item_12 rfl ff_X8_63 sk_0 rfl ?_
    refine v_iload_n C dX8_item_15 rfl rfl 1 rfl ?_
    obtain ⟨b4, h⟩ := gdS h
    obtain ⟨s5, es5, h⟩ := nmS h
    refine v_aald C (t0 := 3) rfl (fun _ => rfl) dX8_item_16 rfl sk_59 b4 ?_
    have hs5 : isSlot s5 := es5 ▸ isSlot_of b4
    refine v_nmr es5 ?_
    refine v_astore_n C dX8_item_17 rfl rfl (by decide) (L' := [(3, .ref (ad s5)), (0, .ref (ad 0)), (1, .int a1), (2, .int a2)]) rfl ?_
    refine v_aload_n C dX8_item_18 rfl rfl 0 rfl ?_
    refine v_getf C dX8_item_19 rfl ff_X8_271 (slk_0 hs5) rfl ?_
    refine v_if_ne C dX8_item_22 (tgt := 28) (by decide) rfl (fun c6 => ?_) (fun c6 => ?_)
    · have h := ifn c6 h
      refine v_aload_n C dX8_item_28 rfl rfl 0 rfl ?_
      refine v_getf C dX8_item_29 rfl ff_X8_271 (slk_0 hs5) rfl ?_
      refine v_iconst C dX8_item_32 rfl ic_2 ?_
      refine v_icmp_eq C dX8_item_33 (tgt := 39) (by decide) rfl (fun c7 => ?_) (fun c7 => ?_)
      · have h := ifp c7 h
        refine v_aload_n C dX8_item_39 rfl rfl 0 rfl ?_
        refine v_getr C dX8_item_40 rfl ff_X8_288 (slk_0 hs5) rfl ?_
        refine v_iload_n C dX8_item_43 rfl rfl 3 rfl ?_
        obtain ⟨r9, e8, h⟩ := bdS h
        refine v_callVi C yv_X2_hasPlace m_755 (c_X2_hasPlace (slot_sheet hs5) e8) (Sub.whole hD _ _) ⟨_, _, _, _, _, wd_at (shk_0 (slot_sheet hs5)), rfl⟩ (As := [.int a2]) rfl rfl (Nat.le_of_ble_eq_true rfl) ⟨Nat.le_of_ble_eq_true rfl, Nat.le_of_ble_eq_true rfl⟩ dX8_item_44 rfl ?_
        refine v_if_ne C dX8_item_47 (tgt := 53) (by decide) rfl (fun c10 => ?_) (fun c10 => ?_)
        · have h := ifn c10 h
          refine v_aload_n C dX8_item_53 rfl rfl 0 rfl ?_
          refine v_getr C dX8_item_54 rfl ff_X8_288 (slk_0 hs5) rfl ?_
          refine v_iload_n C dX8_item_57 rfl rfl 3 rfl ?_
          obtain ⟨r12, e11, h⟩ := bdS h
          refine v_callVi C yv_X2_hasNumber m_579 (c_X2_hasNumber (slot_sheet hs5) e11) (Sub.whole hD _ _) ⟨_, _, _, _, _, wd_at (shk_0 (slot_sheet hs5)), rfl⟩ (As := [.int a2]) rfl rfl (Nat.le_of_ble_eq_true rfl) ⟨Nat.le_of_ble_eq_true rfl, Nat.le_of_ble_eq_true rfl⟩ dX8_item_58 rfl ?_
          refine v_if_eq C dX8_item_61 (tgt := 76) (by decide) rfl (fun c13 => ?_) (fun c13 => ?_)
          · have h := ifp c13 h
            refine v_ldc C dX8_item_76 rfl m_383 ?_
            obtain rfl := Option.some.inj h
            exact RET _ _ dX8_item_78
          · have h := ifn c13 h
            refine v_aload_n C dX8_item_64 rfl rfl 0 rfl ?_
            refine v_getr C dX8_item_65 rfl ff_X8_288 (slk_0 hs5) rfl ?_
            refine v_getr C dX8_item_68 rfl ff_X8_245 (shk_0 (slot_sheet hs5)) rfl ?_
            refine v_iload_n C dX8_item_71 rfl rfl 3 rfl ?_
            obtain ⟨b14, h⟩ := gdS h
            refine v_iald C dX8_item_72 rfl (shk_1 (slot_sheet hs5)) b14 ?_
            refine v_goto C dX8_item_73 (tgt := 78) (by decide) ?_
            obtain rfl := Option.some.inj h
            exact RET _ _ dX8_item_78
        · have h := ifp c10 h
          refine v_ldc C dX8_item_50 rfl m_756 ?_
          obtain rfl := Option.some.inj h
          exact RET _ _ dX8_item_52
      · have h := ifn c7 h
        refine v_ldc C dX8_item_36 rfl m_383 ?_
        obtain rfl := Option.some.inj h
        exact RET _ _ dX8_item_38
    · have h := ifp c6 h
      refine v_ldc C dX8_item_25 rfl m_574 ?_
      obtain rfl := Option.some.inj h
      exact RET _ _ dX8_item_27
  · have h := ifp c3 h
    refine v_ldc C dX8_item_8 rfl m_290 ?_
    obtain rfl := Option.some.inj h
    exact RET _ _ dX8_item_10
def C_X8_item (K : Mem) (a1 : Int32) (a2 : Int32) : Option Int32 := F_X8_item_0 K a1 a2
set_option maxRecDepth 100000 in
theorem c_X8_item {l : Launch} {D : va_G} {cA : FieldType → ClassId} {X : Ex} {ad : Nat → Nat} {a1 : Int32} {a2 : Int32} {K : Mem} {r : Int32} (h : C_X8_item K a1 a2 = some r) : MI l D cA X yX8_item cX8_item 4 (some .int) 2 42 [.ref (ad 0), .int a1, .int a2] (wd cA ad K 0 shsK) (wd cA ad K 0 shsK) r :=
  mI_of (by decide +kernel) (Nat.le_of_ble_eq_true rfl) (fun G h1 h2 h3 h4 C hD RET => by subst h1 h2 h3 h4; exact wF_X8_item_0 C (fun K' => wd_D K' hD) RET  h)
def F_X8_rest_0 (K : Mem) (a1 : Int32) (a2 : Int32) : Option Int32 :=
  bd (C_X8_isSlot K a1) fun r2 =>
  if r2 = 0 then (
    some (-1000000001)
  ) else (
    gd (inb a1 5) <|
    nm (slG (Int32.toNatClampNeg a1)) fun s5 =>
    if (K s5 1) = 0 then (
      some (-1000000011)
    ) else (
      if (K s5 1) = 3 then (
        if a2 = 0 then (
          some (-1000000002)
        ) else (
          gd (nz a2) <|
          some (jrem (K s5 4) a2)
        )
      ) else (
        some (-1000000012)
      )
    )
  )
set_option maxRecDepth 100000 in
set_option maxHeartbeats 4000000 in
theorem wF_X8_rest_0 {G : Ctx} {ad : Nat → Nat} {K : Mem} (C : Cx G RX8 cX8_rest 4 1 21) (hD : ∀ K, va_D (gA G) (wd (gC G) ad K 0 shsK)) {res : Int32} (RET : RI G cX8_rest 4 (wd (gC G) ad K 0 shsK) res) {a1 : Int32} {a2 : Int32} (h : F_X8_rest_0 K a1 a2 = some res) : V G 4 (wd (gC G) ad K 0 shsK) 0 [(0, .ref (ad 0)), (1, .int a1), (2, .int a2)] [] := by
  unfold F_X8_rest_0 at h
  refine v_aload_n C dX8_rest_0 rfl rfl 0 rfl ?_
  refine v_iload_n C dX8_rest_1 rfl rfl 1 rfl ?_
  obtain ⟨r2, e1, h⟩ := bdS h
  refine v_callVi C yv_X8_isSlot m_781 (c_X8_isSlot e1) (Sub.whole hD _ _) ⟨_, _, _, _, _, wd_at sk_0, rfl⟩ (As := [.int a1]) rfl rfl (Nat.le_of_ble_eq_true rfl) ⟨Nat.le_of_ble_eq_true rfl, Nat.le_of_ble_eq_true rfl⟩ dX8_rest_2 rfl ?_
  refine v_if_ne C dX8_rest_5 (tgt := 11) (by decide) rfl (fun c3 => ?_) (fun c3 => ?_)
  · have h := ifn c3 h
    refine v_aload_n C dX8_rest_11 rfl rfl 0 rfl ?_
    refine v_getr C dX8_rest_12 rfl ff_X8_63 sk_0 rfl ?_
    refine v_iload_n C dX8_rest_15 rfl rfl 1 rfl ?_
    obtain ⟨b4, h⟩ := gdS h
    obtain ⟨s5, es5, h⟩ := nmS h
    refine v_aald C (t0 := 3) rfl (fun _ => rfl) dX8_rest_16 rfl sk_59 b4 ?_
    have hs5 : isSlot s5 := es5 ▸ isSlot_of b4
    refine v_nmr es5 ?_
    refine v_astore_n C dX8_rest_17 rfl rfl (by decide) (L' := [(3, .ref (ad s5)), (0, .ref (ad 0)), (1, .int a1), (2, .int a2)]) rfl ?_
    refine v_aload_n C dX8_rest_18 rfl rfl 0 rfl ?_
    refine v_getf C dX8_rest_19 rfl ff_X8_271 (slk_0 hs5) rfl ?_
    refine v_if_ne C dX8_rest_22 (tgt := 28) (by decide) rfl (fun c6 => ?_) (fun c6 => ?_)
    · have h := ifn c6 h
      refine v_aload_n C dX8_rest_28 rfl rfl 0 rfl ?_
      refine v_getf C dX8_rest_29 rfl ff_X8_271 (slk_0 hs5) rfl ?_
      refine v_iconst C dX8_rest_32 rfl ic_3 ?_
      refine v_icmp_eq C dX8_rest_33 (tgt := 39) (by decide) rfl (fun c7 => ?_) (fun c7 => ?_)
      · have h := ifp c7 h
        refine v_iload_n C dX8_rest_39 rfl rfl 3 rfl ?_
        refine v_if_ne C dX8_rest_40 (tgt := 46) (by decide) rfl (fun c8 => ?_) (fun c8 => ?_)
        · have h := ifn c8 h
          refine v_aload_n C dX8_rest_46 rfl rfl 0 rfl ?_
          refine v_getf C dX8_rest_47 rfl ff_X8_292 (slk_0 hs5) rfl ?_
          refine v_iload_n C dX8_rest_50 rfl rfl 3 rfl ?_
          obtain ⟨b9, h⟩ := gdS h
          refine v_irem C dX8_rest_51 rfl (nzS b9) ?_
          obtain rfl := Option.some.inj h
          exact RET _ _ dX8_rest_52
        · have h := ifp c8 h
          refine v_ldc C dX8_rest_43 rfl m_400 ?_
          obtain rfl := Option.some.inj h
          exact RET _ _ dX8_rest_45
      · have h := ifn c7 h
        refine v_ldc C dX8_rest_36 rfl m_383 ?_
        obtain rfl := Option.some.inj h
        exact RET _ _ dX8_rest_38
    · have h := ifp c6 h
      refine v_ldc C dX8_rest_25 rfl m_574 ?_
      obtain rfl := Option.some.inj h
      exact RET _ _ dX8_rest_27
  · have h := ifp c3 h
    refine v_ldc C dX8_rest_8 rfl m_290 ?_
    obtain rfl := Option.some.inj h
    exact RET _ _ dX8_rest_10
def C_X8_rest (K : Mem) (a1 : Int32) (a2 : Int32) : Option Int32 := F_X8_rest_0 K a1 a2
set_option maxRecDepth 100000 in
theorem c_X8_rest {l : Launch} {D : va_G} {cA : FieldType → ClassId} {X : Ex} {ad : Nat → Nat} {a1 : Int32} {a2 : Int32} {K : Mem} {r : Int32} (h : C_X8_rest K a1 a2 = some r) : MI l D cA X yX8_rest cX8_rest 4 (some .int) 1 21 [.ref (ad 0), .int a1, .int a2] (wd cA ad K 0 shsK) (wd cA ad K 0 shsK) r :=
  mI_of (by decide +kernel) (Nat.le_of_ble_eq_true rfl) (fun G h1 h2 h3 h4 C hD RET => by subst h1 h2 h3 h4; exact wF_X8_rest_0 C (fun K' => wd_D K' hD) RET  h)
def F_X8_tell_0 (a1 : Int32) (K : Mem) : Option (Int32 × Mem) :=
  if (K 0 10) < 60 then (
    gd (inb (K 0 10) 60) <|
    nm (up K 75 (Int32.toNatClampNeg (K 0 10)) a1) fun K3 =>
    nm (up K3 0 10 ((K3 0 10) + 1)) fun K4 =>
    some (K4 0 10, K4)
  ) else (
    some ((-1000000003), K)
  )
set_option maxRecDepth 100000 in
set_option maxHeartbeats 4000000 in
theorem wF_X8_tell_0 {G : Ctx} {ad : Nat → Nat} (C : Cx G RX8 cX8_tell 2 0 0) (hD : ∀ K, va_D (gA G) (wd (gC G) ad K 0 shsK)) {res : (Int32 × Mem)} (RET : RI G cX8_tell 2 (wd (gC G) ad res.2 0 shsK) res.1) {a1 : Int32} {K : Mem} (h : F_X8_tell_0 a1 K = some res) : V G 2 (wd (gC G) ad K 0 shsK) 0 [(0, .ref (ad 0)), (1, .int a1)] [] := by
  unfold F_X8_tell_0 at h
  refine v_aload_n C dX8_tell_0 rfl rfl 0 rfl ?_
  refine v_getf C dX8_tell_1 rfl ff_X8_295 sk_0 rfl ?_
  refine v_bipush C dX8_tell_4 rfl bi_60 ?_
  refine v_icmp_lt C dX8_tell_6 (tgt := 12) (by decide) rfl (fun c1 => ?_) (fun c1 => ?_)
  · have h := ifp c1 h
    refine v_aload_n C dX8_tell_12 rfl rfl 0 rfl ?_
    refine v_getr C dX8_tell_13 rfl ff_X8_68 sk_0 rfl ?_
    refine v_aload_n C dX8_tell_16 rfl rfl 0 rfl ?_
    refine v_getf C dX8_tell_17 rfl ff_X8_295 sk_0 rfl ?_
    refine v_iload_n C dX8_tell_20 rfl rfl 1 rfl ?_
    obtain ⟨b2, h⟩ := gdS h
    obtain ⟨K3, eK3, h⟩ := nmS h
    refine v_iast C hD dX8_tell_21 rfl sk_75 b2 eK3 ?_
    refine v_aload_n C dX8_tell_22 rfl rfl 0 rfl ?_
    refine v_dup C dX8_tell_23 rfl rfl ?_
    refine v_getf C dX8_tell_24 rfl ff_X8_295 sk_0 rfl ?_
    refine v_iconst C dX8_tell_27 rfl ic_1 ?_
    refine v_iadd C dX8_tell_28 rfl ?_
    obtain ⟨K4, eK4, h⟩ := nmS h
    refine v_putf C hD dX8_tell_29 rfl fp_X8_295 sk_0 rfl eK4 ?_
    refine v_aload_n C dX8_tell_32 rfl rfl 0 rfl ?_
    refine v_getf C dX8_tell_33 rfl ff_X8_295 sk_0 rfl ?_
    obtain rfl := Option.some.inj h
    exact RET _ _ dX8_tell_36
  · have h := ifn c1 h
    refine v_ldc C dX8_tell_9 rfl m_295 ?_
    obtain rfl := Option.some.inj h
    exact RET _ _ dX8_tell_11
def C_X8_tell (a1 : Int32) (K : Mem) : Option (Int32 × Mem) := F_X8_tell_0 a1 K
set_option maxRecDepth 100000 in
theorem c_X8_tell {l : Launch} {D : va_G} {cA : FieldType → ClassId} {X : Ex} {ad : Nat → Nat} {a1 : Int32} {K : Mem} {r : Int32} {K' : Mem} (h : C_X8_tell a1 K = some (r, K')) : MI l D cA X yX8_tell cX8_tell 2 (some .int) 0 0 [.ref (ad 0), .int a1] (wd cA ad K 0 shsK) (wd cA ad K' 0 shsK) r :=
  mI_of (by decide +kernel) (Nat.le_of_ble_eq_true rfl) (fun G h1 h2 h3 h4 C hD RET => by subst h1 h2 h3 h4; exact wF_X8_tell_0 C (fun K' => wd_D K' hD) RET  h)
def F_X8_isWaiting_0 (K : Mem) (a1 : Int32) (a2 : Int32) (a3 : Int32) : Option Int32 :=
  if a2 ≤ a1 then (
    some 0
  ) else (
    if 60 ≤ a1 then (
      some 0
    ) else (
      gd (inb a1 60) <|
      if (K 75 (Int32.toNatClampNeg a1)) = a3 then (
        some 1
      ) else (
        some 0
      )
    )
  )
set_option maxRecDepth 100000 in
set_option maxHeartbeats 4000000 in
theorem wF_X8_isWaiting_0 {G : Ctx} {ad : Nat → Nat} {K : Mem} (C : Cx G RX8 cX8_isWaiting 4 0 0) (hD : ∀ K, va_D (gA G) (wd (gC G) ad K 0 shsK)) {res : Int32} (RET : RZ G cX8_isWaiting 4 (wd (gC G) ad K 0 shsK) res) {a1 : Int32} {a2 : Int32} {a3 : Int32} (h : F_X8_isWaiting_0 K a1 a2 a3 = some res) : V G 4 (wd (gC G) ad K 0 shsK) 0 [(0, .ref (ad 0)), (1, .int a1), (2, .int a2), (3, .int a3)] [] := by
  unfold F_X8_isWaiting_0 at h
  refine v_iload_n C dX8_isWaiting_0 rfl rfl 1 rfl ?_
  refine v_iload_n C dX8_isWaiting_1 rfl rfl 2 rfl ?_
  refine v_icmp_ge C dX8_isWaiting_2 (tgt := 28) (by decide) rfl (fun c1 => ?_) (fun c1 => ?_)
  · have h := ifp c1 h
    refine v_iconst C dX8_isWaiting_28 rfl ic_0 ?_
    obtain rfl := Option.some.inj h
    exact RET _ _ dX8_isWaiting_29 (Or.inl rfl)
  · have h := ifn c1 h
    refine v_iload_n C dX8_isWaiting_5 rfl rfl 1 rfl ?_
    refine v_aload_n C dX8_isWaiting_6 rfl rfl 0 rfl ?_
    refine v_getr C dX8_isWaiting_7 rfl ff_X8_68 sk_0 rfl ?_
    refine v_alen C dX8_isWaiting_10 rfl sk_75 (v := 60) (by decide) ?_
    refine v_icmp_ge C dX8_isWaiting_11 (tgt := 28) (by decide) rfl (fun c2 => ?_) (fun c2 => ?_)
    · have h := ifp c2 h
      refine v_iconst C dX8_isWaiting_28 rfl ic_0 ?_
      obtain rfl := Option.some.inj h
      exact RET _ _ dX8_isWaiting_29 (Or.inl rfl)
    · have h := ifn c2 h
      refine v_aload_n C dX8_isWaiting_14 rfl rfl 0 rfl ?_
      refine v_getr C dX8_isWaiting_15 rfl ff_X8_68 sk_0 rfl ?_
      refine v_iload_n C dX8_isWaiting_18 rfl rfl 1 rfl ?_
      obtain ⟨b3, h⟩ := gdS h
      refine v_iald C dX8_isWaiting_19 rfl sk_75 b3 ?_
      refine v_iload_n C dX8_isWaiting_20 rfl rfl 3 rfl ?_
      refine v_icmp_ne C dX8_isWaiting_21 (tgt := 28) (by decide) rfl (fun c4 => ?_) (fun c4 => ?_)
      · have h := ifn c4 h
        refine v_iconst C dX8_isWaiting_28 rfl ic_0 ?_
        obtain rfl := Option.some.inj h
        exact RET _ _ dX8_isWaiting_29 (Or.inl rfl)
      · have h := ifp c4 h
        refine v_iconst C dX8_isWaiting_24 rfl ic_1 ?_
        refine v_goto C dX8_isWaiting_25 (tgt := 29) (by decide) ?_
        obtain rfl := Option.some.inj h
        exact RET _ _ dX8_isWaiting_29 (Or.inr rfl)
def C_X8_isWaiting (K : Mem) (a1 : Int32) (a2 : Int32) (a3 : Int32) : Option Int32 := F_X8_isWaiting_0 K a1 a2 a3
set_option maxRecDepth 100000 in
theorem c_X8_isWaiting {l : Launch} {D : va_G} {cA : FieldType → ClassId} {X : Ex} {ad : Nat → Nat} {a1 : Int32} {a2 : Int32} {a3 : Int32} {K : Mem} {r : Int32} (h : C_X8_isWaiting K a1 a2 a3 = some r) : MI l D cA X yX8_isWaiting cX8_isWaiting 4 (some .boolean) 0 0 [.ref (ad 0), .int a1, .int a2, .int a3] (wd cA ad K 0 shsK) (wd cA ad K 0 shsK) r :=
  mZ_of (by decide +kernel) (Nat.le_of_ble_eq_true rfl) (fun G h1 h2 h3 h4 C hD RET => by subst h1 h2 h3 h4; exact wF_X8_isWaiting_0 C (fun K' => wd_D K' hD) RET  h)
def F_X8_check_50 (k50 : Int32 → Int32 → Int32 → Int32 → Mem → Option (Int32 × Mem)) (a1 : Int32) (a2 : Int32) (a3 : Int32) (a4 : Int32) (K : Mem) : Option (Int32 × Mem) :=
  if a1 ≤ a4 then (
    if a2 = a3 then (
      some (0, K)
    ) else (
      some (1 + a3, K)
    )
  ) else (
    if 9999 ≤ (K 35 11) then (
      if a2 = a3 then (
        some (0, K)
      ) else (
        some (1 + a3, K)
      )
    ) else (
      bd (C_X6_passNight 35 K) fun K13 =>
      bd (C_X8_isWaiting K13 a3 a2 (K13 35 9)) fun r15 =>
      if r15 = 0 then (
        some (1 + a3, K13)
      ) else (
        nm (a3 + 1) fun v17 =>
        bd (C_X6_lostLoops 35 K13) fun r19 =>
        bd (C_X8_isWaiting K13 v17 a2 r19) fun r21 =>
        if r21 = 0 then (
          some (1 + v17, K13)
        ) else (
          nm (v17 + 1) fun v23 =>
          nm (a4 + 1) fun v24 =>
          k50 a1 a2 v23 v24 K13
        )
      )
    )
  )
def L_X8_check_50 : Nat → Int32 → Int32 → Int32 → Int32 → Mem → Option (Int32 × Mem)
  | 0, _, _, _, _, _ => none
  | n + 1, a1, a2, a3, a4, K => F_X8_check_50 (fun a1 a2 a3 a4 K => L_X8_check_50 n a1 a2 a3 a4 K) a1 a2 a3 a4 K
set_option maxRecDepth 100000 in
set_option maxHeartbeats 4000000 in
theorem wF_X8_check_50 {G : Ctx} {ad : Nat → Nat} {k50 : Int32 → Int32 → Int32 → Int32 → Mem → Option (Int32 × Mem)} (C : Cx G RX8 cX8_check 5 6 137) (hD : ∀ K, va_D (gA G) (wd (gC G) ad K 0 shsK)) {res : (Int32 × Mem)} (RET : RI G cX8_check 5 (wd (gC G) ad res.2 0 shsK) res.1) (hk50 : ∀ {a1 : Int32} {a2 : Int32} {a3 : Int32} {a4 : Int32} {K : Mem} , k50 a1 a2 a3 a4 K = some res → V G 5 (wd (gC G) ad K 0 shsK) 50 [(0, .ref (ad 0)), (1, .int a1), (2, .int a2), (3, .int a3), (4, .int a4)] []) {a1 : Int32} {a2 : Int32} {a3 : Int32} {a4 : Int32} {K : Mem} (h : F_X8_check_50 k50 a1 a2 a3 a4 K = some res) : V G 5 (wd (gC G) ad K 0 shsK) 50 [(0, .ref (ad 0)), (1, .int a1), (2, .int a2), (3, .int a3), (4, .int a4)] [] := by
  unfold F_X8_check_50 at h
  refine v_iload C dX8_check_50 rfl 4 rfl ?_
  refine v_iload_n C dX8_check_52 rfl rfl 1 rfl ?_
  refine v_icmp_ge C dX8_check_53 (tgt := 128) (by decide) rfl (fun c8 => ?_) (fun c8 => ?_)
  · have h := ifp c8 h
    refine v_iload_n C dX8_check_128 rfl rfl 2 rfl ?_
    refine v_iload_n C dX8_check_129 rfl rfl 3 rfl ?_
    refine v_icmp_ne C dX8_check_130 (tgt := 137) (by decide) rfl (fun c9 => ?_) (fun c9 => ?_)
    · have h := ifn c9 h
      refine v_iconst C dX8_check_137 rfl ic_1 ?_
      refine v_iload_n C dX8_check_138 rfl rfl 3 rfl ?_
      refine v_iadd C dX8_check_139 rfl ?_
      obtain rfl := Option.some.inj h
      exact RET _ _ dX8_check_140
    · have h := ifp c9 h
      refine v_iconst C dX8_check_133 rfl ic_0 ?_
      refine v_goto C dX8_check_134 (tgt := 140) (by decide) ?_
      obtain rfl := Option.some.inj h
      exact RET _ _ dX8_check_140
  · have h := ifn c8 h
    refine v_aload_n C dX8_check_56 rfl rfl 0 rfl ?_
    refine v_getr C dX8_check_57 rfl ff_X8_28 sk_0 rfl ?_
    refine v_getf C dX8_check_60 rfl ff_X8_149 sk_35 rfl ?_
    refine v_sipush C dX8_check_63 rfl si_9999 ?_
    refine v_icmp_ge C dX8_check_66 (tgt := 128) (by decide) rfl (fun c10 => ?_) (fun c10 => ?_)
    · have h := ifp c10 h
      refine v_iload_n C dX8_check_128 rfl rfl 2 rfl ?_
      refine v_iload_n C dX8_check_129 rfl rfl 3 rfl ?_
      refine v_icmp_ne C dX8_check_130 (tgt := 137) (by decide) rfl (fun c11 => ?_) (fun c11 => ?_)
      · have h := ifn c11 h
        refine v_iconst C dX8_check_137 rfl ic_1 ?_
        refine v_iload_n C dX8_check_138 rfl rfl 3 rfl ?_
        refine v_iadd C dX8_check_139 rfl ?_
        obtain rfl := Option.some.inj h
        exact RET _ _ dX8_check_140
      · have h := ifp c11 h
        refine v_iconst C dX8_check_133 rfl ic_0 ?_
        refine v_goto C dX8_check_134 (tgt := 140) (by decide) ?_
        obtain rfl := Option.some.inj h
        exact RET _ _ dX8_check_140
    · have h := ifn c10 h
      refine v_aload_n C dX8_check_69 rfl rfl 0 rfl ?_
      refine v_getr C dX8_check_70 rfl ff_X8_28 sk_0 rfl ?_
      obtain ⟨K13, e12, h⟩ := bdS h
      refine v_callVv C yv_X6_passNight m_445 (c_X6_passNight isTown_35 e12) (Sub.whole hD _ _) ⟨_, _, _, _, _, wd_at sk_35, rfl⟩ (As := []) rfl rfl (Nat.le_of_ble_eq_true rfl) ⟨Nat.le_of_ble_eq_true rfl, Nat.le_of_ble_eq_true rfl⟩ dX8_check_73 rfl ?_
      refine v_aload_n C dX8_check_76 rfl rfl 0 rfl ?_
      refine v_iload_n C dX8_check_77 rfl rfl 3 rfl ?_
      refine v_iload_n C dX8_check_78 rfl rfl 2 rfl ?_
      refine v_aload_n C dX8_check_79 rfl rfl 0 rfl ?_
      refine v_getr C dX8_check_80 rfl ff_X8_28 sk_0 rfl ?_
      refine v_getf C dX8_check_83 rfl ff_X8_146 sk_35 rfl ?_
      obtain ⟨r15, e14, h⟩ := bdS h
      refine v_callVi C yv_X8_isWaiting m_822 (c_X8_isWaiting e14) (Sub.whole hD _ _) ⟨_, _, _, _, _, wd_at sk_0, rfl⟩ (As := [.int a3, .int a2, .int (K13 35 9)]) rfl rfl (Nat.le_of_ble_eq_true rfl) ⟨Nat.le_of_ble_eq_true rfl, Nat.le_of_ble_eq_true rfl⟩ dX8_check_86 rfl ?_
      refine v_if_ne C dX8_check_89 (tgt := 96) (by decide) rfl (fun c16 => ?_) (fun c16 => ?_)
      · have h := ifn c16 h
        obtain ⟨v17, ev17, h⟩ := nmS h
        refine v_iinc C dX8_check_96 rfl 3 rfl (v := v17) (by rw [ev17]; rfl) (by decide) (L' := [(3, .int v17), (0, .ref (ad 0)), (1, .int a1), (2, .int a2), (4, .int a4)]) rfl ?_
        refine v_aload_n C dX8_check_99 rfl rfl 1 rfl ?_
        refine v_iload_n C dX8_check_100 rfl rfl 0 rfl ?_
        refine v_iload_n C dX8_check_101 rfl rfl 3 rfl ?_
        refine v_aload_n C dX8_check_102 rfl rfl 1 rfl ?_
        refine v_getr C dX8_check_103 rfl ff_X8_28 sk_0 rfl ?_
        obtain ⟨r19, e18, h⟩ := bdS h
        refine v_callVi C yv_X6_lostLoops m_468 (c_X6_lostLoops isTown_35 e18) (Sub.whole hD _ _) ⟨_, _, _, _, _, wd_at sk_35, rfl⟩ (As := []) rfl rfl (Nat.le_of_ble_eq_true rfl) ⟨Nat.le_of_ble_eq_true rfl, Nat.le_of_ble_eq_true rfl⟩ dX8_check_106 rfl ?_
        obtain ⟨r21, e20, h⟩ := bdS h
        refine v_callVi C yv_X8_isWaiting m_822 (c_X8_isWaiting e20) (Sub.whole hD _ _) ⟨_, _, _, _, _, wd_at sk_0, rfl⟩ (As := [.int v17, .int a2, .int r19]) rfl rfl (Nat.le_of_ble_eq_true rfl) ⟨Nat.le_of_ble_eq_true rfl, Nat.le_of_ble_eq_true rfl⟩ dX8_check_109 rfl ?_
        refine v_if_ne C dX8_check_112 (tgt := 119) (by decide) rfl (fun c22 => ?_) (fun c22 => ?_)
        · have h := ifn c22 h
          obtain ⟨v23, ev23, h⟩ := nmS h
          refine v_iinc C dX8_check_119 rfl 0 rfl (v := v23) (by rw [ev23]; rfl) (by decide) (L' := [(3, .int v23), (0, .ref (ad 0)), (1, .int a1), (2, .int a2), (4, .int a4)]) rfl ?_
          obtain ⟨v24, ev24, h⟩ := nmS h
          refine v_iinc C dX8_check_122 rfl 4 rfl (v := v24) (by rw [ev24]; rfl) (by decide) (L' := [(4, .int v24), (3, .int v23), (0, .ref (ad 0)), (1, .int a1), (2, .int a2)]) rfl ?_
          refine v_goto C dX8_check_125 (tgt := 50) (by decide) ?_
          refine v_sub [2, 3, 4, 1, 0] rfl ?_
          exact hk50 h
        · have h := ifp c22 h
          refine v_iconst C dX8_check_115 rfl ic_1 ?_
          refine v_iload_n C dX8_check_116 rfl rfl 0 rfl ?_
          refine v_iadd C dX8_check_117 rfl ?_
          obtain rfl := Option.some.inj h
          exact RET _ _ dX8_check_118
      · have h := ifp c16 h
        refine v_iconst C dX8_check_92 rfl ic_1 ?_
        refine v_iload_n C dX8_check_93 rfl rfl 3 rfl ?_
        refine v_iadd C dX8_check_94 rfl ?_
        obtain rfl := Option.some.inj h
        exact RET _ _ dX8_check_95
theorem wL_X8_check_50 {G : Ctx} {ad : Nat → Nat} (C : Cx G RX8 cX8_check 5 6 137) (hD : ∀ K, va_D (gA G) (wd (gC G) ad K 0 shsK)) {res : (Int32 × Mem)} (RET : RI G cX8_check 5 (wd (gC G) ad res.2 0 shsK) res.1) : ∀ (n : Nat) {a1 : Int32} {a2 : Int32} {a3 : Int32} {a4 : Int32} {K : Mem} (h : L_X8_check_50 n a1 a2 a3 a4 K = some res), V G 5 (wd (gC G) ad K 0 shsK) 50 [(0, .ref (ad 0)), (1, .int a1), (2, .int a2), (3, .int a3), (4, .int a4)] [] := by
  intro n
  induction n with
  | zero =>
    intro a1 a2 a3 a4 K h
    cases (show (none : Option (Int32 × Mem)) = some res from h)
  | succ n ih =>
    intro a1 a2 a3 a4 K h
    exact wF_X8_check_50 (k50 := fun a1 a2 a3 a4 K => L_X8_check_50  n a1 a2 a3 a4 K) C hD RET (fun h => ih h) h
def F_X8_check_0 (a1 : Int32) (K : Mem) : Option (Int32 × Mem) :=
  nm (K 0 10) fun v1 =>
  nm (up K 0 10 0) fun K2 =>
  if a1 < 1 then (
    some ((-1000000001), K2)
  ) else (
    if a1 ≤ 30 then (
      if (K2 0 11) = 0 then (
        some ((-1000000002), K2)
      ) else (
        bd (C_X6_become 35 28 K2) fun K7 =>
        L_X8_check_50 FU a1 v1 0 0 K7
      )
    ) else (
      some ((-1000000001), K2)
    )
  )
set_option maxRecDepth 100000 in
set_option maxHeartbeats 4000000 in
theorem wF_X8_check_0 {G : Ctx} {ad : Nat → Nat} (C : Cx G RX8 cX8_check 5 6 137) (hD : ∀ K, va_D (gA G) (wd (gC G) ad K 0 shsK)) {res : (Int32 × Mem)} (RET : RI G cX8_check 5 (wd (gC G) ad res.2 0 shsK) res.1) {a1 : Int32} {K : Mem} (h : F_X8_check_0 a1 K = some res) : V G 5 (wd (gC G) ad K 0 shsK) 0 [(0, .ref (ad 0)), (1, .int a1)] [] := by
  unfold F_X8_check_0 at h
  refine v_aload_n C dX8_check_0 rfl rfl 0 rfl ?_
  refine v_getf C dX8_check_1 rfl ff_X8_295 sk_0 rfl ?_
  obtain ⟨v1, ev1, h⟩ := nmS h
  refine v_nmi ev1 ?_
  refine v_istore_n C dX8_check_4 rfl rfl (by decide) (L' := [(2, .int v1), (0, .ref (ad 0)), (1, .int a1)]) rfl ?_
  refine v_aload_n C dX8_check_5 rfl rfl 1 rfl ?_
  refine v_iconst C dX8_check_6 rfl ic_0 ?_
  obtain ⟨K2, eK2, h⟩ := nmS h
  refine v_putf C hD dX8_check_7 rfl fp_X8_295 sk_0 rfl eK2 ?_
  refine v_iload_n C dX8_check_10 rfl rfl 2 rfl ?_
  refine v_iconst C dX8_check_11 rfl ic_1 ?_
  refine v_icmp_lt C dX8_check_12 (tgt := 21) (by decide) rfl (fun c3 => ?_) (fun c3 => ?_)
  · have h := ifp c3 h
    refine v_ldc C dX8_check_21 rfl m_290 ?_
    obtain rfl := Option.some.inj h
    exact RET _ _ dX8_check_23
  · have h := ifn c3 h
    refine v_iload_n C dX8_check_15 rfl rfl 2 rfl ?_
    refine v_bipush C dX8_check_16 rfl bi_30 ?_
    refine v_icmp_le C dX8_check_18 (tgt := 24) (by decide) rfl (fun c4 => ?_) (fun c4 => ?_)
    · have h := ifp c4 h
      refine v_aload_n C dX8_check_24 rfl rfl 1 rfl ?_
      refine v_getf C dX8_check_25 rfl ff_X8_298 sk_0 rfl ?_
      refine v_if_ne C dX8_check_28 (tgt := 34) (by decide) rfl (fun c5 => ?_) (fun c5 => ?_)
      · have h := ifn c5 h
        refine v_aload_n C dX8_check_34 rfl rfl 1 rfl ?_
        refine v_getr C dX8_check_35 rfl ff_X8_28 sk_0 rfl ?_
        refine v_aload_n C dX8_check_38 rfl rfl 1 rfl ?_
        refine v_getr C dX8_check_39 rfl ff_X8_25 sk_0 rfl ?_
        obtain ⟨K7, e6, h⟩ := bdS h
        refine v_callVv C yv_X6_become m_535 (c_X6_become isTown_35 isTown_28 e6) (Sub.whole hD _ _) ⟨_, _, _, _, _, wd_at sk_35, rfl⟩ (As := [.ref (ad 28)]) rfl rfl (Nat.le_of_ble_eq_true rfl) ⟨Nat.le_of_ble_eq_true rfl, Nat.le_of_ble_eq_true rfl⟩ dX8_check_42 rfl ?_
        refine v_iconst C dX8_check_45 rfl ic_0 ?_
        refine v_istore_n C dX8_check_46 rfl rfl (by decide) (L' := [(3, .int 0), (2, .int v1), (0, .ref (ad 0)), (1, .int a1)]) rfl ?_
        refine v_iconst C dX8_check_47 rfl ic_0 ?_
        refine v_istore C dX8_check_48 rfl (by decide) (L' := [(4, .int 0), (3, .int 0), (2, .int v1), (0, .ref (ad 0)), (1, .int a1)]) rfl ?_
        refine v_sub [3, 4, 2, 1, 0] rfl ?_
        exact wL_X8_check_50 C hD RET FU h
      · have h := ifp c5 h
        refine v_ldc C dX8_check_31 rfl m_400 ?_
        obtain rfl := Option.some.inj h
        exact RET _ _ dX8_check_33
    · have h := ifn c4 h
      refine v_ldc C dX8_check_21 rfl m_290 ?_
      obtain rfl := Option.some.inj h
      exact RET _ _ dX8_check_23
def C_X8_check (a1 : Int32) (K : Mem) : Option (Int32 × Mem) := F_X8_check_0 a1 K
set_option maxRecDepth 100000 in
theorem c_X8_check {l : Launch} {D : va_G} {cA : FieldType → ClassId} {X : Ex} {ad : Nat → Nat} {a1 : Int32} {K : Mem} {r : Int32} {K' : Mem} (h : C_X8_check a1 K = some (r, K')) : MI l D cA X yX8_check cX8_check 5 (some .int) 6 137 [.ref (ad 0), .int a1] (wd cA ad K 0 shsK) (wd cA ad K' 0 shsK) r :=
  mI_of (by decide +kernel) (Nat.le_of_ble_eq_true rfl) (fun G h1 h2 h3 h4 C hD RET => by subst h1 h2 h3 h4; exact wF_X8_check_0 C (fun K' => wd_D K' hD) RET  h)
def F_X8_keep_0 (K : Mem) : Option (Int32 × Mem) :=
  bd (C_X6_become 28 21 K) fun K2 =>
  nm (up K2 0 11 1) fun K3 =>
  some (K3 28 7, K3)
set_option maxRecDepth 100000 in
set_option maxHeartbeats 4000000 in
theorem wF_X8_keep_0 {G : Ctx} {ad : Nat → Nat} (C : Cx G RX8 cX8_keep 1 2 51) (hD : ∀ K, va_D (gA G) (wd (gC G) ad K 0 shsK)) {res : (Int32 × Mem)} (RET : RI G cX8_keep 1 (wd (gC G) ad res.2 0 shsK) res.1) {K : Mem} (h : F_X8_keep_0 K = some res) : V G 1 (wd (gC G) ad K 0 shsK) 0 [(0, .ref (ad 0))] [] := by
  unfold F_X8_keep_0 at h
  refine v_aload_n C dX8_keep_0 rfl rfl 0 rfl ?_
  refine v_getr C dX8_keep_1 rfl ff_X8_25 sk_0 rfl ?_
  refine v_aload_n C dX8_keep_4 rfl rfl 0 rfl ?_
  refine v_getr C dX8_keep_5 rfl ff_X8_21 sk_0 rfl ?_
  obtain ⟨K2, e1, h⟩ := bdS h
  refine v_callVv C yv_X6_become m_535 (c_X6_become isTown_28 isTown_21 e1) (Sub.whole hD _ _) ⟨_, _, _, _, _, wd_at sk_28, rfl⟩ (As := [.ref (ad 21)]) rfl rfl (Nat.le_of_ble_eq_true rfl) ⟨Nat.le_of_ble_eq_true rfl, Nat.le_of_ble_eq_true rfl⟩ dX8_keep_8 rfl ?_
  refine v_aload_n C dX8_keep_11 rfl rfl 0 rfl ?_
  refine v_iconst C dX8_keep_12 rfl ic_1 ?_
  obtain ⟨K3, eK3, h⟩ := nmS h
  refine v_putz C hD dX8_keep_13 rfl fp_X8_298 sk_0 rfl eK3 ?_
  refine v_aload_n C dX8_keep_16 rfl rfl 0 rfl ?_
  refine v_getr C dX8_keep_17 rfl ff_X8_25 sk_0 rfl ?_
  refine v_getf C dX8_keep_20 rfl ff_X8_91 sk_28 rfl ?_
  obtain rfl := Option.some.inj h
  exact RET _ _ dX8_keep_23
def C_X8_keep (K : Mem) : Option (Int32 × Mem) := F_X8_keep_0 K
set_option maxRecDepth 100000 in
theorem c_X8_keep {l : Launch} {D : va_G} {cA : FieldType → ClassId} {X : Ex} {ad : Nat → Nat} {K : Mem} {r : Int32} {K' : Mem} (h : C_X8_keep K = some (r, K')) : MI l D cA X yX8_keep cX8_keep 1 (some .int) 2 51 [.ref (ad 0)] (wd cA ad K 0 shsK) (wd cA ad K' 0 shsK) r :=
  mI_of (by decide +kernel) (Nat.le_of_ble_eq_true rfl) (fun G h1 h2 h3 h4 C hD RET => by subst h1 h2 h3 h4; exact wF_X8_keep_0 C (fun K' => wd_D K' hD) RET  h)
def F_X8_back_0 (K : Mem) : Option (Int32 × Mem) :=
  if (K 0 11) = 0 then (
    some ((-1000000002), K)
  ) else (
    bd (C_X6_become 21 28 K) fun K3 =>
    some (K3 21 7, K3)
  )
set_option maxRecDepth 100000 in
set_option maxHeartbeats 4000000 in
theorem wF_X8_back_0 {G : Ctx} {ad : Nat → Nat} (C : Cx G RX8 cX8_back 1 2 51) (hD : ∀ K, va_D (gA G) (wd (gC G) ad K 0 shsK)) {res : (Int32 × Mem)} (RET : RI G cX8_back 1 (wd (gC G) ad res.2 0 shsK) res.1) {K : Mem} (h : F_X8_back_0 K = some res) : V G 1 (wd (gC G) ad K 0 shsK) 0 [(0, .ref (ad 0))] [] := by
  unfold F_X8_back_0 at h
  refine v_aload_n C dX8_back_0 rfl rfl 0 rfl ?_
  refine v_getf C dX8_back_1 rfl ff_X8_298 sk_0 rfl ?_
  refine v_if_ne C dX8_back_4 (tgt := 10) (by decide) rfl (fun c1 => ?_) (fun c1 => ?_)
  · have h := ifn c1 h
    refine v_aload_n C dX8_back_10 rfl rfl 0 rfl ?_
    refine v_getr C dX8_back_11 rfl ff_X8_21 sk_0 rfl ?_
    refine v_aload_n C dX8_back_14 rfl rfl 0 rfl ?_
    refine v_getr C dX8_back_15 rfl ff_X8_25 sk_0 rfl ?_
    obtain ⟨K3, e2, h⟩ := bdS h
    refine v_callVv C yv_X6_become m_535 (c_X6_become isTown_21 isTown_28 e2) (Sub.whole hD _ _) ⟨_, _, _, _, _, wd_at sk_21, rfl⟩ (As := [.ref (ad 28)]) rfl rfl (Nat.le_of_ble_eq_true rfl) ⟨Nat.le_of_ble_eq_true rfl, Nat.le_of_ble_eq_true rfl⟩ dX8_back_18 rfl ?_
    refine v_aload_n C dX8_back_21 rfl rfl 0 rfl ?_
    refine v_getr C dX8_back_22 rfl ff_X8_21 sk_0 rfl ?_
    refine v_getf C dX8_back_25 rfl ff_X8_91 sk_21 rfl ?_
    obtain rfl := Option.some.inj h
    exact RET _ _ dX8_back_28
  · have h := ifp c1 h
    refine v_ldc C dX8_back_7 rfl m_400 ?_
    obtain rfl := Option.some.inj h
    exact RET _ _ dX8_back_9
def C_X8_back (K : Mem) : Option (Int32 × Mem) := F_X8_back_0 K
set_option maxRecDepth 100000 in
theorem c_X8_back {l : Launch} {D : va_G} {cA : FieldType → ClassId} {X : Ex} {ad : Nat → Nat} {K : Mem} {r : Int32} {K' : Mem} (h : C_X8_back K = some (r, K')) : MI l D cA X yX8_back cX8_back 1 (some .int) 2 51 [.ref (ad 0)] (wd cA ad K 0 shsK) (wd cA ad K' 0 shsK) r :=
  mI_of (by decide +kernel) (Nat.le_of_ble_eq_true rfl) (fun G h1 h2 h3 h4 C hD RET => by subst h1 h2 h3 h4; exact wF_X8_back_0 C (fun K' => wd_D K' hD) RET  h)
def F_X8_count_0 (K : Mem) (a1 : Int32) : Option Int32 :=
  if a1 = 0 then (
    some (K 21 7)
  ) else (
    if a1 = 1 then (
      some (K 21 11)
    ) else (
      if a1 = 2 then (
        gd (inb (a1 - 2) 3) <|
        some (K 26 (Int32.toNatClampNeg (a1 - 2)))
      ) else (
        if a1 = 3 then (
          gd (inb (a1 - 2) 3) <|
          some (K 26 (Int32.toNatClampNeg (a1 - 2)))
        ) else (
          if a1 = 4 then (
            gd (inb (a1 - 2) 3) <|
            some (K 26 (Int32.toNatClampNeg (a1 - 2)))
          ) else (
            if a1 = 5 then (
              some (K 21 13)
            ) else (
              if a1 = 6 then (
                some (K 0 10)
              ) else (
                if a1 = 7 then (
                  some (K 46 1)
                ) else (
                  if a1 = 8 then (
                    some (K 21 12)
                  ) else (
                    some (-1000000001)
                  )
                )
              )
            )
          )
        )
      )
    )
  )
set_option maxRecDepth 100000 in
set_option maxHeartbeats 4000000 in
theorem wF_X8_count_0 {G : Ctx} {ad : Nat → Nat} {K : Mem} (C : Cx G RX8 cX8_count 2 0 0) (hD : ∀ K, va_D (gA G) (wd (gC G) ad K 0 shsK)) {res : Int32} (RET : RI G cX8_count 2 (wd (gC G) ad K 0 shsK) res) {a1 : Int32} (h : F_X8_count_0 K a1 = some res) : V G 2 (wd (gC G) ad K 0 shsK) 0 [(0, .ref (ad 0)), (1, .int a1)] [] := by
  unfold F_X8_count_0 at h
  refine v_iload_n C dX8_count_0 rfl rfl 1 rfl ?_
  by_cases c1 : a1 = 0
  · have h := ifp c1 h
    refine v_tsIn C dX8_count_1 c1 (by decide) (by decide) (off := 51) (by decide) (tgt := 52) (by decide) ?_
    refine v_aload_n C dX8_count_52 rfl rfl 0 rfl ?_
    refine v_getr C dX8_count_53 rfl ff_X8_21 sk_0 rfl ?_
    refine v_getf C dX8_count_56 rfl ff_X8_91 sk_21 rfl ?_
    obtain rfl := Option.some.inj h
    exact RET _ _ dX8_count_59
  · have h := ifn c1 h
    by_cases c2 : a1 = 1
    · have h := ifp c2 h
      refine v_tsIn C dX8_count_1 c2 (by decide) (by decide) (off := 59) (by decide) (tgt := 60) (by decide) ?_
      refine v_aload_n C dX8_count_60 rfl rfl 0 rfl ?_
      refine v_getr C dX8_count_61 rfl ff_X8_21 sk_0 rfl ?_
      refine v_getf C dX8_count_64 rfl ff_X8_149 sk_21 rfl ?_
      obtain rfl := Option.some.inj h
      exact RET _ _ dX8_count_67
    · have h := ifn c2 h
      by_cases c3 : a1 = 2
      · have h := ifp c3 h
        refine v_tsIn C dX8_count_1 c3 (by decide) (by decide) (off := 67) (by decide) (tgt := 68) (by decide) ?_
        refine v_aload_n C dX8_count_68 rfl rfl 0 rfl ?_
        refine v_getr C dX8_count_69 rfl ff_X8_21 sk_0 rfl ?_
        refine v_getr C dX8_count_72 rfl ff_X8_137 sk_21 rfl ?_
        refine v_iload_n C dX8_count_75 rfl rfl 1 rfl ?_
        refine v_iconst C dX8_count_76 rfl ic_2 ?_
        refine v_isub C dX8_count_77 rfl ?_
        obtain ⟨b4, h⟩ := gdS h
        refine v_iald C dX8_count_78 rfl sk_26 b4 ?_
        obtain rfl := Option.some.inj h
        exact RET _ _ dX8_count_79
      · have h := ifn c3 h
        by_cases c5 : a1 = 3
        · have h := ifp c5 h
          refine v_tsIn C dX8_count_1 c5 (by decide) (by decide) (off := 67) (by decide) (tgt := 68) (by decide) ?_
          refine v_aload_n C dX8_count_68 rfl rfl 0 rfl ?_
          refine v_getr C dX8_count_69 rfl ff_X8_21 sk_0 rfl ?_
          refine v_getr C dX8_count_72 rfl ff_X8_137 sk_21 rfl ?_
          refine v_iload_n C dX8_count_75 rfl rfl 1 rfl ?_
          refine v_iconst C dX8_count_76 rfl ic_2 ?_
          refine v_isub C dX8_count_77 rfl ?_
          obtain ⟨b6, h⟩ := gdS h
          refine v_iald C dX8_count_78 rfl sk_26 b6 ?_
          obtain rfl := Option.some.inj h
          exact RET _ _ dX8_count_79
        · have h := ifn c5 h
          by_cases c7 : a1 = 4
          · have h := ifp c7 h
            refine v_tsIn C dX8_count_1 c7 (by decide) (by decide) (off := 67) (by decide) (tgt := 68) (by decide) ?_
            refine v_aload_n C dX8_count_68 rfl rfl 0 rfl ?_
            refine v_getr C dX8_count_69 rfl ff_X8_21 sk_0 rfl ?_
            refine v_getr C dX8_count_72 rfl ff_X8_137 sk_21 rfl ?_
            refine v_iload_n C dX8_count_75 rfl rfl 1 rfl ?_
            refine v_iconst C dX8_count_76 rfl ic_2 ?_
            refine v_isub C dX8_count_77 rfl ?_
            obtain ⟨b8, h⟩ := gdS h
            refine v_iald C dX8_count_78 rfl sk_26 b8 ?_
            obtain rfl := Option.some.inj h
            exact RET _ _ dX8_count_79
          · have h := ifn c7 h
            by_cases c9 : a1 = 5
            · have h := ifp c9 h
              refine v_tsIn C dX8_count_1 c9 (by decide) (by decide) (off := 79) (by decide) (tgt := 80) (by decide) ?_
              refine v_aload_n C dX8_count_80 rfl rfl 0 rfl ?_
              refine v_getr C dX8_count_81 rfl ff_X8_21 sk_0 rfl ?_
              refine v_getf C dX8_count_84 rfl ff_X8_216 sk_21 rfl ?_
              obtain rfl := Option.some.inj h
              exact RET _ _ dX8_count_87
            · have h := ifn c9 h
              by_cases c10 : a1 = 6
              · have h := ifp c10 h
                refine v_tsIn C dX8_count_1 c10 (by decide) (by decide) (off := 87) (by decide) (tgt := 88) (by decide) ?_
                refine v_aload_n C dX8_count_88 rfl rfl 0 rfl ?_
                refine v_getf C dX8_count_89 rfl ff_X8_295 sk_0 rfl ?_
                obtain rfl := Option.some.inj h
                exact RET _ _ dX8_count_92
              · have h := ifn c10 h
                by_cases c11 : a1 = 7
                · have h := ifp c11 h
                  refine v_tsIn C dX8_count_1 c11 (by decide) (by decide) (off := 92) (by decide) (tgt := 93) (by decide) ?_
                  refine v_aload_n C dX8_count_93 rfl rfl 0 rfl ?_
                  refine v_getr C dX8_count_94 rfl ff_X8_41 sk_0 rfl ?_
                  refine v_getf C dX8_count_97 rfl ff_X8_208 sk_46 rfl ?_
                  obtain rfl := Option.some.inj h
                  exact RET _ _ dX8_count_100
                · have h := ifn c11 h
                  by_cases c12 : a1 = 8
                  · have h := ifp c12 h
                    refine v_tsIn C dX8_count_1 c12 (by decide) (by decide) (off := 100) (by decide) (tgt := 101) (by decide) ?_
                    refine v_aload_n C dX8_count_101 rfl rfl 0 rfl ?_
                    refine v_getr C dX8_count_102 rfl ff_X8_21 sk_0 rfl ?_
                    refine v_getf C dX8_count_105 rfl ff_X8_143 sk_21 rfl ?_
                    obtain rfl := Option.some.inj h
                    exact RET _ _ dX8_count_108
                  · have h := ifn c12 h
                    refine v_tsOut C dX8_count_1 (by have ec1 := lv_neT c1 (k := 0) (a := 0) (by decide); have ec2 := lv_neT c2 (k := 1) (a := 1) (by decide); have ec3 := lv_neT c3 (k := 2) (a := 2) (by decide); have ec5 := lv_neT c5 (k := 3) (a := 3) (by decide); have ec7 := lv_neT c7 (k := 4) (a := 4) (by decide); have ec9 := lv_neT c9 (k := 5) (a := 5) (by decide); have ec10 := lv_neT c10 (k := 6) (a := 6) (by decide); have ec11 := lv_neT c11 (k := 7) (a := 7) (by decide); have ec12 := lv_neT c12 (k := 8) (a := 8) (by decide); omega) (tgt := 109) (by decide) ?_
                    refine v_ldc C dX8_count_109 rfl m_290 ?_
                    obtain rfl := Option.some.inj h
                    exact RET _ _ dX8_count_111
def C_X8_count (K : Mem) (a1 : Int32) : Option Int32 := F_X8_count_0 K a1
set_option maxRecDepth 100000 in
theorem c_X8_count {l : Launch} {D : va_G} {cA : FieldType → ClassId} {X : Ex} {ad : Nat → Nat} {a1 : Int32} {K : Mem} {r : Int32} (h : C_X8_count K a1 = some r) : MI l D cA X yX8_count cX8_count 2 (some .int) 0 0 [.ref (ad 0), .int a1] (wd cA ad K 0 shsK) (wd cA ad K 0 shsK) r :=
  mI_of (by decide +kernel) (Nat.le_of_ble_eq_true rfl) (fun G h1 h2 h3 h4 C hD RET => by subst h1 h2 h3 h4; exact wF_X8_count_0 C (fun K' => wd_D K' hD) RET  h)
