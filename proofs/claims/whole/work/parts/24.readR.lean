def F_X9_either_10 (rec_both : Int32 → Mem → Option (Int32 × Mem)) (k10 : Int32 → Mem → Option (Int32 × Mem)) (a1 : Int32) (K : Mem) : Option (Int32 × Mem) :=
  bd (C_X9_isSign K 124) fun r6 =>
  if r6 = 0 then (
    some (1, K)
  ) else (
    bd (C_X9_nextToken K) fun K9 =>
    bd2 (rec_both a1 K9) fun r12 K11 =>
    if r12 = 0 then (
      some (0, K11)
    ) else (
      bd (C_X9_step 2 124 K11) fun K15 =>
      k10 a1 K15
    )
  )
def L_X9_either_10 (rec_both : Int32 → Mem → Option (Int32 × Mem)) : Nat → Int32 → Mem → Option (Int32 × Mem)
  | 0, _, _ => none
  | n + 1, a1, K => F_X9_either_10 rec_both (fun a1 K => L_X9_either_10 rec_both n a1 K) a1 K
set_option maxRecDepth 100000 in
set_option maxHeartbeats 4000000 in
theorem wF_X9_either_10 {G : Ctx} {ad : Nat → Nat} {fr lo fd ld : Nat} {rec_both : Int32 → Mem → Option (Int32 × Mem)} {k10 : Int32 → Mem → Option (Int32 × Mem)} (C : Cx G RX9 cX9_either 2 fr lo) (hD : ∀ K, va_D (gA G) (wd (gC G) ad K 0 shsR)) {res : (Int32 × Mem)} (RET : RZ G cX9_either 2 (wd (gC G) ad res.2 0 shsR) res.1) (hrec_both : ∀ {z0 : Int32} {K : Mem} {r : Int32} {K' : Mem}, rec_both z0 K = some (r, K') → MI (gl G) (gD G) (gC G) (gX G) yX9_both cX9_both 2 (some .boolean) fd ld [.ref (ad 0), .int z0] (wd (gC G) ad K 0 shsR) (wd (gC G) ad K' 0 shsR) r) (hrR_both : fd + 1 ≤ fr ∧ 8 + (2 + 11) + ld ≤ lo) (hf0 : 3 ≤ fr) (hl0 : 68 ≤ lo) (hk10 : ∀ {a1 : Int32} {K : Mem} , k10 a1 K = some res → V G 2 (wd (gC G) ad K 0 shsR) 10 [(0, .ref (ad 0)), (1, .int a1)] []) {a1 : Int32} {K : Mem} (h : F_X9_either_10 rec_both k10 a1 K = some res) : V G 2 (wd (gC G) ad K 0 shsR) 10 [(0, .ref (ad 0)), (1, .int a1)] [] := by
  unfold F_X9_either_10 at h
  refine v_aload_n C dX9_either_10 rfl rfl 0 rfl ?_
  refine v_bipush C dX9_either_11 rfl bi_124 ?_
  obtain ⟨r6, e5, h⟩ := bdS h
  refine v_callVi C yv_X9_isSign m_1280 (c_X9_isSign e5) (Sub.whole hD _ _) ⟨_, _, _, _, _, wd_at sr_0, rfl⟩ (As := [.int 124]) rfl rfl (Nat.le_of_ble_eq_true rfl) ⟨Nat.le_trans (Nat.le_of_ble_eq_true rfl) hf0, Nat.le_trans (Nat.le_of_ble_eq_true rfl) hl0⟩ dX9_either_13 rfl ?_
  refine v_if_eq C dX9_either_16 (tgt := 43) (by decide) rfl (fun c7 => ?_) (fun c7 => ?_)
  · have h := ifp c7 h
    refine v_iconst C dX9_either_43 rfl ic_1 ?_
    obtain rfl := Option.some.inj h
    exact RET _ _ dX9_either_44 (Or.inr rfl)
  · have h := ifn c7 h
    refine v_aload_n C dX9_either_19 rfl rfl 0 rfl ?_
    obtain ⟨K9, e8, h⟩ := bdS h
    refine v_callVv C yv_X9_nextToken m_1225 (c_X9_nextToken e8) (Sub.whole hD _ _) ⟨_, _, _, _, _, wd_at sr_0, rfl⟩ (As := []) rfl rfl (Nat.le_of_ble_eq_true rfl) ⟨Nat.le_trans (Nat.le_of_ble_eq_true rfl) hf0, Nat.le_trans (Nat.le_of_ble_eq_true rfl) hl0⟩ dX9_either_20 rfl ?_
    refine v_aload_n C dX9_either_23 rfl rfl 0 rfl ?_
    refine v_iload_n C dX9_either_24 rfl rfl 1 rfl ?_
    obtain ⟨r12, K11, e10, h⟩ := bd2S h
    refine v_callVi C yv_X9_both m_1253 (hrec_both e10) (Sub.whole hD _ _) ⟨_, _, _, _, _, wd_at sr_0, rfl⟩ (As := [.int a1]) rfl rfl (Nat.le_of_ble_eq_true rfl) hrR_both dX9_either_25 rfl ?_
    refine v_if_ne C dX9_either_28 (tgt := 33) (by decide) rfl (fun c13 => ?_) (fun c13 => ?_)
    · have h := ifn c13 h
      refine v_aload_n C dX9_either_33 rfl rfl 0 rfl ?_
      refine v_iconst C dX9_either_34 rfl ic_2 ?_
      refine v_bipush C dX9_either_35 rfl bi_124 ?_
      obtain ⟨K15, e14, h⟩ := bdS h
      refine v_callVv C yv_X9_step m_1273 (c_X9_step e14) (Sub.whole hD _ _) ⟨_, _, _, _, _, wd_at sr_0, rfl⟩ (As := [.int 2, .int 124]) rfl rfl (Nat.le_of_ble_eq_true rfl) ⟨Nat.le_trans (Nat.le_of_ble_eq_true rfl) hf0, Nat.le_trans (Nat.le_of_ble_eq_true rfl) hl0⟩ dX9_either_37 rfl ?_
      refine v_goto C dX9_either_40 (tgt := 10) (by decide) ?_
      exact hk10 h
    · have h := ifp c13 h
      refine v_iconst C dX9_either_31 rfl ic_0 ?_
      obtain rfl := Option.some.inj h
      exact RET _ _ dX9_either_32 (Or.inl rfl)
theorem wL_X9_either_10 {G : Ctx} {ad : Nat → Nat} {fr lo fd ld : Nat} {rec_both : Int32 → Mem → Option (Int32 × Mem)} (C : Cx G RX9 cX9_either 2 fr lo) (hD : ∀ K, va_D (gA G) (wd (gC G) ad K 0 shsR)) {res : (Int32 × Mem)} (RET : RZ G cX9_either 2 (wd (gC G) ad res.2 0 shsR) res.1) (hrec_both : ∀ {z0 : Int32} {K : Mem} {r : Int32} {K' : Mem}, rec_both z0 K = some (r, K') → MI (gl G) (gD G) (gC G) (gX G) yX9_both cX9_both 2 (some .boolean) fd ld [.ref (ad 0), .int z0] (wd (gC G) ad K 0 shsR) (wd (gC G) ad K' 0 shsR) r) (hrR_both : fd + 1 ≤ fr ∧ 8 + (2 + 11) + ld ≤ lo) (hf0 : 3 ≤ fr) (hl0 : 68 ≤ lo) : ∀ (n : Nat) {a1 : Int32} {K : Mem} (h : L_X9_either_10 rec_both n a1 K = some res), V G 2 (wd (gC G) ad K 0 shsR) 10 [(0, .ref (ad 0)), (1, .int a1)] [] := by
  intro n
  induction n with
  | zero =>
    intro a1 K h
    cases (show (none : Option (Int32 × Mem)) = some res from h)
  | succ n ih =>
    intro a1 K h
    exact wF_X9_either_10 (k10 := fun a1 K => L_X9_either_10 rec_both n a1 K) C hD RET hrec_both hrR_both hf0 hl0 (fun h => ih h) h
def F_X9_either_0 (rec_both : Int32 → Mem → Option (Int32 × Mem)) (a1 : Int32) (K : Mem) : Option (Int32 × Mem) :=
  bd2 (rec_both a1 K) fun r3 K2 =>
  if r3 = 0 then (
    some (0, K2)
  ) else (
    L_X9_either_10 rec_both FU a1 K2
  )
set_option maxRecDepth 100000 in
set_option maxHeartbeats 4000000 in
theorem wF_X9_either_0 {G : Ctx} {ad : Nat → Nat} {fr lo fd ld : Nat} {rec_both : Int32 → Mem → Option (Int32 × Mem)} (C : Cx G RX9 cX9_either 2 fr lo) (hD : ∀ K, va_D (gA G) (wd (gC G) ad K 0 shsR)) {res : (Int32 × Mem)} (RET : RZ G cX9_either 2 (wd (gC G) ad res.2 0 shsR) res.1) (hrec_both : ∀ {z0 : Int32} {K : Mem} {r : Int32} {K' : Mem}, rec_both z0 K = some (r, K') → MI (gl G) (gD G) (gC G) (gX G) yX9_both cX9_both 2 (some .boolean) fd ld [.ref (ad 0), .int z0] (wd (gC G) ad K 0 shsR) (wd (gC G) ad K' 0 shsR) r) (hrR_both : fd + 1 ≤ fr ∧ 8 + (2 + 11) + ld ≤ lo) (hf0 : 3 ≤ fr) (hl0 : 68 ≤ lo) {a1 : Int32} {K : Mem} (h : F_X9_either_0 rec_both a1 K = some res) : V G 2 (wd (gC G) ad K 0 shsR) 0 [(0, .ref (ad 0)), (1, .int a1)] [] := by
  unfold F_X9_either_0 at h
  refine v_aload_n C dX9_either_0 rfl rfl 0 rfl ?_
  refine v_iload_n C dX9_either_1 rfl rfl 1 rfl ?_
  obtain ⟨r3, K2, e1, h⟩ := bd2S h
  refine v_callVi C yv_X9_both m_1253 (hrec_both e1) (Sub.whole hD _ _) ⟨_, _, _, _, _, wd_at sr_0, rfl⟩ (As := [.int a1]) rfl rfl (Nat.le_of_ble_eq_true rfl) hrR_both dX9_either_2 rfl ?_
  refine v_if_ne C dX9_either_5 (tgt := 10) (by decide) rfl (fun c4 => ?_) (fun c4 => ?_)
  · have h := ifn c4 h
    exact wL_X9_either_10 C hD RET hrec_both hrR_both hf0 hl0 FU h
  · have h := ifp c4 h
    refine v_iconst C dX9_either_8 rfl ic_0 ?_
    obtain rfl := Option.some.inj h
    exact RET _ _ dX9_either_9 (Or.inl rfl)
def F_X9_both_10 (rec_test : Int32 → Mem → Option (Int32 × Mem)) (k10 : Int32 → Mem → Option (Int32 × Mem)) (a1 : Int32) (K : Mem) : Option (Int32 × Mem) :=
  bd (C_X9_isSign K 38) fun r6 =>
  if r6 = 0 then (
    some (1, K)
  ) else (
    bd (C_X9_nextToken K) fun K9 =>
    bd2 (rec_test a1 K9) fun r12 K11 =>
    if r12 = 0 then (
      some (0, K11)
    ) else (
      bd (C_X9_step 2 38 K11) fun K15 =>
      k10 a1 K15
    )
  )
def L_X9_both_10 (rec_test : Int32 → Mem → Option (Int32 × Mem)) : Nat → Int32 → Mem → Option (Int32 × Mem)
  | 0, _, _ => none
  | n + 1, a1, K => F_X9_both_10 rec_test (fun a1 K => L_X9_both_10 rec_test n a1 K) a1 K
set_option maxRecDepth 100000 in
set_option maxHeartbeats 4000000 in
theorem wF_X9_both_10 {G : Ctx} {ad : Nat → Nat} {fr lo fd ld : Nat} {rec_test : Int32 → Mem → Option (Int32 × Mem)} {k10 : Int32 → Mem → Option (Int32 × Mem)} (C : Cx G RX9 cX9_both 2 fr lo) (hD : ∀ K, va_D (gA G) (wd (gC G) ad K 0 shsR)) {res : (Int32 × Mem)} (RET : RZ G cX9_both 2 (wd (gC G) ad res.2 0 shsR) res.1) (hrec_test : ∀ {z0 : Int32} {K : Mem} {r : Int32} {K' : Mem}, rec_test z0 K = some (r, K') → MI (gl G) (gD G) (gC G) (gX G) yX9_test cX9_test 3 (some .boolean) fd ld [.ref (ad 0), .int z0] (wd (gC G) ad K 0 shsR) (wd (gC G) ad K' 0 shsR) r) (hrR_test : fd + 1 ≤ fr ∧ 8 + (3 + 11) + ld ≤ lo) (hf0 : 3 ≤ fr) (hl0 : 68 ≤ lo) (hk10 : ∀ {a1 : Int32} {K : Mem} , k10 a1 K = some res → V G 2 (wd (gC G) ad K 0 shsR) 10 [(0, .ref (ad 0)), (1, .int a1)] []) {a1 : Int32} {K : Mem} (h : F_X9_both_10 rec_test k10 a1 K = some res) : V G 2 (wd (gC G) ad K 0 shsR) 10 [(0, .ref (ad 0)), (1, .int a1)] [] := by
  unfold F_X9_both_10 at h
  refine v_aload_n C dX9_both_10 rfl rfl 0 rfl ?_
  refine v_bipush C dX9_both_11 rfl bi_38 ?_
  obtain ⟨r6, e5, h⟩ := bdS h
  refine v_callVi C yv_X9_isSign m_1280 (c_X9_isSign e5) (Sub.whole hD _ _) ⟨_, _, _, _, _, wd_at sr_0, rfl⟩ (As := [.int 38]) rfl rfl (Nat.le_of_ble_eq_true rfl) ⟨Nat.le_trans (Nat.le_of_ble_eq_true rfl) hf0, Nat.le_trans (Nat.le_of_ble_eq_true rfl) hl0⟩ dX9_both_13 rfl ?_
  refine v_if_eq C dX9_both_16 (tgt := 43) (by decide) rfl (fun c7 => ?_) (fun c7 => ?_)
  · have h := ifp c7 h
    refine v_iconst C dX9_both_43 rfl ic_1 ?_
    obtain rfl := Option.some.inj h
    exact RET _ _ dX9_both_44 (Or.inr rfl)
  · have h := ifn c7 h
    refine v_aload_n C dX9_both_19 rfl rfl 0 rfl ?_
    obtain ⟨K9, e8, h⟩ := bdS h
    refine v_callVv C yv_X9_nextToken m_1225 (c_X9_nextToken e8) (Sub.whole hD _ _) ⟨_, _, _, _, _, wd_at sr_0, rfl⟩ (As := []) rfl rfl (Nat.le_of_ble_eq_true rfl) ⟨Nat.le_trans (Nat.le_of_ble_eq_true rfl) hf0, Nat.le_trans (Nat.le_of_ble_eq_true rfl) hl0⟩ dX9_both_20 rfl ?_
    refine v_aload_n C dX9_both_23 rfl rfl 0 rfl ?_
    refine v_iload_n C dX9_both_24 rfl rfl 1 rfl ?_
    obtain ⟨r12, K11, e10, h⟩ := bd2S h
    refine v_callVi C yv_X9_test m_1257 (hrec_test e10) (Sub.whole hD _ _) ⟨_, _, _, _, _, wd_at sr_0, rfl⟩ (As := [.int a1]) rfl rfl (Nat.le_of_ble_eq_true rfl) hrR_test dX9_both_25 rfl ?_
    refine v_if_ne C dX9_both_28 (tgt := 33) (by decide) rfl (fun c13 => ?_) (fun c13 => ?_)
    · have h := ifn c13 h
      refine v_aload_n C dX9_both_33 rfl rfl 0 rfl ?_
      refine v_iconst C dX9_both_34 rfl ic_2 ?_
      refine v_bipush C dX9_both_35 rfl bi_38 ?_
      obtain ⟨K15, e14, h⟩ := bdS h
      refine v_callVv C yv_X9_step m_1273 (c_X9_step e14) (Sub.whole hD _ _) ⟨_, _, _, _, _, wd_at sr_0, rfl⟩ (As := [.int 2, .int 38]) rfl rfl (Nat.le_of_ble_eq_true rfl) ⟨Nat.le_trans (Nat.le_of_ble_eq_true rfl) hf0, Nat.le_trans (Nat.le_of_ble_eq_true rfl) hl0⟩ dX9_both_37 rfl ?_
      refine v_goto C dX9_both_40 (tgt := 10) (by decide) ?_
      exact hk10 h
    · have h := ifp c13 h
      refine v_iconst C dX9_both_31 rfl ic_0 ?_
      obtain rfl := Option.some.inj h
      exact RET _ _ dX9_both_32 (Or.inl rfl)
theorem wL_X9_both_10 {G : Ctx} {ad : Nat → Nat} {fr lo fd ld : Nat} {rec_test : Int32 → Mem → Option (Int32 × Mem)} (C : Cx G RX9 cX9_both 2 fr lo) (hD : ∀ K, va_D (gA G) (wd (gC G) ad K 0 shsR)) {res : (Int32 × Mem)} (RET : RZ G cX9_both 2 (wd (gC G) ad res.2 0 shsR) res.1) (hrec_test : ∀ {z0 : Int32} {K : Mem} {r : Int32} {K' : Mem}, rec_test z0 K = some (r, K') → MI (gl G) (gD G) (gC G) (gX G) yX9_test cX9_test 3 (some .boolean) fd ld [.ref (ad 0), .int z0] (wd (gC G) ad K 0 shsR) (wd (gC G) ad K' 0 shsR) r) (hrR_test : fd + 1 ≤ fr ∧ 8 + (3 + 11) + ld ≤ lo) (hf0 : 3 ≤ fr) (hl0 : 68 ≤ lo) : ∀ (n : Nat) {a1 : Int32} {K : Mem} (h : L_X9_both_10 rec_test n a1 K = some res), V G 2 (wd (gC G) ad K 0 shsR) 10 [(0, .ref (ad 0)), (1, .int a1)] [] := by
  intro n
  induction n with
  | zero =>
    intro a1 K h
    cases (show (none : Option (Int32 × Mem)) = some res from h)
  | succ n ih =>
    intro a1 K h
    exact wF_X9_both_10 (k10 := fun a1 K => L_X9_both_10 rec_test n a1 K) C hD RET hrec_test hrR_test hf0 hl0 (fun h => ih h) h
def F_X9_both_0 (rec_test : Int32 → Mem → Option (Int32 × Mem)) (a1 : Int32) (K : Mem) : Option (Int32 × Mem) :=
  bd2 (rec_test a1 K) fun r3 K2 =>
  if r3 = 0 then (
    some (0, K2)
  ) else (
    L_X9_both_10 rec_test FU a1 K2
  )
set_option maxRecDepth 100000 in
set_option maxHeartbeats 4000000 in
theorem wF_X9_both_0 {G : Ctx} {ad : Nat → Nat} {fr lo fd ld : Nat} {rec_test : Int32 → Mem → Option (Int32 × Mem)} (C : Cx G RX9 cX9_both 2 fr lo) (hD : ∀ K, va_D (gA G) (wd (gC G) ad K 0 shsR)) {res : (Int32 × Mem)} (RET : RZ G cX9_both 2 (wd (gC G) ad res.2 0 shsR) res.1) (hrec_test : ∀ {z0 : Int32} {K : Mem} {r : Int32} {K' : Mem}, rec_test z0 K = some (r, K') → MI (gl G) (gD G) (gC G) (gX G) yX9_test cX9_test 3 (some .boolean) fd ld [.ref (ad 0), .int z0] (wd (gC G) ad K 0 shsR) (wd (gC G) ad K' 0 shsR) r) (hrR_test : fd + 1 ≤ fr ∧ 8 + (3 + 11) + ld ≤ lo) (hf0 : 3 ≤ fr) (hl0 : 68 ≤ lo) {a1 : Int32} {K : Mem} (h : F_X9_both_0 rec_test a1 K = some res) : V G 2 (wd (gC G) ad K 0 shsR) 0 [(0, .ref (ad 0)), (1, .int a1)] [] := by
  unfold F_X9_both_0 at h
  refine v_aload_n C dX9_both_0 rfl rfl 0 rfl ?_
  refine v_iload_n C dX9_both_1 rfl rfl 1 rfl ?_
  obtain ⟨r3, K2, e1, h⟩ := bd2S h
  refine v_callVi C yv_X9_test m_1257 (hrec_test e1) (Sub.whole hD _ _) ⟨_, _, _, _, _, wd_at sr_0, rfl⟩ (As := [.int a1]) rfl rfl (Nat.le_of_ble_eq_true rfl) hrR_test dX9_both_2 rfl ?_
  refine v_if_ne C dX9_both_5 (tgt := 10) (by decide) rfl (fun c4 => ?_) (fun c4 => ?_)
  · have h := ifn c4 h
    exact wL_X9_both_10 C hD RET hrec_test hrR_test hf0 hl0 FU h
  · have h := ifp c4 h
    refine v_iconst C dX9_both_8 rfl ic_0 ?_
    obtain rfl := Option.some.inj h
    exact RET _ _ dX9_both_9 (Or.inl rfl)
def F_X9_test_37 (rec_sum : Int32 → Mem → Option (Int32 × Mem)) (a1 : Int32) (K : Mem) : Option (Int32 × Mem) :=
  nm (K 0 21) fun v14 =>
  bd (C_X9_nextToken K) fun K16 =>
  bd2 (rec_sum a1 K16) fun r19 K18 =>
  if r19 = 0 then (
    some (0, K18)
  ) else (
    bd (C_X9_step 2 v14 K18) fun K22 =>
    some (1, K22)
  )
set_option maxRecDepth 100000 in
set_option maxHeartbeats 4000000 in
theorem wF_X9_test_37 {G : Ctx} {ad : Nat → Nat} {fr lo fd ld : Nat} {rec_sum : Int32 → Mem → Option (Int32 × Mem)} (C : Cx G RX9 cX9_test 3 fr lo) (hD : ∀ K, va_D (gA G) (wd (gC G) ad K 0 shsR)) {res : (Int32 × Mem)} (RET : RZ G cX9_test 3 (wd (gC G) ad res.2 0 shsR) res.1) (hrec_sum : ∀ {z0 : Int32} {K : Mem} {r : Int32} {K' : Mem}, rec_sum z0 K = some (r, K') → MI (gl G) (gD G) (gC G) (gX G) yX9_sum cX9_sum 3 (some .boolean) fd ld [.ref (ad 0), .int z0] (wd (gC G) ad K 0 shsR) (wd (gC G) ad K' 0 shsR) r) (hrR_sum : fd + 1 ≤ fr ∧ 8 + (3 + 11) + ld ≤ lo) (hf0 : 3 ≤ fr) (hl0 : 68 ≤ lo) {a1 : Int32} {K : Mem} (h : F_X9_test_37 rec_sum a1 K = some res) : V G 3 (wd (gC G) ad K 0 shsR) 37 [(0, .ref (ad 0)), (1, .int a1)] [] := by
  unfold F_X9_test_37 at h
  refine v_aload_n C dX9_test_37 rfl rfl 0 rfl ?_
  refine v_getf C dX9_test_38 rfl ff_X9_250 sr_0 rfl ?_
  obtain ⟨v14, ev14, h⟩ := nmS h
  refine v_nmi ev14 ?_
  refine v_istore_n C dX9_test_41 rfl rfl (by decide) (L' := [(2, .int v14), (0, .ref (ad 0)), (1, .int a1)]) rfl ?_
  refine v_aload_n C dX9_test_42 rfl rfl 1 rfl ?_
  obtain ⟨K16, e15, h⟩ := bdS h
  refine v_callVv C yv_X9_nextToken m_1225 (c_X9_nextToken e15) (Sub.whole hD _ _) ⟨_, _, _, _, _, wd_at sr_0, rfl⟩ (As := []) rfl rfl (Nat.le_of_ble_eq_true rfl) ⟨Nat.le_trans (Nat.le_of_ble_eq_true rfl) hf0, Nat.le_trans (Nat.le_of_ble_eq_true rfl) hl0⟩ dX9_test_43 rfl ?_
  refine v_aload_n C dX9_test_46 rfl rfl 1 rfl ?_
  refine v_iload_n C dX9_test_47 rfl rfl 2 rfl ?_
  obtain ⟨r19, K18, e17, h⟩ := bd2S h
  refine v_callVi C yv_X9_sum m_1261 (hrec_sum e17) (Sub.whole hD _ _) ⟨_, _, _, _, _, wd_at sr_0, rfl⟩ (As := [.int a1]) rfl rfl (Nat.le_of_ble_eq_true rfl) hrR_sum dX9_test_48 rfl ?_
  refine v_if_ne C dX9_test_51 (tgt := 56) (by decide) rfl (fun c20 => ?_) (fun c20 => ?_)
  · have h := ifn c20 h
    refine v_aload_n C dX9_test_56 rfl rfl 1 rfl ?_
    refine v_iconst C dX9_test_57 rfl ic_2 ?_
    refine v_iload_n C dX9_test_58 rfl rfl 0 rfl ?_
    obtain ⟨K22, e21, h⟩ := bdS h
    refine v_callVv C yv_X9_step m_1273 (c_X9_step e21) (Sub.whole hD _ _) ⟨_, _, _, _, _, wd_at sr_0, rfl⟩ (As := [.int 2, .int v14]) rfl rfl (Nat.le_of_ble_eq_true rfl) ⟨Nat.le_trans (Nat.le_of_ble_eq_true rfl) hf0, Nat.le_trans (Nat.le_of_ble_eq_true rfl) hl0⟩ dX9_test_59 rfl ?_
    refine v_iconst C dX9_test_62 rfl ic_1 ?_
    obtain rfl := Option.some.inj h
    exact RET _ _ dX9_test_63 (Or.inr rfl)
  · have h := ifp c20 h
    refine v_iconst C dX9_test_54 rfl ic_0 ?_
    obtain rfl := Option.some.inj h
    exact RET _ _ dX9_test_55 (Or.inl rfl)
def F_X9_test_0 (rec_sum : Int32 → Mem → Option (Int32 × Mem)) (a1 : Int32) (K : Mem) : Option (Int32 × Mem) :=
  bd2 (rec_sum a1 K) fun r3 K2 =>
  if r3 = 0 then (
    some (0, K2)
  ) else (
    bd (C_X9_isSign K2 60) fun r6 =>
    if r6 = 0 then (
      bd (C_X9_isSign K2 61) fun r9 =>
      if r9 = 0 then (
        bd (C_X9_isSign K2 62) fun r12 =>
        if r12 = 0 then (
          some (1, K2)
        ) else (
          F_X9_test_37 rec_sum a1 K2
        )
      ) else (
        F_X9_test_37 rec_sum a1 K2
      )
    ) else (
      F_X9_test_37 rec_sum a1 K2
    )
  )
set_option maxRecDepth 100000 in
set_option maxHeartbeats 4000000 in
theorem wF_X9_test_0 {G : Ctx} {ad : Nat → Nat} {fr lo fd ld : Nat} {rec_sum : Int32 → Mem → Option (Int32 × Mem)} (C : Cx G RX9 cX9_test 3 fr lo) (hD : ∀ K, va_D (gA G) (wd (gC G) ad K 0 shsR)) {res : (Int32 × Mem)} (RET : RZ G cX9_test 3 (wd (gC G) ad res.2 0 shsR) res.1) (hrec_sum : ∀ {z0 : Int32} {K : Mem} {r : Int32} {K' : Mem}, rec_sum z0 K = some (r, K') → MI (gl G) (gD G) (gC G) (gX G) yX9_sum cX9_sum 3 (some .boolean) fd ld [.ref (ad 0), .int z0] (wd (gC G) ad K 0 shsR) (wd (gC G) ad K' 0 shsR) r) (hrR_sum : fd + 1 ≤ fr ∧ 8 + (3 + 11) + ld ≤ lo) (hf0 : 3 ≤ fr) (hl0 : 68 ≤ lo) {a1 : Int32} {K : Mem} (h : F_X9_test_0 rec_sum a1 K = some res) : V G 3 (wd (gC G) ad K 0 shsR) 0 [(0, .ref (ad 0)), (1, .int a1)] [] := by
  unfold F_X9_test_0 at h
  refine v_aload_n C dX9_test_0 rfl rfl 0 rfl ?_
  refine v_iload_n C dX9_test_1 rfl rfl 1 rfl ?_
  obtain ⟨r3, K2, e1, h⟩ := bd2S h
  refine v_callVi C yv_X9_sum m_1261 (hrec_sum e1) (Sub.whole hD _ _) ⟨_, _, _, _, _, wd_at sr_0, rfl⟩ (As := [.int a1]) rfl rfl (Nat.le_of_ble_eq_true rfl) hrR_sum dX9_test_2 rfl ?_
  refine v_if_ne C dX9_test_5 (tgt := 10) (by decide) rfl (fun c4 => ?_) (fun c4 => ?_)
  · have h := ifn c4 h
    refine v_aload_n C dX9_test_10 rfl rfl 0 rfl ?_
    refine v_bipush C dX9_test_11 rfl bi_60 ?_
    obtain ⟨r6, e5, h⟩ := bdS h
    refine v_callVi C yv_X9_isSign m_1280 (c_X9_isSign e5) (Sub.whole hD _ _) ⟨_, _, _, _, _, wd_at sr_0, rfl⟩ (As := [.int 60]) rfl rfl (Nat.le_of_ble_eq_true rfl) ⟨Nat.le_trans (Nat.le_of_ble_eq_true rfl) hf0, Nat.le_trans (Nat.le_of_ble_eq_true rfl) hl0⟩ dX9_test_13 rfl ?_
    refine v_if_ne C dX9_test_16 (tgt := 37) (by decide) rfl (fun c7 => ?_) (fun c7 => ?_)
    · have h := ifn c7 h
      exact wF_X9_test_37 C hD RET hrec_sum hrR_sum hf0 hl0 h
    · have h := ifp c7 h
      refine v_aload_n C dX9_test_19 rfl rfl 0 rfl ?_
      refine v_bipush C dX9_test_20 rfl bi_61 ?_
      obtain ⟨r9, e8, h⟩ := bdS h
      refine v_callVi C yv_X9_isSign m_1280 (c_X9_isSign e8) (Sub.whole hD _ _) ⟨_, _, _, _, _, wd_at sr_0, rfl⟩ (As := [.int 61]) rfl rfl (Nat.le_of_ble_eq_true rfl) ⟨Nat.le_trans (Nat.le_of_ble_eq_true rfl) hf0, Nat.le_trans (Nat.le_of_ble_eq_true rfl) hl0⟩ dX9_test_22 rfl ?_
      refine v_if_ne C dX9_test_25 (tgt := 37) (by decide) rfl (fun c10 => ?_) (fun c10 => ?_)
      · have h := ifn c10 h
        exact wF_X9_test_37 C hD RET hrec_sum hrR_sum hf0 hl0 h
      · have h := ifp c10 h
        refine v_aload_n C dX9_test_28 rfl rfl 0 rfl ?_
        refine v_bipush C dX9_test_29 rfl bi_62 ?_
        obtain ⟨r12, e11, h⟩ := bdS h
        refine v_callVi C yv_X9_isSign m_1280 (c_X9_isSign e11) (Sub.whole hD _ _) ⟨_, _, _, _, _, wd_at sr_0, rfl⟩ (As := [.int 62]) rfl rfl (Nat.le_of_ble_eq_true rfl) ⟨Nat.le_trans (Nat.le_of_ble_eq_true rfl) hf0, Nat.le_trans (Nat.le_of_ble_eq_true rfl) hl0⟩ dX9_test_31 rfl ?_
        refine v_if_eq C dX9_test_34 (tgt := 62) (by decide) rfl (fun c13 => ?_) (fun c13 => ?_)
        · have h := ifp c13 h
          refine v_iconst C dX9_test_62 rfl ic_1 ?_
          obtain rfl := Option.some.inj h
          exact RET _ _ dX9_test_63 (Or.inr rfl)
        · have h := ifn c13 h
          exact wF_X9_test_37 C hD RET hrec_sum hrR_sum hf0 hl0 h
  · have h := ifp c4 h
    refine v_iconst C dX9_test_8 rfl ic_0 ?_
    obtain rfl := Option.some.inj h
    exact RET _ _ dX9_test_9 (Or.inl rfl)
def F_X9_sum_28 (rec_term : Int32 → Mem → Option (Int32 × Mem)) (k10 : Int32 → Mem → Option (Int32 × Mem)) (a1 : Int32) (K : Mem) : Option (Int32 × Mem) :=
  nm (K 0 21) fun v11 =>
  bd (C_X9_nextToken K) fun K13 =>
  bd2 (rec_term a1 K13) fun r16 K15 =>
  if r16 = 0 then (
    some (0, K15)
  ) else (
    bd (C_X9_step 2 v11 K15) fun K19 =>
    k10 a1 K19
  )
set_option maxRecDepth 100000 in
set_option maxHeartbeats 4000000 in
theorem wF_X9_sum_28 {G : Ctx} {ad : Nat → Nat} {fr lo fd ld : Nat} {rec_term : Int32 → Mem → Option (Int32 × Mem)} {k10 : Int32 → Mem → Option (Int32 × Mem)} (C : Cx G RX9 cX9_sum 3 fr lo) (hD : ∀ K, va_D (gA G) (wd (gC G) ad K 0 shsR)) {res : (Int32 × Mem)} (RET : RZ G cX9_sum 3 (wd (gC G) ad res.2 0 shsR) res.1) (hrec_term : ∀ {z0 : Int32} {K : Mem} {r : Int32} {K' : Mem}, rec_term z0 K = some (r, K') → MI (gl G) (gD G) (gC G) (gX G) yX9_term cX9_term 3 (some .boolean) fd ld [.ref (ad 0), .int z0] (wd (gC G) ad K 0 shsR) (wd (gC G) ad K' 0 shsR) r) (hrR_term : fd + 1 ≤ fr ∧ 8 + (3 + 11) + ld ≤ lo) (hf0 : 3 ≤ fr) (hl0 : 68 ≤ lo) (hk10 : ∀ {a1 : Int32} {K : Mem} , k10 a1 K = some res → V G 3 (wd (gC G) ad K 0 shsR) 10 [(0, .ref (ad 0)), (1, .int a1)] []) {a1 : Int32} {K : Mem} (h : F_X9_sum_28 rec_term k10 a1 K = some res) : V G 3 (wd (gC G) ad K 0 shsR) 28 [(0, .ref (ad 0)), (1, .int a1)] [] := by
  unfold F_X9_sum_28 at h
  refine v_aload_n C dX9_sum_28 rfl rfl 0 rfl ?_
  refine v_getf C dX9_sum_29 rfl ff_X9_250 sr_0 rfl ?_
  obtain ⟨v11, ev11, h⟩ := nmS h
  refine v_nmi ev11 ?_
  refine v_istore_n C dX9_sum_32 rfl rfl (by decide) (L' := [(2, .int v11), (0, .ref (ad 0)), (1, .int a1)]) rfl ?_
  refine v_aload_n C dX9_sum_33 rfl rfl 1 rfl ?_
  obtain ⟨K13, e12, h⟩ := bdS h
  refine v_callVv C yv_X9_nextToken m_1225 (c_X9_nextToken e12) (Sub.whole hD _ _) ⟨_, _, _, _, _, wd_at sr_0, rfl⟩ (As := []) rfl rfl (Nat.le_of_ble_eq_true rfl) ⟨Nat.le_trans (Nat.le_of_ble_eq_true rfl) hf0, Nat.le_trans (Nat.le_of_ble_eq_true rfl) hl0⟩ dX9_sum_34 rfl ?_
  refine v_aload_n C dX9_sum_37 rfl rfl 1 rfl ?_
  refine v_iload_n C dX9_sum_38 rfl rfl 2 rfl ?_
  obtain ⟨r16, K15, e14, h⟩ := bd2S h
  refine v_callVi C yv_X9_term m_1265 (hrec_term e14) (Sub.whole hD _ _) ⟨_, _, _, _, _, wd_at sr_0, rfl⟩ (As := [.int a1]) rfl rfl (Nat.le_of_ble_eq_true rfl) hrR_term dX9_sum_39 rfl ?_
  refine v_if_ne C dX9_sum_42 (tgt := 47) (by decide) rfl (fun c17 => ?_) (fun c17 => ?_)
  · have h := ifn c17 h
    refine v_aload_n C dX9_sum_47 rfl rfl 1 rfl ?_
    refine v_iconst C dX9_sum_48 rfl ic_2 ?_
    refine v_iload_n C dX9_sum_49 rfl rfl 0 rfl ?_
    obtain ⟨K19, e18, h⟩ := bdS h
    refine v_callVv C yv_X9_step m_1273 (c_X9_step e18) (Sub.whole hD _ _) ⟨_, _, _, _, _, wd_at sr_0, rfl⟩ (As := [.int 2, .int v11]) rfl rfl (Nat.le_of_ble_eq_true rfl) ⟨Nat.le_trans (Nat.le_of_ble_eq_true rfl) hf0, Nat.le_trans (Nat.le_of_ble_eq_true rfl) hl0⟩ dX9_sum_50 rfl ?_
    refine v_goto C dX9_sum_53 (tgt := 10) (by decide) ?_
    refine v_sub [1, 2] rfl ?_
    exact hk10 h
  · have h := ifp c17 h
    refine v_iconst C dX9_sum_45 rfl ic_0 ?_
    obtain rfl := Option.some.inj h
    exact RET _ _ dX9_sum_46 (Or.inl rfl)
def F_X9_sum_10 (rec_term : Int32 → Mem → Option (Int32 × Mem)) (k10 : Int32 → Mem → Option (Int32 × Mem)) (a1 : Int32) (K : Mem) : Option (Int32 × Mem) :=
  bd (C_X9_isSign K 43) fun r6 =>
  if r6 = 0 then (
    bd (C_X9_isSign K 45) fun r9 =>
    if r9 = 0 then (
      some (1, K)
    ) else (
      F_X9_sum_28 rec_term k10 a1 K
    )
  ) else (
    F_X9_sum_28 rec_term k10 a1 K
  )
def L_X9_sum_10 (rec_term : Int32 → Mem → Option (Int32 × Mem)) : Nat → Int32 → Mem → Option (Int32 × Mem)
  | 0, _, _ => none
  | n + 1, a1, K => F_X9_sum_10 rec_term (fun a1 K => L_X9_sum_10 rec_term n a1 K) a1 K
set_option maxRecDepth 100000 in
set_option maxHeartbeats 4000000 in
theorem wF_X9_sum_10 {G : Ctx} {ad : Nat → Nat} {fr lo fd ld : Nat} {rec_term : Int32 → Mem → Option (Int32 × Mem)} {k10 : Int32 → Mem → Option (Int32 × Mem)} (C : Cx G RX9 cX9_sum 3 fr lo) (hD : ∀ K, va_D (gA G) (wd (gC G) ad K 0 shsR)) {res : (Int32 × Mem)} (RET : RZ G cX9_sum 3 (wd (gC G) ad res.2 0 shsR) res.1) (hrec_term : ∀ {z0 : Int32} {K : Mem} {r : Int32} {K' : Mem}, rec_term z0 K = some (r, K') → MI (gl G) (gD G) (gC G) (gX G) yX9_term cX9_term 3 (some .boolean) fd ld [.ref (ad 0), .int z0] (wd (gC G) ad K 0 shsR) (wd (gC G) ad K' 0 shsR) r) (hrR_term : fd + 1 ≤ fr ∧ 8 + (3 + 11) + ld ≤ lo) (hf0 : 3 ≤ fr) (hl0 : 68 ≤ lo) (hk10 : ∀ {a1 : Int32} {K : Mem} , k10 a1 K = some res → V G 3 (wd (gC G) ad K 0 shsR) 10 [(0, .ref (ad 0)), (1, .int a1)] []) {a1 : Int32} {K : Mem} (h : F_X9_sum_10 rec_term k10 a1 K = some res) : V G 3 (wd (gC G) ad K 0 shsR) 10 [(0, .ref (ad 0)), (1, .int a1)] [] := by
  unfold F_X9_sum_10 at h
  refine v_aload_n C dX9_sum_10 rfl rfl 0 rfl ?_
  refine v_bipush C dX9_sum_11 rfl bi_43 ?_
  obtain ⟨r6, e5, h⟩ := bdS h
  refine v_callVi C yv_X9_isSign m_1280 (c_X9_isSign e5) (Sub.whole hD _ _) ⟨_, _, _, _, _, wd_at sr_0, rfl⟩ (As := [.int 43]) rfl rfl (Nat.le_of_ble_eq_true rfl) ⟨Nat.le_trans (Nat.le_of_ble_eq_true rfl) hf0, Nat.le_trans (Nat.le_of_ble_eq_true rfl) hl0⟩ dX9_sum_13 rfl ?_
  refine v_if_ne C dX9_sum_16 (tgt := 28) (by decide) rfl (fun c7 => ?_) (fun c7 => ?_)
  · have h := ifn c7 h
    exact wF_X9_sum_28 C hD RET hrec_term hrR_term hf0 hl0 hk10 h
  · have h := ifp c7 h
    refine v_aload_n C dX9_sum_19 rfl rfl 0 rfl ?_
    refine v_bipush C dX9_sum_20 rfl bi_45 ?_
    obtain ⟨r9, e8, h⟩ := bdS h
    refine v_callVi C yv_X9_isSign m_1280 (c_X9_isSign e8) (Sub.whole hD _ _) ⟨_, _, _, _, _, wd_at sr_0, rfl⟩ (As := [.int 45]) rfl rfl (Nat.le_of_ble_eq_true rfl) ⟨Nat.le_trans (Nat.le_of_ble_eq_true rfl) hf0, Nat.le_trans (Nat.le_of_ble_eq_true rfl) hl0⟩ dX9_sum_22 rfl ?_
    refine v_if_eq C dX9_sum_25 (tgt := 56) (by decide) rfl (fun c10 => ?_) (fun c10 => ?_)
    · have h := ifp c10 h
      refine v_iconst C dX9_sum_56 rfl ic_1 ?_
      obtain rfl := Option.some.inj h
      exact RET _ _ dX9_sum_57 (Or.inr rfl)
    · have h := ifn c10 h
      exact wF_X9_sum_28 C hD RET hrec_term hrR_term hf0 hl0 hk10 h
theorem wL_X9_sum_10 {G : Ctx} {ad : Nat → Nat} {fr lo fd ld : Nat} {rec_term : Int32 → Mem → Option (Int32 × Mem)} (C : Cx G RX9 cX9_sum 3 fr lo) (hD : ∀ K, va_D (gA G) (wd (gC G) ad K 0 shsR)) {res : (Int32 × Mem)} (RET : RZ G cX9_sum 3 (wd (gC G) ad res.2 0 shsR) res.1) (hrec_term : ∀ {z0 : Int32} {K : Mem} {r : Int32} {K' : Mem}, rec_term z0 K = some (r, K') → MI (gl G) (gD G) (gC G) (gX G) yX9_term cX9_term 3 (some .boolean) fd ld [.ref (ad 0), .int z0] (wd (gC G) ad K 0 shsR) (wd (gC G) ad K' 0 shsR) r) (hrR_term : fd + 1 ≤ fr ∧ 8 + (3 + 11) + ld ≤ lo) (hf0 : 3 ≤ fr) (hl0 : 68 ≤ lo) : ∀ (n : Nat) {a1 : Int32} {K : Mem} (h : L_X9_sum_10 rec_term n a1 K = some res), V G 3 (wd (gC G) ad K 0 shsR) 10 [(0, .ref (ad 0)), (1, .int a1)] [] := by
  intro n
  induction n with
  | zero =>
    intro a1 K h
    cases (show (none : Option (Int32 × Mem)) = some res from h)
  | succ n ih =>
    intro a1 K h
    exact wF_X9_sum_10 (k10 := fun a1 K => L_X9_sum_10 rec_term n a1 K) C hD RET hrec_term hrR_term hf0 hl0 (fun h => ih h) h
def F_X9_sum_0 (rec_term : Int32 → Mem → Option (Int32 × Mem)) (a1 : Int32) (K : Mem) : Option (Int32 × Mem) :=
  bd2 (rec_term a1 K) fun r3 K2 =>
  if r3 = 0 then (
    some (0, K2)
  ) else (
    L_X9_sum_10 rec_term FU a1 K2
  )
set_option maxRecDepth 100000 in
set_option maxHeartbeats 4000000 in
theorem wF_X9_sum_0 {G : Ctx} {ad : Nat → Nat} {fr lo fd ld : Nat} {rec_term : Int32 → Mem → Option (Int32 × Mem)} (C : Cx G RX9 cX9_sum 3 fr lo) (hD : ∀ K, va_D (gA G) (wd (gC G) ad K 0 shsR)) {res : (Int32 × Mem)} (RET : RZ G cX9_sum 3 (wd (gC G) ad res.2 0 shsR) res.1) (hrec_term : ∀ {z0 : Int32} {K : Mem} {r : Int32} {K' : Mem}, rec_term z0 K = some (r, K') → MI (gl G) (gD G) (gC G) (gX G) yX9_term cX9_term 3 (some .boolean) fd ld [.ref (ad 0), .int z0] (wd (gC G) ad K 0 shsR) (wd (gC G) ad K' 0 shsR) r) (hrR_term : fd + 1 ≤ fr ∧ 8 + (3 + 11) + ld ≤ lo) (hf0 : 3 ≤ fr) (hl0 : 68 ≤ lo) {a1 : Int32} {K : Mem} (h : F_X9_sum_0 rec_term a1 K = some res) : V G 3 (wd (gC G) ad K 0 shsR) 0 [(0, .ref (ad 0)), (1, .int a1)] [] := by
  unfold F_X9_sum_0 at h
  refine v_aload_n C dX9_sum_0 rfl rfl 0 rfl ?_
  refine v_iload_n C dX9_sum_1 rfl rfl 1 rfl ?_
  obtain ⟨r3, K2, e1, h⟩ := bd2S h
  refine v_callVi C yv_X9_term m_1265 (hrec_term e1) (Sub.whole hD _ _) ⟨_, _, _, _, _, wd_at sr_0, rfl⟩ (As := [.int a1]) rfl rfl (Nat.le_of_ble_eq_true rfl) hrR_term dX9_sum_2 rfl ?_
  refine v_if_ne C dX9_sum_5 (tgt := 10) (by decide) rfl (fun c4 => ?_) (fun c4 => ?_)
  · have h := ifn c4 h
    exact wL_X9_sum_10 C hD RET hrec_term hrR_term hf0 hl0 FU h
  · have h := ifp c4 h
    refine v_iconst C dX9_sum_8 rfl ic_0 ?_
    obtain rfl := Option.some.inj h
    exact RET _ _ dX9_sum_9 (Or.inl rfl)
def F_X9_term_28 (rec_part0 : Int32 → Mem → Option (Int32 × Mem)) (k10 : Int32 → Mem → Option (Int32 × Mem)) (a1 : Int32) (K : Mem) : Option (Int32 × Mem) :=
  nm (K 0 21) fun v11 =>
  bd (C_X9_nextToken K) fun K13 =>
  bd2 (rec_part0 a1 K13) fun r16 K15 =>
  if r16 = 0 then (
    some (0, K15)
  ) else (
    bd (C_X9_step 2 v11 K15) fun K19 =>
    k10 a1 K19
  )
set_option maxRecDepth 100000 in
set_option maxHeartbeats 4000000 in
theorem wF_X9_term_28 {G : Ctx} {ad : Nat → Nat} {fr lo fd ld : Nat} {rec_part0 : Int32 → Mem → Option (Int32 × Mem)} {k10 : Int32 → Mem → Option (Int32 × Mem)} (C : Cx G RX9 cX9_term 3 fr lo) (hD : ∀ K, va_D (gA G) (wd (gC G) ad K 0 shsR)) {res : (Int32 × Mem)} (RET : RZ G cX9_term 3 (wd (gC G) ad res.2 0 shsR) res.1) (hrec_part0 : ∀ {z0 : Int32} {K : Mem} {r : Int32} {K' : Mem}, rec_part0 z0 K = some (r, K') → MI (gl G) (gD G) (gC G) (gX G) yX9_part0 cX9_part0 2 (some .boolean) fd ld [.ref (ad 0), .int z0] (wd (gC G) ad K 0 shsR) (wd (gC G) ad K' 0 shsR) r) (hrR_part0 : fd + 1 ≤ fr ∧ 8 + (2 + 11) + ld ≤ lo) (hf0 : 3 ≤ fr) (hl0 : 68 ≤ lo) (hk10 : ∀ {a1 : Int32} {K : Mem} , k10 a1 K = some res → V G 3 (wd (gC G) ad K 0 shsR) 10 [(0, .ref (ad 0)), (1, .int a1)] []) {a1 : Int32} {K : Mem} (h : F_X9_term_28 rec_part0 k10 a1 K = some res) : V G 3 (wd (gC G) ad K 0 shsR) 28 [(0, .ref (ad 0)), (1, .int a1)] [] := by
  unfold F_X9_term_28 at h
  refine v_aload_n C dX9_term_28 rfl rfl 0 rfl ?_
  refine v_getf C dX9_term_29 rfl ff_X9_250 sr_0 rfl ?_
  obtain ⟨v11, ev11, h⟩ := nmS h
  refine v_nmi ev11 ?_
  refine v_istore_n C dX9_term_32 rfl rfl (by decide) (L' := [(2, .int v11), (0, .ref (ad 0)), (1, .int a1)]) rfl ?_
  refine v_aload_n C dX9_term_33 rfl rfl 1 rfl ?_
  obtain ⟨K13, e12, h⟩ := bdS h
  refine v_callVv C yv_X9_nextToken m_1225 (c_X9_nextToken e12) (Sub.whole hD _ _) ⟨_, _, _, _, _, wd_at sr_0, rfl⟩ (As := []) rfl rfl (Nat.le_of_ble_eq_true rfl) ⟨Nat.le_trans (Nat.le_of_ble_eq_true rfl) hf0, Nat.le_trans (Nat.le_of_ble_eq_true rfl) hl0⟩ dX9_term_34 rfl ?_
  refine v_aload_n C dX9_term_37 rfl rfl 1 rfl ?_
  refine v_iload_n C dX9_term_38 rfl rfl 2 rfl ?_
  obtain ⟨r16, K15, e14, h⟩ := bd2S h
  refine v_callVi C yv_X9_part0 m_1269 (hrec_part0 e14) (Sub.whole hD _ _) ⟨_, _, _, _, _, wd_at sr_0, rfl⟩ (As := [.int a1]) rfl rfl (Nat.le_of_ble_eq_true rfl) hrR_part0 dX9_term_39 rfl ?_
  refine v_if_ne C dX9_term_42 (tgt := 47) (by decide) rfl (fun c17 => ?_) (fun c17 => ?_)
  · have h := ifn c17 h
    refine v_aload_n C dX9_term_47 rfl rfl 1 rfl ?_
    refine v_iconst C dX9_term_48 rfl ic_2 ?_
    refine v_iload_n C dX9_term_49 rfl rfl 0 rfl ?_
    obtain ⟨K19, e18, h⟩ := bdS h
    refine v_callVv C yv_X9_step m_1273 (c_X9_step e18) (Sub.whole hD _ _) ⟨_, _, _, _, _, wd_at sr_0, rfl⟩ (As := [.int 2, .int v11]) rfl rfl (Nat.le_of_ble_eq_true rfl) ⟨Nat.le_trans (Nat.le_of_ble_eq_true rfl) hf0, Nat.le_trans (Nat.le_of_ble_eq_true rfl) hl0⟩ dX9_term_50 rfl ?_
    refine v_goto C dX9_term_53 (tgt := 10) (by decide) ?_
    refine v_sub [1, 2] rfl ?_
    exact hk10 h
  · have h := ifp c17 h
    refine v_iconst C dX9_term_45 rfl ic_0 ?_
    obtain rfl := Option.some.inj h
    exact RET _ _ dX9_term_46 (Or.inl rfl)
def F_X9_term_10 (rec_part0 : Int32 → Mem → Option (Int32 × Mem)) (k10 : Int32 → Mem → Option (Int32 × Mem)) (a1 : Int32) (K : Mem) : Option (Int32 × Mem) :=
  bd (C_X9_isSign K 42) fun r6 =>
  if r6 = 0 then (
    bd (C_X9_isSign K 47) fun r9 =>
    if r9 = 0 then (
      some (1, K)
    ) else (
      F_X9_term_28 rec_part0 k10 a1 K
    )
  ) else (
    F_X9_term_28 rec_part0 k10 a1 K
  )
def L_X9_term_10 (rec_part0 : Int32 → Mem → Option (Int32 × Mem)) : Nat → Int32 → Mem → Option (Int32 × Mem)
  | 0, _, _ => none
  | n + 1, a1, K => F_X9_term_10 rec_part0 (fun a1 K => L_X9_term_10 rec_part0 n a1 K) a1 K
set_option maxRecDepth 100000 in
set_option maxHeartbeats 4000000 in
theorem wF_X9_term_10 {G : Ctx} {ad : Nat → Nat} {fr lo fd ld : Nat} {rec_part0 : Int32 → Mem → Option (Int32 × Mem)} {k10 : Int32 → Mem → Option (Int32 × Mem)} (C : Cx G RX9 cX9_term 3 fr lo) (hD : ∀ K, va_D (gA G) (wd (gC G) ad K 0 shsR)) {res : (Int32 × Mem)} (RET : RZ G cX9_term 3 (wd (gC G) ad res.2 0 shsR) res.1) (hrec_part0 : ∀ {z0 : Int32} {K : Mem} {r : Int32} {K' : Mem}, rec_part0 z0 K = some (r, K') → MI (gl G) (gD G) (gC G) (gX G) yX9_part0 cX9_part0 2 (some .boolean) fd ld [.ref (ad 0), .int z0] (wd (gC G) ad K 0 shsR) (wd (gC G) ad K' 0 shsR) r) (hrR_part0 : fd + 1 ≤ fr ∧ 8 + (2 + 11) + ld ≤ lo) (hf0 : 3 ≤ fr) (hl0 : 68 ≤ lo) (hk10 : ∀ {a1 : Int32} {K : Mem} , k10 a1 K = some res → V G 3 (wd (gC G) ad K 0 shsR) 10 [(0, .ref (ad 0)), (1, .int a1)] []) {a1 : Int32} {K : Mem} (h : F_X9_term_10 rec_part0 k10 a1 K = some res) : V G 3 (wd (gC G) ad K 0 shsR) 10 [(0, .ref (ad 0)), (1, .int a1)] [] := by
  unfold F_X9_term_10 at h
  refine v_aload_n C dX9_term_10 rfl rfl 0 rfl ?_
  refine v_bipush C dX9_term_11 rfl bi_42 ?_
  obtain ⟨r6, e5, h⟩ := bdS h
  refine v_callVi C yv_X9_isSign m_1280 (c_X9_isSign e5) (Sub.whole hD _ _) ⟨_, _, _, _, _, wd_at sr_0, rfl⟩ (As := [.int 42]) rfl rfl (Nat.le_of_ble_eq_true rfl) ⟨Nat.le_trans (Nat.le_of_ble_eq_true rfl) hf0, Nat.le_trans (Nat.le_of_ble_eq_true rfl) hl0⟩ dX9_term_13 rfl ?_
  refine v_if_ne C dX9_term_16 (tgt := 28) (by decide) rfl (fun c7 => ?_) (fun c7 => ?_)
  · have h := ifn c7 h
    exact wF_X9_term_28 C hD RET hrec_part0 hrR_part0 hf0 hl0 hk10 h
  · have h := ifp c7 h
    refine v_aload_n C dX9_term_19 rfl rfl 0 rfl ?_
    refine v_bipush C dX9_term_20 rfl bi_47 ?_
    obtain ⟨r9, e8, h⟩ := bdS h
    refine v_callVi C yv_X9_isSign m_1280 (c_X9_isSign e8) (Sub.whole hD _ _) ⟨_, _, _, _, _, wd_at sr_0, rfl⟩ (As := [.int 47]) rfl rfl (Nat.le_of_ble_eq_true rfl) ⟨Nat.le_trans (Nat.le_of_ble_eq_true rfl) hf0, Nat.le_trans (Nat.le_of_ble_eq_true rfl) hl0⟩ dX9_term_22 rfl ?_
    refine v_if_eq C dX9_term_25 (tgt := 56) (by decide) rfl (fun c10 => ?_) (fun c10 => ?_)
    · have h := ifp c10 h
      refine v_iconst C dX9_term_56 rfl ic_1 ?_
      obtain rfl := Option.some.inj h
      exact RET _ _ dX9_term_57 (Or.inr rfl)
    · have h := ifn c10 h
      exact wF_X9_term_28 C hD RET hrec_part0 hrR_part0 hf0 hl0 hk10 h
theorem wL_X9_term_10 {G : Ctx} {ad : Nat → Nat} {fr lo fd ld : Nat} {rec_part0 : Int32 → Mem → Option (Int32 × Mem)} (C : Cx G RX9 cX9_term 3 fr lo) (hD : ∀ K, va_D (gA G) (wd (gC G) ad K 0 shsR)) {res : (Int32 × Mem)} (RET : RZ G cX9_term 3 (wd (gC G) ad res.2 0 shsR) res.1) (hrec_part0 : ∀ {z0 : Int32} {K : Mem} {r : Int32} {K' : Mem}, rec_part0 z0 K = some (r, K') → MI (gl G) (gD G) (gC G) (gX G) yX9_part0 cX9_part0 2 (some .boolean) fd ld [.ref (ad 0), .int z0] (wd (gC G) ad K 0 shsR) (wd (gC G) ad K' 0 shsR) r) (hrR_part0 : fd + 1 ≤ fr ∧ 8 + (2 + 11) + ld ≤ lo) (hf0 : 3 ≤ fr) (hl0 : 68 ≤ lo) : ∀ (n : Nat) {a1 : Int32} {K : Mem} (h : L_X9_term_10 rec_part0 n a1 K = some res), V G 3 (wd (gC G) ad K 0 shsR) 10 [(0, .ref (ad 0)), (1, .int a1)] [] := by
  intro n
  induction n with
  | zero =>
    intro a1 K h
    cases (show (none : Option (Int32 × Mem)) = some res from h)
  | succ n ih =>
    intro a1 K h
    exact wF_X9_term_10 (k10 := fun a1 K => L_X9_term_10 rec_part0 n a1 K) C hD RET hrec_part0 hrR_part0 hf0 hl0 (fun h => ih h) h
def F_X9_term_0 (rec_part0 : Int32 → Mem → Option (Int32 × Mem)) (a1 : Int32) (K : Mem) : Option (Int32 × Mem) :=
  bd2 (rec_part0 a1 K) fun r3 K2 =>
  if r3 = 0 then (
    some (0, K2)
  ) else (
    L_X9_term_10 rec_part0 FU a1 K2
  )
set_option maxRecDepth 100000 in
set_option maxHeartbeats 4000000 in
theorem wF_X9_term_0 {G : Ctx} {ad : Nat → Nat} {fr lo fd ld : Nat} {rec_part0 : Int32 → Mem → Option (Int32 × Mem)} (C : Cx G RX9 cX9_term 3 fr lo) (hD : ∀ K, va_D (gA G) (wd (gC G) ad K 0 shsR)) {res : (Int32 × Mem)} (RET : RZ G cX9_term 3 (wd (gC G) ad res.2 0 shsR) res.1) (hrec_part0 : ∀ {z0 : Int32} {K : Mem} {r : Int32} {K' : Mem}, rec_part0 z0 K = some (r, K') → MI (gl G) (gD G) (gC G) (gX G) yX9_part0 cX9_part0 2 (some .boolean) fd ld [.ref (ad 0), .int z0] (wd (gC G) ad K 0 shsR) (wd (gC G) ad K' 0 shsR) r) (hrR_part0 : fd + 1 ≤ fr ∧ 8 + (2 + 11) + ld ≤ lo) (hf0 : 3 ≤ fr) (hl0 : 68 ≤ lo) {a1 : Int32} {K : Mem} (h : F_X9_term_0 rec_part0 a1 K = some res) : V G 3 (wd (gC G) ad K 0 shsR) 0 [(0, .ref (ad 0)), (1, .int a1)] [] := by
  unfold F_X9_term_0 at h
  refine v_aload_n C dX9_term_0 rfl rfl 0 rfl ?_
  refine v_iload_n C dX9_term_1 rfl rfl 1 rfl ?_
  obtain ⟨r3, K2, e1, h⟩ := bd2S h
  refine v_callVi C yv_X9_part0 m_1269 (hrec_part0 e1) (Sub.whole hD _ _) ⟨_, _, _, _, _, wd_at sr_0, rfl⟩ (As := [.int a1]) rfl rfl (Nat.le_of_ble_eq_true rfl) hrR_part0 dX9_term_2 rfl ?_
  refine v_if_ne C dX9_term_5 (tgt := 10) (by decide) rfl (fun c4 => ?_) (fun c4 => ?_)
  · have h := ifn c4 h
    exact wL_X9_term_10 C hD RET hrec_part0 hrR_part0 hf0 hl0 FU h
  · have h := ifp c4 h
    refine v_iconst C dX9_term_8 rfl ic_0 ?_
    obtain rfl := Option.some.inj h
    exact RET _ _ dX9_term_9 (Or.inl rfl)
def F_X9_part0_145 (rec_either : Int32 → Mem → Option (Int32 × Mem)) (rec_part0 : Int32 → Mem → Option (Int32 × Mem)) (a1 : Int32) (K : Mem) : Option (Int32 × Mem) :=
  bd (C_X9_isSign K 40) fun r32 =>
  if r32 = 0 then (
    some (0, K)
  ) else (
    if (K 0 22) = 8 then (
      some (0, K)
    ) else (
      nm (up K 0 22 ((K 0 22) + 1)) fun K35 =>
      bd (C_X9_nextToken K35) fun K37 =>
      bd2 (rec_either a1 K37) fun r40 K39 =>
      if r40 = 0 then (
        some (0, K39)
      ) else (
        bd (C_X9_isSign K39 41) fun r43 =>
        if r43 = 0 then (
          some (0, K39)
        ) else (
          nm (up K39 0 22 ((K39 0 22) - 1)) fun K45 =>
          bd (C_X9_nextToken K45) fun K47 =>
          some (1, K47)
        )
      )
    )
  )
set_option maxRecDepth 100000 in
set_option maxHeartbeats 4000000 in
theorem wF_X9_part0_145 {G : Ctx} {ad : Nat → Nat} {fr lo fd ld : Nat} {rec_either : Int32 → Mem → Option (Int32 × Mem)} {rec_part0 : Int32 → Mem → Option (Int32 × Mem)} (C : Cx G RX9 cX9_part0 2 fr lo) (hD : ∀ K, va_D (gA G) (wd (gC G) ad K 0 shsR)) {res : (Int32 × Mem)} (RET : RZ G cX9_part0 2 (wd (gC G) ad res.2 0 shsR) res.1) (hrec_either : ∀ {z0 : Int32} {K : Mem} {r : Int32} {K' : Mem}, rec_either z0 K = some (r, K') → MI (gl G) (gD G) (gC G) (gX G) yX9_either cX9_either 2 (some .boolean) fd ld [.ref (ad 0), .int z0] (wd (gC G) ad K 0 shsR) (wd (gC G) ad K' 0 shsR) r) (hrR_either : fd + 1 ≤ fr ∧ 8 + (2 + 11) + ld ≤ lo) (hrec_part0 : ∀ {z0 : Int32} {K : Mem} {r : Int32} {K' : Mem}, rec_part0 z0 K = some (r, K') → MI (gl G) (gD G) (gC G) (gX G) yX9_part0 cX9_part0 2 (some .boolean) fd ld [.ref (ad 0), .int z0] (wd (gC G) ad K 0 shsR) (wd (gC G) ad K' 0 shsR) r) (hrR_part0 : fd + 1 ≤ fr ∧ 8 + (2 + 11) + ld ≤ lo) (hf0 : 3 ≤ fr) (hl0 : 68 ≤ lo) {a1 : Int32} {K : Mem} (h : F_X9_part0_145 rec_either rec_part0 a1 K = some res) : V G 2 (wd (gC G) ad K 0 shsR) 145 [(0, .ref (ad 0)), (1, .int a1)] [] := by
  unfold F_X9_part0_145 at h
  refine v_aload_n C dX9_part0_145 rfl rfl 0 rfl ?_
  refine v_bipush C dX9_part0_146 rfl bi_40 ?_
  obtain ⟨r32, e31, h⟩ := bdS h
  refine v_callVi C yv_X9_isSign m_1280 (c_X9_isSign e31) (Sub.whole hD _ _) ⟨_, _, _, _, _, wd_at sr_0, rfl⟩ (As := [.int 40]) rfl rfl (Nat.le_of_ble_eq_true rfl) ⟨Nat.le_trans (Nat.le_of_ble_eq_true rfl) hf0, Nat.le_trans (Nat.le_of_ble_eq_true rfl) hl0⟩ dX9_part0_148 rfl ?_
  refine v_if_eq C dX9_part0_151 (tgt := 163) (by decide) rfl (fun c33 => ?_) (fun c33 => ?_)
  · have h := ifp c33 h
    refine v_iconst C dX9_part0_163 rfl ic_0 ?_
    obtain rfl := Option.some.inj h
    exact RET _ _ dX9_part0_164 (Or.inl rfl)
  · have h := ifn c33 h
    refine v_aload_n C dX9_part0_154 rfl rfl 0 rfl ?_
    refine v_getf C dX9_part0_155 rfl ff_X9_302 sr_0 rfl ?_
    refine v_bipush C dX9_part0_158 rfl bi_8 ?_
    refine v_icmp_ne C dX9_part0_160 (tgt := 165) (by decide) rfl (fun c34 => ?_) (fun c34 => ?_)
    · have h := ifn c34 h
      refine v_aload_n C dX9_part0_165 rfl rfl 0 rfl ?_
      refine v_dup C dX9_part0_166 rfl rfl ?_
      refine v_getf C dX9_part0_167 rfl ff_X9_302 sr_0 rfl ?_
      refine v_iconst C dX9_part0_170 rfl ic_1 ?_
      refine v_iadd C dX9_part0_171 rfl ?_
      obtain ⟨K35, eK35, h⟩ := nmS h
      refine v_putf C hD dX9_part0_172 rfl fp_X9_302 sr_0 rfl eK35 ?_
      refine v_aload_n C dX9_part0_175 rfl rfl 0 rfl ?_
      obtain ⟨K37, e36, h⟩ := bdS h
      refine v_callVv C yv_X9_nextToken m_1225 (c_X9_nextToken e36) (Sub.whole hD _ _) ⟨_, _, _, _, _, wd_at sr_0, rfl⟩ (As := []) rfl rfl (Nat.le_of_ble_eq_true rfl) ⟨Nat.le_trans (Nat.le_of_ble_eq_true rfl) hf0, Nat.le_trans (Nat.le_of_ble_eq_true rfl) hl0⟩ dX9_part0_176 rfl ?_
      refine v_aload_n C dX9_part0_179 rfl rfl 0 rfl ?_
      refine v_iload_n C dX9_part0_180 rfl rfl 1 rfl ?_
      obtain ⟨r40, K39, e38, h⟩ := bd2S h
      refine v_callVi C yv_X9_either m_1249 (hrec_either e38) (Sub.whole hD _ _) ⟨_, _, _, _, _, wd_at sr_0, rfl⟩ (As := [.int a1]) rfl rfl (Nat.le_of_ble_eq_true rfl) hrR_either dX9_part0_181 rfl ?_
      refine v_if_eq C dX9_part0_184 (tgt := 196) (by decide) rfl (fun c41 => ?_) (fun c41 => ?_)
      · have h := ifp c41 h
        refine v_iconst C dX9_part0_196 rfl ic_0 ?_
        obtain rfl := Option.some.inj h
        exact RET _ _ dX9_part0_197 (Or.inl rfl)
      · have h := ifn c41 h
        refine v_aload_n C dX9_part0_187 rfl rfl 0 rfl ?_
        refine v_bipush C dX9_part0_188 rfl bi_41 ?_
        obtain ⟨r43, e42, h⟩ := bdS h
        refine v_callVi C yv_X9_isSign m_1280 (c_X9_isSign e42) (Sub.whole hD _ _) ⟨_, _, _, _, _, wd_at sr_0, rfl⟩ (As := [.int 41]) rfl rfl (Nat.le_of_ble_eq_true rfl) ⟨Nat.le_trans (Nat.le_of_ble_eq_true rfl) hf0, Nat.le_trans (Nat.le_of_ble_eq_true rfl) hl0⟩ dX9_part0_190 rfl ?_
        refine v_if_ne C dX9_part0_193 (tgt := 198) (by decide) rfl (fun c44 => ?_) (fun c44 => ?_)
        · have h := ifn c44 h
          refine v_aload_n C dX9_part0_198 rfl rfl 0 rfl ?_
          refine v_dup C dX9_part0_199 rfl rfl ?_
          refine v_getf C dX9_part0_200 rfl ff_X9_302 sr_0 rfl ?_
          refine v_iconst C dX9_part0_203 rfl ic_1 ?_
          refine v_isub C dX9_part0_204 rfl ?_
          obtain ⟨K45, eK45, h⟩ := nmS h
          refine v_putf C hD dX9_part0_205 rfl fp_X9_302 sr_0 rfl eK45 ?_
          refine v_aload_n C dX9_part0_208 rfl rfl 0 rfl ?_
          obtain ⟨K47, e46, h⟩ := bdS h
          refine v_callVv C yv_X9_nextToken m_1225 (c_X9_nextToken e46) (Sub.whole hD _ _) ⟨_, _, _, _, _, wd_at sr_0, rfl⟩ (As := []) rfl rfl (Nat.le_of_ble_eq_true rfl) ⟨Nat.le_trans (Nat.le_of_ble_eq_true rfl) hf0, Nat.le_trans (Nat.le_of_ble_eq_true rfl) hl0⟩ dX9_part0_209 rfl ?_
          refine v_iconst C dX9_part0_212 rfl ic_1 ?_
          obtain rfl := Option.some.inj h
          exact RET _ _ dX9_part0_213 (Or.inr rfl)
        · have h := ifp c44 h
          refine v_iconst C dX9_part0_196 rfl ic_0 ?_
          obtain rfl := Option.some.inj h
          exact RET _ _ dX9_part0_197 (Or.inl rfl)
    · have h := ifp c34 h
      refine v_iconst C dX9_part0_163 rfl ic_0 ?_
      obtain rfl := Option.some.inj h
      exact RET _ _ dX9_part0_164 (Or.inl rfl)
def F_X9_part0_84 (rec_either : Int32 → Mem → Option (Int32 × Mem)) (rec_part0 : Int32 → Mem → Option (Int32 × Mem)) (a1 : Int32) (K : Mem) : Option (Int32 × Mem) :=
  bd (C_X9_isSign K 33) fun r18 =>
  if r18 = 0 then (
    F_X9_part0_145 rec_either rec_part0 a1 K
  ) else (
    if 8 ≤ (K 0 23) then (
      F_X9_part0_145 rec_either rec_part0 a1 K
    ) else (
      nm (up K 0 23 ((K 0 23) + 1)) fun K21 =>
      bd (C_X9_nextToken K21) fun K23 =>
      bd2 (rec_part0 a1 K23) fun r26 K25 =>
      if r26 = 0 then (
        some (0, K25)
      ) else (
        nm (up K25 0 23 ((K25 0 23) - 1)) fun K28 =>
        bd (C_X9_step 2 33 K28) fun K30 =>
        some (1, K30)
      )
    )
  )
set_option maxRecDepth 100000 in
set_option maxHeartbeats 4000000 in
theorem wF_X9_part0_84 {G : Ctx} {ad : Nat → Nat} {fr lo fd ld : Nat} {rec_either : Int32 → Mem → Option (Int32 × Mem)} {rec_part0 : Int32 → Mem → Option (Int32 × Mem)} (C : Cx G RX9 cX9_part0 2 fr lo) (hD : ∀ K, va_D (gA G) (wd (gC G) ad K 0 shsR)) {res : (Int32 × Mem)} (RET : RZ G cX9_part0 2 (wd (gC G) ad res.2 0 shsR) res.1) (hrec_either : ∀ {z0 : Int32} {K : Mem} {r : Int32} {K' : Mem}, rec_either z0 K = some (r, K') → MI (gl G) (gD G) (gC G) (gX G) yX9_either cX9_either 2 (some .boolean) fd ld [.ref (ad 0), .int z0] (wd (gC G) ad K 0 shsR) (wd (gC G) ad K' 0 shsR) r) (hrR_either : fd + 1 ≤ fr ∧ 8 + (2 + 11) + ld ≤ lo) (hrec_part0 : ∀ {z0 : Int32} {K : Mem} {r : Int32} {K' : Mem}, rec_part0 z0 K = some (r, K') → MI (gl G) (gD G) (gC G) (gX G) yX9_part0 cX9_part0 2 (some .boolean) fd ld [.ref (ad 0), .int z0] (wd (gC G) ad K 0 shsR) (wd (gC G) ad K' 0 shsR) r) (hrR_part0 : fd + 1 ≤ fr ∧ 8 + (2 + 11) + ld ≤ lo) (hf0 : 3 ≤ fr) (hl0 : 68 ≤ lo) {a1 : Int32} {K : Mem} (h : F_X9_part0_84 rec_either rec_part0 a1 K = some res) : V G 2 (wd (gC G) ad K 0 shsR) 84 [(0, .ref (ad 0)), (1, .int a1)] [] := by
  unfold F_X9_part0_84 at h
  refine v_aload_n C dX9_part0_84 rfl rfl 0 rfl ?_
  refine v_bipush C dX9_part0_85 rfl bi_33 ?_
  obtain ⟨r18, e17, h⟩ := bdS h
  refine v_callVi C yv_X9_isSign m_1280 (c_X9_isSign e17) (Sub.whole hD _ _) ⟨_, _, _, _, _, wd_at sr_0, rfl⟩ (As := [.int 33]) rfl rfl (Nat.le_of_ble_eq_true rfl) ⟨Nat.le_trans (Nat.le_of_ble_eq_true rfl) hf0, Nat.le_trans (Nat.le_of_ble_eq_true rfl) hl0⟩ dX9_part0_87 rfl ?_
  refine v_if_eq C dX9_part0_90 (tgt := 145) (by decide) rfl (fun c19 => ?_) (fun c19 => ?_)
  · have h := ifp c19 h
    exact wF_X9_part0_145 C hD RET hrec_either hrR_either hrec_part0 hrR_part0 hf0 hl0 h
  · have h := ifn c19 h
    refine v_aload_n C dX9_part0_93 rfl rfl 0 rfl ?_
    refine v_getf C dX9_part0_94 rfl ff_X9_299 sr_0 rfl ?_
    refine v_bipush C dX9_part0_97 rfl bi_8 ?_
    refine v_icmp_ge C dX9_part0_99 (tgt := 145) (by decide) rfl (fun c20 => ?_) (fun c20 => ?_)
    · have h := ifp c20 h
      exact wF_X9_part0_145 C hD RET hrec_either hrR_either hrec_part0 hrR_part0 hf0 hl0 h
    · have h := ifn c20 h
      refine v_aload_n C dX9_part0_102 rfl rfl 0 rfl ?_
      refine v_dup C dX9_part0_103 rfl rfl ?_
      refine v_getf C dX9_part0_104 rfl ff_X9_299 sr_0 rfl ?_
      refine v_iconst C dX9_part0_107 rfl ic_1 ?_
      refine v_iadd C dX9_part0_108 rfl ?_
      obtain ⟨K21, eK21, h⟩ := nmS h
      refine v_putf C hD dX9_part0_109 rfl fp_X9_299 sr_0 rfl eK21 ?_
      refine v_aload_n C dX9_part0_112 rfl rfl 0 rfl ?_
      obtain ⟨K23, e22, h⟩ := bdS h
      refine v_callVv C yv_X9_nextToken m_1225 (c_X9_nextToken e22) (Sub.whole hD _ _) ⟨_, _, _, _, _, wd_at sr_0, rfl⟩ (As := []) rfl rfl (Nat.le_of_ble_eq_true rfl) ⟨Nat.le_trans (Nat.le_of_ble_eq_true rfl) hf0, Nat.le_trans (Nat.le_of_ble_eq_true rfl) hl0⟩ dX9_part0_113 rfl ?_
      refine v_aload_n C dX9_part0_116 rfl rfl 0 rfl ?_
      refine v_iload_n C dX9_part0_117 rfl rfl 1 rfl ?_
      obtain ⟨r26, K25, e24, h⟩ := bd2S h
      refine v_callVi C yv_X9_part0 m_1269 (hrec_part0 e24) (Sub.whole hD _ _) ⟨_, _, _, _, _, wd_at sr_0, rfl⟩ (As := [.int a1]) rfl rfl (Nat.le_of_ble_eq_true rfl) hrR_part0 dX9_part0_118 rfl ?_
      refine v_if_ne C dX9_part0_121 (tgt := 126) (by decide) rfl (fun c27 => ?_) (fun c27 => ?_)
      · have h := ifn c27 h
        refine v_aload_n C dX9_part0_126 rfl rfl 0 rfl ?_
        refine v_dup C dX9_part0_127 rfl rfl ?_
        refine v_getf C dX9_part0_128 rfl ff_X9_299 sr_0 rfl ?_
        refine v_iconst C dX9_part0_131 rfl ic_1 ?_
        refine v_isub C dX9_part0_132 rfl ?_
        obtain ⟨K28, eK28, h⟩ := nmS h
        refine v_putf C hD dX9_part0_133 rfl fp_X9_299 sr_0 rfl eK28 ?_
        refine v_aload_n C dX9_part0_136 rfl rfl 0 rfl ?_
        refine v_iconst C dX9_part0_137 rfl ic_2 ?_
        refine v_bipush C dX9_part0_138 rfl bi_33 ?_
        obtain ⟨K30, e29, h⟩ := bdS h
        refine v_callVv C yv_X9_step m_1273 (c_X9_step e29) (Sub.whole hD _ _) ⟨_, _, _, _, _, wd_at sr_0, rfl⟩ (As := [.int 2, .int 33]) rfl rfl (Nat.le_of_ble_eq_true rfl) ⟨Nat.le_trans (Nat.le_of_ble_eq_true rfl) hf0, Nat.le_trans (Nat.le_of_ble_eq_true rfl) hl0⟩ dX9_part0_140 rfl ?_
        refine v_iconst C dX9_part0_143 rfl ic_1 ?_
        obtain rfl := Option.some.inj h
        exact RET _ _ dX9_part0_144 (Or.inr rfl)
      · have h := ifp c27 h
        refine v_iconst C dX9_part0_124 rfl ic_0 ?_
        obtain rfl := Option.some.inj h
        exact RET _ _ dX9_part0_125 (Or.inl rfl)
def F_X9_part0_0 (rec_either : Int32 → Mem → Option (Int32 × Mem)) (rec_part0 : Int32 → Mem → Option (Int32 × Mem)) (a1 : Int32) (K : Mem) : Option (Int32 × Mem) :=
  if (K 0 19) = 2 then (
    bd (C_X9_step 0 (K 0 20) K) fun K13 =>
    nm (up K13 0 26 ((K13 0 26) + 1)) fun K14 =>
    bd (C_X9_nextToken K14) fun K16 =>
    some (1, K16)
  ) else (
    if (K 0 19) = 1 then (
      if (K 0 21) = 0 then (
        F_X9_part0_84 rec_either rec_part0 a1 K
      ) else (
        bd (C_X9_isName a1 (K 0 21)) fun r5 =>
        if r5 = 0 then (
          F_X9_part0_84 rec_either rec_part0 a1 K
        ) else (
          bd (C_X9_step 1 (K 0 21) K) fun K8 =>
          nm (up K8 0 26 ((K8 0 26) + 1)) fun K9 =>
          bd (C_X9_nextToken K9) fun K11 =>
          some (1, K11)
        )
      )
    ) else (
      F_X9_part0_84 rec_either rec_part0 a1 K
    )
  )
set_option maxRecDepth 100000 in
set_option maxHeartbeats 4000000 in
theorem wF_X9_part0_0 {G : Ctx} {ad : Nat → Nat} {fr lo fd ld : Nat} {rec_either : Int32 → Mem → Option (Int32 × Mem)} {rec_part0 : Int32 → Mem → Option (Int32 × Mem)} (C : Cx G RX9 cX9_part0 2 fr lo) (hD : ∀ K, va_D (gA G) (wd (gC G) ad K 0 shsR)) {res : (Int32 × Mem)} (RET : RZ G cX9_part0 2 (wd (gC G) ad res.2 0 shsR) res.1) (hrec_either : ∀ {z0 : Int32} {K : Mem} {r : Int32} {K' : Mem}, rec_either z0 K = some (r, K') → MI (gl G) (gD G) (gC G) (gX G) yX9_either cX9_either 2 (some .boolean) fd ld [.ref (ad 0), .int z0] (wd (gC G) ad K 0 shsR) (wd (gC G) ad K' 0 shsR) r) (hrR_either : fd + 1 ≤ fr ∧ 8 + (2 + 11) + ld ≤ lo) (hrec_part0 : ∀ {z0 : Int32} {K : Mem} {r : Int32} {K' : Mem}, rec_part0 z0 K = some (r, K') → MI (gl G) (gD G) (gC G) (gX G) yX9_part0 cX9_part0 2 (some .boolean) fd ld [.ref (ad 0), .int z0] (wd (gC G) ad K 0 shsR) (wd (gC G) ad K' 0 shsR) r) (hrR_part0 : fd + 1 ≤ fr ∧ 8 + (2 + 11) + ld ≤ lo) (hf0 : 3 ≤ fr) (hl0 : 68 ≤ lo) {a1 : Int32} {K : Mem} (h : F_X9_part0_0 rec_either rec_part0 a1 K = some res) : V G 2 (wd (gC G) ad K 0 shsR) 0 [(0, .ref (ad 0)), (1, .int a1)] [] := by
  unfold F_X9_part0_0 at h
  refine v_aload_n C dX9_part0_0 rfl rfl 0 rfl ?_
  refine v_getf C dX9_part0_1 rfl ff_X9_241 sr_0 rfl ?_
  refine v_iconst C dX9_part0_4 rfl ic_2 ?_
  refine v_icmp_ne C dX9_part0_5 (tgt := 33) (by decide) rfl (fun c1 => ?_) (fun c1 => ?_)
  · have h := ifn c1 h
    refine v_aload_n C dX9_part0_33 rfl rfl 0 rfl ?_
    refine v_getf C dX9_part0_34 rfl ff_X9_241 sr_0 rfl ?_
    refine v_iconst C dX9_part0_37 rfl ic_1 ?_
    refine v_icmp_ne C dX9_part0_38 (tgt := 84) (by decide) rfl (fun c2 => ?_) (fun c2 => ?_)
    · have h := ifn c2 h
      exact wF_X9_part0_84 C hD RET hrec_either hrR_either hrec_part0 hrR_part0 hf0 hl0 h
    · have h := ifp c2 h
      refine v_aload_n C dX9_part0_41 rfl rfl 0 rfl ?_
      refine v_getf C dX9_part0_42 rfl ff_X9_250 sr_0 rfl ?_
      refine v_if_eq C dX9_part0_45 (tgt := 84) (by decide) rfl (fun c3 => ?_) (fun c3 => ?_)
      · have h := ifp c3 h
        exact wF_X9_part0_84 C hD RET hrec_either hrR_either hrec_part0 hrR_part0 hf0 hl0 h
      · have h := ifn c3 h
        refine v_iload_n C dX9_part0_48 rfl rfl 1 rfl ?_
        refine v_aload_n C dX9_part0_49 rfl rfl 0 rfl ?_
        refine v_getf C dX9_part0_50 rfl ff_X9_250 sr_0 rfl ?_
        obtain ⟨r5, e4, h⟩ := bdS h
        refine v_callSi C ys_X9_isName m_1277 (c_X9_isName e4) (Sub.whole hD _ _) (As := [.int a1, .int (K 0 21)]) rfl rfl (Nat.le_of_ble_eq_true rfl) ⟨Nat.le_trans (Nat.le_of_ble_eq_true rfl) hf0, Nat.le_trans (Nat.le_of_ble_eq_true rfl) hl0⟩ dX9_part0_53 rfl ?_
        refine v_if_eq C dX9_part0_56 (tgt := 84) (by decide) rfl (fun c6 => ?_) (fun c6 => ?_)
        · have h := ifp c6 h
          exact wF_X9_part0_84 C hD RET hrec_either hrR_either hrec_part0 hrR_part0 hf0 hl0 h
        · have h := ifn c6 h
          refine v_aload_n C dX9_part0_59 rfl rfl 0 rfl ?_
          refine v_iconst C dX9_part0_60 rfl ic_1 ?_
          refine v_aload_n C dX9_part0_61 rfl rfl 0 rfl ?_
          refine v_getf C dX9_part0_62 rfl ff_X9_250 sr_0 rfl ?_
          obtain ⟨K8, e7, h⟩ := bdS h
          refine v_callVv C yv_X9_step m_1273 (c_X9_step e7) (Sub.whole hD _ _) ⟨_, _, _, _, _, wd_at sr_0, rfl⟩ (As := [.int 1, .int (K 0 21)]) rfl rfl (Nat.le_of_ble_eq_true rfl) ⟨Nat.le_trans (Nat.le_of_ble_eq_true rfl) hf0, Nat.le_trans (Nat.le_of_ble_eq_true rfl) hl0⟩ dX9_part0_65 rfl ?_
          refine v_aload_n C dX9_part0_68 rfl rfl 0 rfl ?_
          refine v_dup C dX9_part0_69 rfl rfl ?_
          refine v_getf C dX9_part0_70 rfl ff_X9_293 sr_0 rfl ?_
          refine v_iconst C dX9_part0_73 rfl ic_1 ?_
          refine v_iadd C dX9_part0_74 rfl ?_
          obtain ⟨K9, eK9, h⟩ := nmS h
          refine v_putf C hD dX9_part0_75 rfl fp_X9_293 sr_0 rfl eK9 ?_
          refine v_aload_n C dX9_part0_78 rfl rfl 0 rfl ?_
          obtain ⟨K11, e10, h⟩ := bdS h
          refine v_callVv C yv_X9_nextToken m_1225 (c_X9_nextToken e10) (Sub.whole hD _ _) ⟨_, _, _, _, _, wd_at sr_0, rfl⟩ (As := []) rfl rfl (Nat.le_of_ble_eq_true rfl) ⟨Nat.le_trans (Nat.le_of_ble_eq_true rfl) hf0, Nat.le_trans (Nat.le_of_ble_eq_true rfl) hl0⟩ dX9_part0_79 rfl ?_
          refine v_iconst C dX9_part0_82 rfl ic_1 ?_
          obtain rfl := Option.some.inj h
          exact RET _ _ dX9_part0_83 (Or.inr rfl)
  · have h := ifp c1 h
    refine v_aload_n C dX9_part0_8 rfl rfl 0 rfl ?_
    refine v_iconst C dX9_part0_9 rfl ic_0 ?_
    refine v_aload_n C dX9_part0_10 rfl rfl 0 rfl ?_
    refine v_getf C dX9_part0_11 rfl ff_X9_256 sr_0 rfl ?_
    obtain ⟨K13, e12, h⟩ := bdS h
    refine v_callVv C yv_X9_step m_1273 (c_X9_step e12) (Sub.whole hD _ _) ⟨_, _, _, _, _, wd_at sr_0, rfl⟩ (As := [.int 0, .int (K 0 20)]) rfl rfl (Nat.le_of_ble_eq_true rfl) ⟨Nat.le_trans (Nat.le_of_ble_eq_true rfl) hf0, Nat.le_trans (Nat.le_of_ble_eq_true rfl) hl0⟩ dX9_part0_14 rfl ?_
    refine v_aload_n C dX9_part0_17 rfl rfl 0 rfl ?_
    refine v_dup C dX9_part0_18 rfl rfl ?_
    refine v_getf C dX9_part0_19 rfl ff_X9_293 sr_0 rfl ?_
    refine v_iconst C dX9_part0_22 rfl ic_1 ?_
    refine v_iadd C dX9_part0_23 rfl ?_
    obtain ⟨K14, eK14, h⟩ := nmS h
    refine v_putf C hD dX9_part0_24 rfl fp_X9_293 sr_0 rfl eK14 ?_
    refine v_aload_n C dX9_part0_27 rfl rfl 0 rfl ?_
    obtain ⟨K16, e15, h⟩ := bdS h
    refine v_callVv C yv_X9_nextToken m_1225 (c_X9_nextToken e15) (Sub.whole hD _ _) ⟨_, _, _, _, _, wd_at sr_0, rfl⟩ (As := []) rfl rfl (Nat.le_of_ble_eq_true rfl) ⟨Nat.le_trans (Nat.le_of_ble_eq_true rfl) hf0, Nat.le_trans (Nat.le_of_ble_eq_true rfl) hl0⟩ dX9_part0_28 rfl ?_
    refine v_iconst C dX9_part0_31 rfl ic_1 ?_
    obtain rfl := Option.some.inj h
    exact RET _ _ dX9_part0_32 (Or.inr rfl)
def recR : Nat → Nat → Int32 → Mem → Option (Int32 × Mem)
  | 0, _, _, _ => none
  | n + 1, w, a, K => if w = 0 then F_X9_either_0 (fun a K => recR n 1 a K) a K else if w = 1 then F_X9_both_0 (fun a K => recR n 2 a K) a K else if w = 2 then F_X9_test_0 (fun a K => recR n 3 a K) a K else if w = 3 then F_X9_sum_0 (fun a K => recR n 4 a K) a K else if w = 4 then F_X9_term_0 (fun a K => recR n 5 a K) a K else F_X9_part0_0 (fun a K => recR n 0 a K) (fun a K => recR n 5 a K) a K
set_option maxRecDepth 100000 in
theorem c_recR {l : Launch} {D : va_G} {cA : FieldType → ClassId} {X : Ex} {ad : Nat → Nat} : ∀ n : Nat, (∀ {a : Int32} {K : Mem} {r : Int32} {K' : Mem}, recR n 0 a K = some (r, K') → MI l D cA X yX9_either cX9_either 2 (some .boolean) (n + 3) (n * 22 + 68) [.ref (ad 0), .int a] (wd cA ad K 0 shsR) (wd cA ad K' 0 shsR) r) ∧ (∀ {a : Int32} {K : Mem} {r : Int32} {K' : Mem}, recR n 1 a K = some (r, K') → MI l D cA X yX9_both cX9_both 2 (some .boolean) (n + 3) (n * 22 + 68) [.ref (ad 0), .int a] (wd cA ad K 0 shsR) (wd cA ad K' 0 shsR) r) ∧ (∀ {a : Int32} {K : Mem} {r : Int32} {K' : Mem}, recR n 2 a K = some (r, K') → MI l D cA X yX9_test cX9_test 3 (some .boolean) (n + 3) (n * 22 + 68) [.ref (ad 0), .int a] (wd cA ad K 0 shsR) (wd cA ad K' 0 shsR) r) ∧ (∀ {a : Int32} {K : Mem} {r : Int32} {K' : Mem}, recR n 3 a K = some (r, K') → MI l D cA X yX9_sum cX9_sum 3 (some .boolean) (n + 3) (n * 22 + 68) [.ref (ad 0), .int a] (wd cA ad K 0 shsR) (wd cA ad K' 0 shsR) r) ∧ (∀ {a : Int32} {K : Mem} {r : Int32} {K' : Mem}, recR n 4 a K = some (r, K') → MI l D cA X yX9_term cX9_term 3 (some .boolean) (n + 3) (n * 22 + 68) [.ref (ad 0), .int a] (wd cA ad K 0 shsR) (wd cA ad K' 0 shsR) r) ∧ (∀ {a : Int32} {K : Mem} {r : Int32} {K' : Mem}, recR n 5 a K = some (r, K') → MI l D cA X yX9_part0 cX9_part0 2 (some .boolean) (n + 3) (n * 22 + 68) [.ref (ad 0), .int a] (wd cA ad K 0 shsR) (wd cA ad K' 0 shsR) r) := by
  intro n
  induction n with
  | zero =>
    refine ⟨?_, ?_, ?_, ?_, ?_, ?_⟩
    · intro a K r K' h
      cases (show (none : Option (Int32 × Mem)) = some (r, K') from h)
    · intro a K r K' h
      cases (show (none : Option (Int32 × Mem)) = some (r, K') from h)
    · intro a K r K' h
      cases (show (none : Option (Int32 × Mem)) = some (r, K') from h)
    · intro a K r K' h
      cases (show (none : Option (Int32 × Mem)) = some (r, K') from h)
    · intro a K r K' h
      cases (show (none : Option (Int32 × Mem)) = some (r, K') from h)
    · intro a K r K' h
      cases (show (none : Option (Int32 × Mem)) = some (r, K') from h)
  | succ n ih =>
    obtain ⟨i0, i1, i2, i3, i4, i5⟩ := ih
    refine ⟨?_, ?_, ?_, ?_, ?_, ?_⟩
    · intro a K r K' h
      refine mZ_of (by decide +kernel) (Nat.le_of_ble_eq_true rfl) (fun G h1 h2 h3 h4 C hD RET => ?_)
      subst h1 h2 h3 h4
      exact wF_X9_either_0 (rec_both := (fun a K => recR n 1 a K)) C (fun K' => wd_D K' hD) RET (fun h => i1 h) ⟨by omega, by omega⟩ (by omega) (by omega) h
    · intro a K r K' h
      refine mZ_of (by decide +kernel) (Nat.le_of_ble_eq_true rfl) (fun G h1 h2 h3 h4 C hD RET => ?_)
      subst h1 h2 h3 h4
      exact wF_X9_both_0 (rec_test := (fun a K => recR n 2 a K)) C (fun K' => wd_D K' hD) RET (fun h => i2 h) ⟨by omega, by omega⟩ (by omega) (by omega) h
    · intro a K r K' h
      refine mZ_of (by decide +kernel) (Nat.le_of_ble_eq_true rfl) (fun G h1 h2 h3 h4 C hD RET => ?_)
      subst h1 h2 h3 h4
      exact wF_X9_test_0 (rec_sum := (fun a K => recR n 3 a K)) C (fun K' => wd_D K' hD) RET (fun h => i3 h) ⟨by omega, by omega⟩ (by omega) (by omega) h
    · intro a K r K' h
      refine mZ_of (by decide +kernel) (Nat.le_of_ble_eq_true rfl) (fun G h1 h2 h3 h4 C hD RET => ?_)
      subst h1 h2 h3 h4
      exact wF_X9_sum_0 (rec_term := (fun a K => recR n 4 a K)) C (fun K' => wd_D K' hD) RET (fun h => i4 h) ⟨by omega, by omega⟩ (by omega) (by omega) h
    · intro a K r K' h
      refine mZ_of (by decide +kernel) (Nat.le_of_ble_eq_true rfl) (fun G h1 h2 h3 h4 C hD RET => ?_)
      subst h1 h2 h3 h4
      exact wF_X9_term_0 (rec_part0 := (fun a K => recR n 5 a K)) C (fun K' => wd_D K' hD) RET (fun h => i5 h) ⟨by omega, by omega⟩ (by omega) (by omega) h
    · intro a K r K' h
      refine mZ_of (by decide +kernel) (Nat.le_of_ble_eq_true rfl) (fun G h1 h2 h3 h4 C hD RET => ?_)
      subst h1 h2 h3 h4
      exact wF_X9_part0_0 (rec_either := (fun a K => recR n 0 a K)) (rec_part0 := (fun a K => recR n 5 a K)) C (fun K' => wd_D K' hD) RET (fun h => i0 h) ⟨by omega, by omega⟩ (fun h => i5 h) ⟨by omega, by omega⟩ (by omega) (by omega) h
def C_X9_either (a : Int32) (K : Mem) : Option (Int32 × Mem) := recR 128 0 a K
theorem c_X9_either {l : Launch} {D : va_G} {cA : FieldType → ClassId} {X : Ex} {ad : Nat → Nat} {a : Int32} {K : Mem} {r : Int32} {K' : Mem} (h : C_X9_either a K = some (r, K')) : MI l D cA X yX9_either cX9_either 2 (some .boolean) 131 2884 [.ref (ad 0), .int a] (wd cA ad K 0 shsR) (wd cA ad K' 0 shsR) r := (c_recR 128).1 h
def C_X9_both (a : Int32) (K : Mem) : Option (Int32 × Mem) := recR 128 1 a K
theorem c_X9_both {l : Launch} {D : va_G} {cA : FieldType → ClassId} {X : Ex} {ad : Nat → Nat} {a : Int32} {K : Mem} {r : Int32} {K' : Mem} (h : C_X9_both a K = some (r, K')) : MI l D cA X yX9_both cX9_both 2 (some .boolean) 131 2884 [.ref (ad 0), .int a] (wd cA ad K 0 shsR) (wd cA ad K' 0 shsR) r := (c_recR 128).2.1 h
def C_X9_test (a : Int32) (K : Mem) : Option (Int32 × Mem) := recR 128 2 a K
theorem c_X9_test {l : Launch} {D : va_G} {cA : FieldType → ClassId} {X : Ex} {ad : Nat → Nat} {a : Int32} {K : Mem} {r : Int32} {K' : Mem} (h : C_X9_test a K = some (r, K')) : MI l D cA X yX9_test cX9_test 3 (some .boolean) 131 2884 [.ref (ad 0), .int a] (wd cA ad K 0 shsR) (wd cA ad K' 0 shsR) r := (c_recR 128).2.2.1 h
def C_X9_sum (a : Int32) (K : Mem) : Option (Int32 × Mem) := recR 128 3 a K
theorem c_X9_sum {l : Launch} {D : va_G} {cA : FieldType → ClassId} {X : Ex} {ad : Nat → Nat} {a : Int32} {K : Mem} {r : Int32} {K' : Mem} (h : C_X9_sum a K = some (r, K')) : MI l D cA X yX9_sum cX9_sum 3 (some .boolean) 131 2884 [.ref (ad 0), .int a] (wd cA ad K 0 shsR) (wd cA ad K' 0 shsR) r := (c_recR 128).2.2.2.1 h
def C_X9_term (a : Int32) (K : Mem) : Option (Int32 × Mem) := recR 128 4 a K
theorem c_X9_term {l : Launch} {D : va_G} {cA : FieldType → ClassId} {X : Ex} {ad : Nat → Nat} {a : Int32} {K : Mem} {r : Int32} {K' : Mem} (h : C_X9_term a K = some (r, K')) : MI l D cA X yX9_term cX9_term 3 (some .boolean) 131 2884 [.ref (ad 0), .int a] (wd cA ad K 0 shsR) (wd cA ad K' 0 shsR) r := (c_recR 128).2.2.2.2.1 h
def C_X9_part0 (a : Int32) (K : Mem) : Option (Int32 × Mem) := recR 128 5 a K
theorem c_X9_part0 {l : Launch} {D : va_G} {cA : FieldType → ClassId} {X : Ex} {ad : Nat → Nat} {a : Int32} {K : Mem} {r : Int32} {K' : Mem} (h : C_X9_part0 a K = some (r, K')) : MI l D cA X yX9_part0 cX9_part0 2 (some .boolean) 131 2884 [.ref (ad 0), .int a] (wd cA ad K 0 shsR) (wd cA ad K' 0 shsR) r := (c_recR 128).2.2.2.2.2 h
def F_X9_parse_110 (a1 : Int32) (t0 : Int32) (K : Mem) : Option (Int32 × Mem) :=
  nm (up K 0 16 0) fun K28 =>
  if t0 = 0 then (
    some ((-1), K28)
  ) else (
    some (a1, K28)
  )
set_option maxRecDepth 100000 in
set_option maxHeartbeats 4000000 in
theorem wF_X9_parse_110 {G : Ctx} {ad : Nat → Nat} (C : Cx G RX9 cX9_parse 3 132 2905) (hD : ∀ K, va_D (gA G) (wd (gC G) ad K 0 shsR)) {res : (Int32 × Mem)} (RET : RI G cX9_parse 3 (wd (gC G) ad res.2 0 shsR) res.1) {a1 : Int32} {t0 : Int32} {K : Mem} (h : F_X9_parse_110 a1 t0 K = some res) : V G 3 (wd (gC G) ad K 0 shsR) 110 [(0, .ref (ad 0)), (1, .int a1)] [.int t0] := by
  unfold F_X9_parse_110 at h
  refine v_istore_n C dX9_parse_110 rfl rfl (by decide) (L' := [(2, .int t0), (0, .ref (ad 0)), (1, .int a1)]) rfl ?_
  refine v_aload_n C dX9_parse_111 rfl rfl 1 rfl ?_
  refine v_iconst C dX9_parse_112 rfl ic_0 ?_
  obtain ⟨K28, eK28, h⟩ := nmS h
  refine v_putf C hD dX9_parse_113 rfl fp_X9_226 sr_0 rfl eK28 ?_
  refine v_iload_n C dX9_parse_116 rfl rfl 0 rfl ?_
  refine v_if_eq C dX9_parse_117 (tgt := 124) (by decide) rfl (fun c29 => ?_) (fun c29 => ?_)
  · have h := ifp c29 h
    refine v_iconst C dX9_parse_124 rfl ic_n1 ?_
    obtain rfl := Option.some.inj h
    exact RET _ _ dX9_parse_125
  · have h := ifn c29 h
    refine v_iload_n C dX9_parse_120 rfl rfl 2 rfl ?_
    refine v_goto C dX9_parse_121 (tgt := 125) (by decide) ?_
    obtain rfl := Option.some.inj h
    exact RET _ _ dX9_parse_125
def F_X9_parse_81 (a1 : Int32) (t0 : Int32) (K : Mem) : Option (Int32 × Mem) :=
  if t0 = 0 then (
    nm (up K 0 16 0) fun K19 =>
    if t0 = 0 then (
      some ((-1), K19)
    ) else (
      some (a1, K19)
    )
  ) else (
    bd (C_X9_nextToken K) fun K22 =>
    bd2 (C_X9_either a1 K22) fun r25 K24 =>
    if r25 = 0 then (
      F_X9_parse_110 a1 0 K24
    ) else (
      if (K24 0 19) = 0 then (
        F_X9_parse_110 a1 1 K24
      ) else (
        F_X9_parse_110 a1 0 K24
      )
    )
  )
set_option maxRecDepth 100000 in
set_option maxHeartbeats 4000000 in
theorem wF_X9_parse_81 {G : Ctx} {ad : Nat → Nat} (C : Cx G RX9 cX9_parse 3 132 2905) (hD : ∀ K, va_D (gA G) (wd (gC G) ad K 0 shsR)) {res : (Int32 × Mem)} (RET : RI G cX9_parse 3 (wd (gC G) ad res.2 0 shsR) res.1) {a1 : Int32} {t0 : Int32} {K : Mem} (h : F_X9_parse_81 a1 t0 K = some res) : V G 3 (wd (gC G) ad K 0 shsR) 81 [(0, .ref (ad 0)), (1, .int a1)] [.int t0] := by
  unfold F_X9_parse_81 at h
  refine v_istore_n C dX9_parse_81 rfl rfl (by decide) (L' := [(2, .int t0), (0, .ref (ad 0)), (1, .int a1)]) rfl ?_
  refine v_iload_n C dX9_parse_82 rfl rfl 0 rfl ?_
  refine v_if_eq C dX9_parse_83 (tgt := 111) (by decide) rfl (fun c18 => ?_) (fun c18 => ?_)
  · have h := ifp c18 h
    refine v_aload_n C dX9_parse_111 rfl rfl 1 rfl ?_
    refine v_iconst C dX9_parse_112 rfl ic_0 ?_
    obtain ⟨K19, eK19, h⟩ := nmS h
    refine v_putf C hD dX9_parse_113 rfl fp_X9_226 sr_0 rfl eK19 ?_
    refine v_iload_n C dX9_parse_116 rfl rfl 0 rfl ?_
    refine v_if_eq C dX9_parse_117 (tgt := 124) (by decide) rfl (fun c20 => ?_) (fun c20 => ?_)
    · have h := ifp c20 h
      refine v_iconst C dX9_parse_124 rfl ic_n1 ?_
      obtain rfl := Option.some.inj h
      exact RET _ _ dX9_parse_125
    · have h := ifn c20 h
      refine v_iload_n C dX9_parse_120 rfl rfl 2 rfl ?_
      refine v_goto C dX9_parse_121 (tgt := 125) (by decide) ?_
      obtain rfl := Option.some.inj h
      exact RET _ _ dX9_parse_125
  · have h := ifn c18 h
    refine v_aload_n C dX9_parse_86 rfl rfl 1 rfl ?_
    obtain ⟨K22, e21, h⟩ := bdS h
    refine v_callVv C yv_X9_nextToken m_1225 (c_X9_nextToken e21) (Sub.whole hD _ _) ⟨_, _, _, _, _, wd_at sr_0, rfl⟩ (As := []) rfl rfl (Nat.le_of_ble_eq_true rfl) ⟨Nat.le_of_ble_eq_true rfl, Nat.le_of_ble_eq_true rfl⟩ dX9_parse_87 rfl ?_
    refine v_aload_n C dX9_parse_90 rfl rfl 1 rfl ?_
    refine v_iload_n C dX9_parse_91 rfl rfl 2 rfl ?_
    obtain ⟨r25, K24, e23, h⟩ := bd2S h
    refine v_callVi C yv_X9_either m_1249 (c_X9_either e23) (Sub.whole hD _ _) ⟨_, _, _, _, _, wd_at sr_0, rfl⟩ (As := [.int a1]) rfl rfl (Nat.le_of_ble_eq_true rfl) ⟨Nat.le_of_ble_eq_true rfl, Nat.le_of_ble_eq_true rfl⟩ dX9_parse_92 rfl ?_
    refine v_if_eq C dX9_parse_95 (tgt := 109) (by decide) rfl (fun c26 => ?_) (fun c26 => ?_)
    · have h := ifp c26 h
      refine v_iconst C dX9_parse_109 rfl ic_0 ?_
      refine v_sub [1, 2] rfl ?_
      exact wF_X9_parse_110 C hD RET h
    · have h := ifn c26 h
      refine v_aload_n C dX9_parse_98 rfl rfl 1 rfl ?_
      refine v_getf C dX9_parse_99 rfl ff_X9_241 sr_0 rfl ?_
      refine v_if_ne C dX9_parse_102 (tgt := 109) (by decide) rfl (fun c27 => ?_) (fun c27 => ?_)
      · have h := ifn c27 h
        refine v_iconst C dX9_parse_109 rfl ic_0 ?_
        refine v_sub [1, 2] rfl ?_
        exact wF_X9_parse_110 C hD RET h
      · have h := ifp c27 h
        refine v_iconst C dX9_parse_105 rfl ic_1 ?_
        refine v_goto C dX9_parse_106 (tgt := 110) (by decide) ?_
        refine v_sub [1, 2] rfl ?_
        exact wF_X9_parse_110 C hD RET h
def F_X9_parse_60 (t0 : Int32) (K : Mem) : Option (Int32 × Mem) :=
  nm (up K 0 25 t0) fun K12 =>
  bd (C_X9_nextToken K12) fun K14 =>
  bd (C_X9_key K14) fun r16 =>
  if r16 < 0 then (
    F_X9_parse_81 r16 0 K14
  ) else (
    F_X9_parse_81 r16 1 K14
  )
set_option maxRecDepth 100000 in
set_option maxHeartbeats 4000000 in
theorem wF_X9_parse_60 {G : Ctx} {ad : Nat → Nat} (C : Cx G RX9 cX9_parse 3 132 2905) (hD : ∀ K, va_D (gA G) (wd (gC G) ad K 0 shsR)) {res : (Int32 × Mem)} (RET : RI G cX9_parse 3 (wd (gC G) ad res.2 0 shsR) res.1) {t0 : Int32} {K : Mem} (h : F_X9_parse_60 t0 K = some res) : V G 3 (wd (gC G) ad K 0 shsR) 60 [(0, .ref (ad 0))] [.int t0, .ref (ad 0)] := by
  unfold F_X9_parse_60 at h
  obtain ⟨K12, eK12, h⟩ := nmS h
  refine v_putf C hD dX9_parse_60 rfl fp_X9_263 sr_0 rfl eK12 ?_
  refine v_aload_n C dX9_parse_63 rfl rfl 0 rfl ?_
  obtain ⟨K14, e13, h⟩ := bdS h
  refine v_callVv C yv_X9_nextToken m_1225 (c_X9_nextToken e13) (Sub.whole hD _ _) ⟨_, _, _, _, _, wd_at sr_0, rfl⟩ (As := []) rfl rfl (Nat.le_of_ble_eq_true rfl) ⟨Nat.le_of_ble_eq_true rfl, Nat.le_of_ble_eq_true rfl⟩ dX9_parse_64 rfl ?_
  refine v_aload_n C dX9_parse_67 rfl rfl 0 rfl ?_
  obtain ⟨r16, e15, h⟩ := bdS h
  refine v_callVi C yv_X9_key m_1241 (c_X9_key e15) (Sub.whole hD _ _) ⟨_, _, _, _, _, wd_at sr_0, rfl⟩ (As := []) rfl rfl (Nat.le_of_ble_eq_true rfl) ⟨Nat.le_of_ble_eq_true rfl, Nat.le_of_ble_eq_true rfl⟩ dX9_parse_68 rfl ?_
  refine v_istore_n C dX9_parse_71 rfl rfl (by decide) (L' := [(1, .int r16), (0, .ref (ad 0))]) rfl ?_
  refine v_iload_n C dX9_parse_72 rfl rfl 0 rfl ?_
  refine v_if_lt C dX9_parse_73 (tgt := 80) (by decide) rfl (fun c17 => ?_) (fun c17 => ?_)
  · have h := ifp c17 h
    refine v_iconst C dX9_parse_80 rfl ic_0 ?_
    refine v_sub [1, 0] rfl ?_
    exact wF_X9_parse_81 C hD RET h
  · have h := ifn c17 h
    refine v_iconst C dX9_parse_76 rfl ic_1 ?_
    refine v_goto C dX9_parse_77 (tgt := 81) (by decide) ?_
    refine v_sub [1, 0] rfl ?_
    exact wF_X9_parse_81 C hD RET h
def F_X9_parse_0 (K : Mem) : Option (Int32 × Mem) :=
  nm (up K 0 18 0) fun K1 =>
  nm (up K1 0 19 3) fun K2 =>
  nm (up K2 0 22 0) fun K3 =>
  nm (up K3 0 23 0) fun K4 =>
  nm (up K4 0 24 0) fun K5 =>
  nm (up K5 0 26 0) fun K6 =>
  gd (inb 1 3058) <|
  if 14 ≤ (K6 1 (Int32.toNatClampNeg 1)) then (
    F_X9_parse_60 2858 K6
  ) else (
    gd (inb 1 3058) <|
    bd (C_X9_textAt K6 (K6 1 (Int32.toNatClampNeg 1))) fun r11 =>
    F_X9_parse_60 (r11 + 4) K6
  )
set_option maxRecDepth 100000 in
set_option maxHeartbeats 4000000 in
theorem wF_X9_parse_0 {G : Ctx} {ad : Nat → Nat} (C : Cx G RX9 cX9_parse 3 132 2905) (hD : ∀ K, va_D (gA G) (wd (gC G) ad K 0 shsR)) {res : (Int32 × Mem)} (RET : RI G cX9_parse 3 (wd (gC G) ad res.2 0 shsR) res.1) {K : Mem} (h : F_X9_parse_0 K = some res) : V G 3 (wd (gC G) ad K 0 shsR) 0 [(0, .ref (ad 0))] [] := by
  unfold F_X9_parse_0 at h
  refine v_aload_n C dX9_parse_0 rfl rfl 0 rfl ?_
  refine v_iconst C dX9_parse_1 rfl ic_0 ?_
  obtain ⟨K1, eK1, h⟩ := nmS h
  refine v_putf C hD dX9_parse_2 rfl fp_X9_238 sr_0 rfl eK1 ?_
  refine v_aload_n C dX9_parse_5 rfl rfl 0 rfl ?_
  refine v_iconst C dX9_parse_6 rfl ic_3 ?_
  obtain ⟨K2, eK2, h⟩ := nmS h
  refine v_putf C hD dX9_parse_7 rfl fp_X9_241 sr_0 rfl eK2 ?_
  refine v_aload_n C dX9_parse_10 rfl rfl 0 rfl ?_
  refine v_iconst C dX9_parse_11 rfl ic_0 ?_
  obtain ⟨K3, eK3, h⟩ := nmS h
  refine v_putf C hD dX9_parse_12 rfl fp_X9_302 sr_0 rfl eK3 ?_
  refine v_aload_n C dX9_parse_15 rfl rfl 0 rfl ?_
  refine v_iconst C dX9_parse_16 rfl ic_0 ?_
  obtain ⟨K4, eK4, h⟩ := nmS h
  refine v_putf C hD dX9_parse_17 rfl fp_X9_299 sr_0 rfl eK4 ?_
  refine v_aload_n C dX9_parse_20 rfl rfl 0 rfl ?_
  refine v_iconst C dX9_parse_21 rfl ic_0 ?_
  obtain ⟨K5, eK5, h⟩ := nmS h
  refine v_putf C hD dX9_parse_22 rfl fp_X9_266 sr_0 rfl eK5 ?_
  refine v_aload_n C dX9_parse_25 rfl rfl 0 rfl ?_
  refine v_iconst C dX9_parse_26 rfl ic_0 ?_
  obtain ⟨K6, eK6, h⟩ := nmS h
  refine v_putf C hD dX9_parse_27 rfl fp_X9_293 sr_0 rfl eK6 ?_
  refine v_aload_n C dX9_parse_30 rfl rfl 0 rfl ?_
  refine v_aload_n C dX9_parse_31 rfl rfl 0 rfl ?_
  refine v_getr C dX9_parse_32 rfl ff_X9_7 sr_0 rfl ?_
  refine v_iconst C dX9_parse_35 rfl ic_1 ?_
  obtain ⟨b7, h⟩ := gdS h
  refine v_iald C dX9_parse_36 rfl sr_1 b7 ?_
  refine v_bipush C dX9_parse_37 rfl bi_14 ?_
  refine v_icmp_ge C dX9_parse_39 (tgt := 57) (by decide) rfl (fun c8 => ?_) (fun c8 => ?_)
  · have h := ifp c8 h
    refine v_sipush C dX9_parse_57 rfl si_2858 ?_
    exact wF_X9_parse_60 C hD RET h
  · have h := ifn c8 h
    refine v_aload_n C dX9_parse_42 rfl rfl 0 rfl ?_
    refine v_aload_n C dX9_parse_43 rfl rfl 0 rfl ?_
    refine v_getr C dX9_parse_44 rfl ff_X9_7 sr_0 rfl ?_
    refine v_iconst C dX9_parse_47 rfl ic_1 ?_
    obtain ⟨b9, h⟩ := gdS h
    refine v_iald C dX9_parse_48 rfl sr_1 b9 ?_
    obtain ⟨r11, e10, h⟩ := bdS h
    refine v_callVi C yv_X9_textAt m_1003 (c_X9_textAt e10) (Sub.whole hD _ _) ⟨_, _, _, _, _, wd_at sr_0, rfl⟩ (As := [.int (K6 1 (Int32.toNatClampNeg 1))]) rfl rfl (Nat.le_of_ble_eq_true rfl) ⟨Nat.le_of_ble_eq_true rfl, Nat.le_of_ble_eq_true rfl⟩ dX9_parse_49 rfl ?_
    refine v_iconst C dX9_parse_52 rfl ic_4 ?_
    refine v_iadd C dX9_parse_53 rfl ?_
    refine v_goto C dX9_parse_54 (tgt := 60) (by decide) ?_
    exact wF_X9_parse_60 C hD RET h
def C_X9_parse (K : Mem) : Option (Int32 × Mem) := F_X9_parse_0 K
set_option maxRecDepth 100000 in
theorem c_X9_parse {l : Launch} {D : va_G} {cA : FieldType → ClassId} {X : Ex} {ad : Nat → Nat} {K : Mem} {r : Int32} {K' : Mem} (h : C_X9_parse K = some (r, K')) : MI l D cA X yX9_parse cX9_parse 3 (some .int) 132 2905 [.ref (ad 0)] (wd cA ad K 0 shsR) (wd cA ad K' 0 shsR) r :=
  mI_of (by decide +kernel) (Nat.le_of_ble_eq_true rfl) (fun G h1 h2 h3 h4 C hD RET => by subst h1 h2 h3 h4; exact wF_X9_parse_0 C (fun K' => wd_D K' hD) RET  h)
def F_X9_text_0 (K : Mem) : Option (Int32 × Mem) :=
  bd2 (C_X9_parse K) fun r3 K2 =>
  if 0 ≤ r3 then (
    gd (inb 1 3058) <|
    if (K2 1 (Int32.toNatClampNeg 1)) = 14 then (
      some ((-1000000003), K2)
    ) else (
      gd (inb 1 3058) <|
      bd (C_X9_textAt K2 (K2 1 (Int32.toNatClampNeg 1))) fun r9 =>
      gd (inb (r9 + 0) 3058) <|
      nm (up K2 1 (Int32.toNatClampNeg (r9 + 0)) r3) fun K11 =>
      gd (inb (r9 + 1) 3058) <|
      nm (up K11 1 (Int32.toNatClampNeg (r9 + 1)) (K11 0 26)) fun K13 =>
      gd (inb (r9 + 2) 3058) <|
      nm (up K13 1 (Int32.toNatClampNeg (r9 + 2)) (K13 0 24)) fun K15 =>
      gd (inb 1 3058) <|
      gd (inb 1 3058) <|
      nm (up K15 1 (Int32.toNatClampNeg 1) ((K15 1 (Int32.toNatClampNeg 1)) + 1)) fun K18 =>
      gd (inb 1 3058) <|
      some ((K18 1 (Int32.toNatClampNeg 1)) - 1, K18)
    )
  ) else (
    some ((-100) - (K2 0 17), K2)
  )
set_option maxRecDepth 100000 in
set_option maxHeartbeats 4000000 in
theorem wF_X9_text_0 {G : Ctx} {ad : Nat → Nat} (C : Cx G RX9 cX9_text 3 133 2927) (hD : ∀ K, va_D (gA G) (wd (gC G) ad K 0 shsR)) {res : (Int32 × Mem)} (RET : RI G cX9_text 3 (wd (gC G) ad res.2 0 shsR) res.1) {K : Mem} (h : F_X9_text_0 K = some res) : V G 3 (wd (gC G) ad K 0 shsR) 0 [(0, .ref (ad 0))] [] := by
  unfold F_X9_text_0 at h
  refine v_aload_n C dX9_text_0 rfl rfl 0 rfl ?_
  obtain ⟨r3, K2, e1, h⟩ := bd2S h
  refine v_callVi C yv_X9_parse m_1221 (c_X9_parse e1) (Sub.whole hD _ _) ⟨_, _, _, _, _, wd_at sr_0, rfl⟩ (As := []) rfl rfl (Nat.le_of_ble_eq_true rfl) ⟨Nat.le_of_ble_eq_true rfl, Nat.le_of_ble_eq_true rfl⟩ dX9_text_1 rfl ?_
  refine v_istore_n C dX9_text_4 rfl rfl (by decide) (L' := [(1, .int r3), (0, .ref (ad 0))]) rfl ?_
  refine v_iload_n C dX9_text_5 rfl rfl 0 rfl ?_
  refine v_if_ge C dX9_text_6 (tgt := 17) (by decide) rfl (fun c4 => ?_) (fun c4 => ?_)
  · have h := ifp c4 h
    refine v_aload_n C dX9_text_17 rfl rfl 1 rfl ?_
    refine v_getr C dX9_text_18 rfl ff_X9_7 sr_0 rfl ?_
    refine v_iconst C dX9_text_21 rfl ic_1 ?_
    obtain ⟨b5, h⟩ := gdS h
    refine v_iald C dX9_text_22 rfl sr_1 b5 ?_
    refine v_bipush C dX9_text_23 rfl bi_14 ?_
    refine v_icmp_ne C dX9_text_25 (tgt := 31) (by decide) rfl (fun c6 => ?_) (fun c6 => ?_)
    · have h := ifn c6 h
      refine v_aload_n C dX9_text_31 rfl rfl 1 rfl ?_
      refine v_aload_n C dX9_text_32 rfl rfl 1 rfl ?_
      refine v_getr C dX9_text_33 rfl ff_X9_7 sr_0 rfl ?_
      refine v_iconst C dX9_text_36 rfl ic_1 ?_
      obtain ⟨b7, h⟩ := gdS h
      refine v_iald C dX9_text_37 rfl sr_1 b7 ?_
      obtain ⟨r9, e8, h⟩ := bdS h
      refine v_callVi C yv_X9_textAt m_1003 (c_X9_textAt e8) (Sub.whole hD _ _) ⟨_, _, _, _, _, wd_at sr_0, rfl⟩ (As := [.int (K2 1 (Int32.toNatClampNeg 1))]) rfl rfl (Nat.le_of_ble_eq_true rfl) ⟨Nat.le_of_ble_eq_true rfl, Nat.le_of_ble_eq_true rfl⟩ dX9_text_38 rfl ?_
      refine v_istore_n C dX9_text_41 rfl rfl (by decide) (L' := [(2, .int r9), (1, .int r3), (0, .ref (ad 0))]) rfl ?_
      refine v_aload_n C dX9_text_42 rfl rfl 2 rfl ?_
      refine v_getr C dX9_text_43 rfl ff_X9_7 sr_0 rfl ?_
      refine v_iload_n C dX9_text_46 rfl rfl 0 rfl ?_
      refine v_iconst C dX9_text_47 rfl ic_0 ?_
      refine v_iadd C dX9_text_48 rfl ?_
      refine v_iload_n C dX9_text_49 rfl rfl 1 rfl ?_
      obtain ⟨b10, h⟩ := gdS h
      obtain ⟨K11, eK11, h⟩ := nmS h
      refine v_iast C hD dX9_text_50 rfl sr_1 b10 eK11 ?_
      refine v_aload_n C dX9_text_51 rfl rfl 2 rfl ?_
      refine v_getr C dX9_text_52 rfl ff_X9_7 sr_0 rfl ?_
      refine v_iload_n C dX9_text_55 rfl rfl 0 rfl ?_
      refine v_iconst C dX9_text_56 rfl ic_1 ?_
      refine v_iadd C dX9_text_57 rfl ?_
      refine v_aload_n C dX9_text_58 rfl rfl 2 rfl ?_
      refine v_getf C dX9_text_59 rfl ff_X9_293 sr_0 rfl ?_
      obtain ⟨b12, h⟩ := gdS h
      obtain ⟨K13, eK13, h⟩ := nmS h
      refine v_iast C hD dX9_text_62 rfl sr_1 b12 eK13 ?_
      refine v_aload_n C dX9_text_63 rfl rfl 2 rfl ?_
      refine v_getr C dX9_text_64 rfl ff_X9_7 sr_0 rfl ?_
      refine v_iload_n C dX9_text_67 rfl rfl 0 rfl ?_
      refine v_iconst C dX9_text_68 rfl ic_2 ?_
      refine v_iadd C dX9_text_69 rfl ?_
      refine v_aload_n C dX9_text_70 rfl rfl 2 rfl ?_
      refine v_getf C dX9_text_71 rfl ff_X9_266 sr_0 rfl ?_
      obtain ⟨b14, h⟩ := gdS h
      obtain ⟨K15, eK15, h⟩ := nmS h
      refine v_iast C hD dX9_text_74 rfl sr_1 b14 eK15 ?_
      refine v_aload_n C dX9_text_75 rfl rfl 2 rfl ?_
      refine v_getr C dX9_text_76 rfl ff_X9_7 sr_0 rfl ?_
      refine v_iconst C dX9_text_79 rfl ic_1 ?_
      refine v_dup2 C dX9_text_80 rfl rfl rfl ?_
      obtain ⟨b16, h⟩ := gdS h
      refine v_iald C dX9_text_81 rfl sr_1 b16 ?_
      refine v_iconst C dX9_text_82 rfl ic_1 ?_
      refine v_iadd C dX9_text_83 rfl ?_
      obtain ⟨b17, h⟩ := gdS h
      obtain ⟨K18, eK18, h⟩ := nmS h
      refine v_iast C hD dX9_text_84 rfl sr_1 b17 eK18 ?_
      refine v_aload_n C dX9_text_85 rfl rfl 2 rfl ?_
      refine v_getr C dX9_text_86 rfl ff_X9_7 sr_0 rfl ?_
      refine v_iconst C dX9_text_89 rfl ic_1 ?_
      obtain ⟨b19, h⟩ := gdS h
      refine v_iald C dX9_text_90 rfl sr_1 b19 ?_
      refine v_iconst C dX9_text_91 rfl ic_1 ?_
      refine v_isub C dX9_text_92 rfl ?_
      obtain rfl := Option.some.inj h
      exact RET _ _ dX9_text_93
    · have h := ifp c6 h
      refine v_ldc C dX9_text_28 rfl m_954 ?_
      obtain rfl := Option.some.inj h
      exact RET _ _ dX9_text_30
  · have h := ifn c4 h
    refine v_bipush C dX9_text_9 rfl bi_n100 ?_
    refine v_aload_n C dX9_text_11 rfl rfl 1 rfl ?_
    refine v_getf C dX9_text_12 rfl ff_X9_244 sr_0 rfl ?_
    refine v_isub C dX9_text_15 rfl ?_
    obtain rfl := Option.some.inj h
    exact RET _ _ dX9_text_16
def C_X9_text (K : Mem) : Option (Int32 × Mem) := F_X9_text_0 K
set_option maxRecDepth 100000 in
theorem c_X9_text {l : Launch} {D : va_G} {cA : FieldType → ClassId} {X : Ex} {ad : Nat → Nat} {K : Mem} {r : Int32} {K' : Mem} (h : C_X9_text K = some (r, K')) : MI l D cA X yX9_text cX9_text 3 (some .int) 133 2927 [.ref (ad 0)] (wd cA ad K 0 shsR) (wd cA ad K' 0 shsR) r :=
  mI_of (by decide +kernel) (Nat.le_of_ble_eq_true rfl) (fun G h1 h2 h3 h4 C hD RET => by subst h1 h2 h3 h4; exact wF_X9_text_0 C (fun K' => wd_D K' hD) RET  h)
