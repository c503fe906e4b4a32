theorem objC : Cond.code Lib.objectInit ⟨#[0xb1]⟩ 1 none ∈ wsG := wsG_t (n := 25) (by decide +kernel) (by decide +kernel)
theorem yi_X2_init : YI yX2_init cX2_init 1 0 := ⟨⟨by decide +kernel, by decide +kernel, by decide +kernel⟩, m_198, m_7, m_197, rfl⟩
set_option maxRecDepth 100000 in
set_option maxHeartbeats 8000000 in
theorem c_X2_init {l : Launch} {D : va_G} {cA : FieldType → ClassId} {X : Ex} {b : Nat}  : MC l D cA X yX2_init cX2_init 1 1 20 1 24 [.ref b] [(b, .inr (1, [.null, .int 0, .int 0]))] (fun ad => [(b, .inr (1, [.ref (ad 0), .int (-1), .int 0])), (ad 0, .inl (cA .int, 24, .inl (fun _ => 0)))]) := by
  refine mC_of (by decide +kernel) rfl (Nat.le_of_ble_eq_true rfl) (fun G h1 h2 h3 h4 C hmc hms hin hD RET => ?_)
  subst h1 h2 h3 h4
  show V (setk G 0 0) 1 [(b, .inr (1, [.null, .int 0, .int 0]))] 0 [(0, .ref b)] []
  refine v_aload_n C dX2_init_0 rfl rfl 0 rfl ?_
  refine x_obj C m_199 m_24 objC (Nat.le_of_ble_eq_true rfl) (Nat.le_of_ble_eq_true rfl) dX2_init_1 rfl ?_
  refine v_aload_n C dX2_init_4 rfl rfl 0 rfl ?_
  refine v_bipush C dX2_init_5 rfl bi_24 ?_
  refine x_newa C hD (N := 24) (by decide) (by decide) m_55 (Nat.le_of_ble_eq_true rfl) (Nat.le_trans (Nat.le_of_ble_eq_true rfl) hmc) (Nat.le_trans (Nat.le_of_ble_eq_true rfl) hms) dX2_init_7 rfl (fun q0 hD => ?_)
  show V (setk G 1 24) 1 [(b, .inr (1, [.null, .int 0, .int 0])), (q0, .inl (gC G .int, 24, .inl (fun _ => 0)))] 9 [(0, .ref b)] [.ref q0, .ref b]
  have hD : va_D (gA G) [(b, .inr (1, [.null, .int 0, .int 0])), (q0, .inl (gC G .int, 24, .inl (fun _ => 0)))] := hD
  have C1 := cx_sk C (k' := 1) (n' := 24) (Nat.le_trans (Nat.le_of_ble_eq_true rfl) hmc) (Nat.le_trans (Nat.le_of_ble_eq_true rfl) hms)
  refine x_putF C1 hin hD (Cn := RX2) (T := TX2) (N := 3) (ci := 1) (q0 := 0) (f := 0) (ty := .array .int) (v := .ref q0) rfl inX2 tyX2_ok nmX2 rfl (Nat.le_of_ble_eq_true rfl) m_200 rfl rfl (by decide +kernel) rfl rfl (Nat.le_of_ble_eq_true rfl) dX2_init_9 rfl (fun hD => ?_)
  show V (setk G 1 24) 1 [(b, .inr (1, [.ref q0, .int 0, .int 0])), (q0, .inl (gC G .int, 24, .inl (fun _ => 0)))] 12 [(0, .ref b)] []
  have hD : va_D (gA G) [(b, .inr (1, [.ref q0, .int 0, .int 0])), (q0, .inl (gC G .int, 24, .inl (fun _ => 0)))] := hD
  refine v_aload_n C1 dX2_init_12 rfl rfl 0 rfl ?_
  refine v_iconst C1 dX2_init_13 rfl ic_n1 ?_
  refine x_put C1 hD (Cn := RX2) (T := TX2) (N := 3) (ci := 1) (q0 := 0) (f := 1) (ty := .int) (v := .int (-1)) rfl inX2 tyX2_ok nmX2 rfl (Nat.le_of_ble_eq_true rfl) m_202 rfl (by decide +kernel) rfl rfl (Nat.le_of_ble_eq_true rfl) dX2_init_14 rfl (fun hD => ?_)
  show V (setk G 1 24) 1 [(b, .inr (1, [.ref q0, .int (-1), .int 0])), (q0, .inl (gC G .int, 24, .inl (fun _ => 0)))] 17 [(0, .ref b)] []
  have hD : va_D (gA G) [(b, .inr (1, [.ref q0, .int (-1), .int 0])), (q0, .inl (gC G .int, 24, .inl (fun _ => 0)))] := hD
  exact RET 17 _ (fun i => ([q0] : List Nat).getD i 0) dX2_init_17 hD
theorem yi_X3_init : YI yX3_init cX3_init 1 0 := ⟨⟨by decide +kernel, by decide +kernel, by decide +kernel⟩, m_218, m_8, m_217, rfl⟩
set_option maxRecDepth 100000 in
set_option maxHeartbeats 8000000 in
theorem c_X3_init {l : Launch} {D : va_G} {cA : FieldType → ClassId} {X : Ex} {b : Nat}  : MC l D cA X yX3_init cX3_init 1 2 40 2 27 [.ref b] [(b, .inr (2, [.null, .int 0, .int 0, .int 0, .int 0]))] (fun ad => [(b, .inr (2, [.ref (ad 0), .int 0, .int 0, .int 0, .int 0])), (ad 0, .inr (1, [.ref (ad 1), .int (-1), .int 0])), (ad 1, .inl (cA .int, 24, .inl (fun _ => 0)))]) := by
  refine mC_of (by decide +kernel) rfl (Nat.le_of_ble_eq_true rfl) (fun G h1 h2 h3 h4 C hmc hms hin hD RET => ?_)
  subst h1 h2 h3 h4
  show V (setk G 0 0) 1 [(b, .inr (2, [.null, .int 0, .int 0, .int 0, .int 0]))] 0 [(0, .ref b)] []
  refine v_aload_n C dX3_init_0 rfl rfl 0 rfl ?_
  refine x_obj C m_219 m_24 objC (Nat.le_of_ble_eq_true rfl) (Nat.le_of_ble_eq_true rfl) dX3_init_1 rfl ?_
  refine v_aload_n C dX3_init_4 rfl rfl 0 rfl ?_
  refine x_new C hD (Cn := RX2) (T := TX2) (N := 3) (ci := 1) (ty := tyX2) inX2 tyX2_ok m_220 m_195 m_7 rfl (fs := [.null, .int 0, .int 0]) (by decide) (Nat.le_trans (Nat.le_of_ble_eq_true rfl) hmc) (Nat.le_trans (Nat.le_of_ble_eq_true rfl) hms) dX3_init_5 rfl (fun q0 hD => ?_)
  show V (setk G 1 3) 1 [(b, .inr (2, [.null, .int 0, .int 0, .int 0, .int 0])), (q0, .inr (1, [.null, .int 0, .int 0]))] 8 [(0, .ref b)] [.ref q0, .ref b]
  have hD : va_D (gA G) [(b, .inr (2, [.null, .int 0, .int 0, .int 0, .int 0])), (q0, .inr (1, [.null, .int 0, .int 0]))] := hD
  have C1 := cx_sk C (k' := 1) (n' := 3) (Nat.le_trans (Nat.le_of_ble_eq_true rfl) hmc) (Nat.le_trans (Nat.le_of_ble_eq_true rfl) hms)
  refine v_dup C1 dX3_init_8 rfl rfl ?_
  show V _ _ ([(b, .inr (2, [.null, .int 0, .int 0, .int 0, .int 0]))] ++ [(q0, .inr (1, [.null, .int 0, .int 0]))]) _ _ _
  refine x_callN C1 yi_X2_init C1.hE.2.2.2.2.2.2.2.2.2.2.2.2.2.2.1 (c_X2_init ) hD (As := []) rfl rfl (Nat.le_of_ble_eq_true rfl) ⟨Nat.le_of_ble_eq_true rfl, Nat.le_of_ble_eq_true rfl⟩ (Nat.le_trans (Nat.le_of_ble_eq_true rfl) hmc) (Nat.le_trans (Nat.le_of_ble_eq_true rfl) hms) dX3_init_9 rfl (fun f1 hD => ?_)
  show V (setk G 2 27) 1 [(b, .inr (2, [.null, .int 0, .int 0, .int 0, .int 0])), (q0, .inr (1, [.ref (f1 0), .int (-1), .int 0])), (f1 0, .inl (gC G .int, 24, .inl (fun _ => 0)))] 12 [(0, .ref b)] [.ref q0, .ref b]
  have hD : va_D (gA G) [(b, .inr (2, [.null, .int 0, .int 0, .int 0, .int 0])), (q0, .inr (1, [.ref (f1 0), .int (-1), .int 0])), (f1 0, .inl (gC G .int, 24, .inl (fun _ => 0)))] := hD
  have C2 := cx_sk C (k' := 2) (n' := 27) (Nat.le_trans (Nat.le_of_ble_eq_true rfl) hmc) (Nat.le_trans (Nat.le_of_ble_eq_true rfl) hms)
  refine x_putF C2 hin hD (Cn := RX3) (T := TX3) (N := 5) (ci := 2) (q0 := 0) (f := 0) (ty := .object RX2) (v := .ref q0) rfl inX3 tyX3_ok nmX3 rfl (Nat.le_of_ble_eq_true rfl) m_222 rfl rfl (by decide +kernel) rfl rfl (Nat.le_of_ble_eq_true rfl) dX3_init_12 rfl (fun hD => ?_)
  show V (setk G 2 27) 1 [(b, .inr (2, [.ref q0, .int 0, .int 0, .int 0, .int 0])), (q0, .inr (1, [.ref (f1 0), .int (-1), .int 0])), (f1 0, .inl (gC G .int, 24, .inl (fun _ => 0)))] 15 [(0, .ref b)] []
  have hD : va_D (gA G) [(b, .inr (2, [.ref q0, .int 0, .int 0, .int 0, .int 0])), (q0, .inr (1, [.ref (f1 0), .int (-1), .int 0])), (f1 0, .inl (gC G .int, 24, .inl (fun _ => 0)))] := hD
  refine v_aload_n C2 dX3_init_15 rfl rfl 0 rfl ?_
  refine v_iconst C2 dX3_init_16 rfl ic_0 ?_
  refine x_put C2 hD (Cn := RX3) (T := TX3) (N := 5) (ci := 2) (q0 := 0) (f := 1) (ty := .int) (v := .int 0) rfl inX3 tyX3_ok nmX3 rfl (Nat.le_of_ble_eq_true rfl) m_224 rfl (by decide +kernel) rfl rfl (Nat.le_of_ble_eq_true rfl) dX3_init_17 rfl (fun hD => ?_)
  show V (setk G 2 27) 1 [(b, .inr (2, [.ref q0, .int 0, .int 0, .int 0, .int 0])), (q0, .inr (1, [.ref (f1 0), .int (-1), .int 0])), (f1 0, .inl (gC G .int, 24, .inl (fun _ => 0)))] 20 [(0, .ref b)] []
  have hD : va_D (gA G) [(b, .inr (2, [.ref q0, .int 0, .int 0, .int 0, .int 0])), (q0, .inr (1, [.ref (f1 0), .int (-1), .int 0])), (f1 0, .inl (gC G .int, 24, .inl (fun _ => 0)))] := hD
  exact RET 20 _ (fun i => ([q0, f1 0] : List Nat).getD i 0) dX3_init_20 hD
theorem yi_X4_init : YI yX4_init cX4_init 1 0 := ⟨⟨by decide +kernel, by decide +kernel, by decide +kernel⟩, m_145, m_5, m_144, rfl⟩
set_option maxRecDepth 100000 in
set_option maxHeartbeats 8000000 in
theorem c_X4_init {l : Launch} {D : va_G} {cA : FieldType → ClassId} {X : Ex} {b : Nat}  : MC l D cA X yX4_init cX4_init 1 1 20 1 96 [.ref b] [(b, .inr (3, [.null, .int 0]))] (fun ad => [(b, .inr (3, [.ref (ad 0), .int 0])), (ad 0, .inl (cA .int, 96, .inl (fun _ => 0)))]) := by
  refine mC_of (by decide +kernel) rfl (Nat.le_of_ble_eq_true rfl) (fun G h1 h2 h3 h4 C hmc hms hin hD RET => ?_)
  subst h1 h2 h3 h4
  show V (setk G 0 0) 1 [(b, .inr (3, [.null, .int 0]))] 0 [(0, .ref b)] []
  refine v_aload_n C dX4_init_0 rfl rfl 0 rfl ?_
  refine x_obj C m_146 m_24 objC (Nat.le_of_ble_eq_true rfl) (Nat.le_of_ble_eq_true rfl) dX4_init_1 rfl ?_
  refine v_aload_n C dX4_init_4 rfl rfl 0 rfl ?_
  refine v_bipush C dX4_init_5 rfl bi_96 ?_
  refine x_newa C hD (N := 96) (by decide) (by decide) m_55 (Nat.le_of_ble_eq_true rfl) (Nat.le_trans (Nat.le_of_ble_eq_true rfl) hmc) (Nat.le_trans (Nat.le_of_ble_eq_true rfl) hms) dX4_init_7 rfl (fun q0 hD => ?_)
  show V (setk G 1 96) 1 [(b, .inr (3, [.null, .int 0])), (q0, .inl (gC G .int, 96, .inl (fun _ => 0)))] 9 [(0, .ref b)] [.ref q0, .ref b]
  have hD : va_D (gA G) [(b, .inr (3, [.null, .int 0])), (q0, .inl (gC G .int, 96, .inl (fun _ => 0)))] := hD
  have C1 := cx_sk C (k' := 1) (n' := 96) (Nat.le_trans (Nat.le_of_ble_eq_true rfl) hmc) (Nat.le_trans (Nat.le_of_ble_eq_true rfl) hms)
  refine x_putF C1 hin hD (Cn := RX4) (T := TX4) (N := 2) (ci := 3) (q0 := 0) (f := 0) (ty := .array .int) (v := .ref q0) rfl inX4 tyX4_ok nmX4 rfl (Nat.le_of_ble_eq_true rfl) m_147 rfl rfl (by decide +kernel) rfl rfl (Nat.le_of_ble_eq_true rfl) dX4_init_9 rfl (fun hD => ?_)
  show V (setk G 1 96) 1 [(b, .inr (3, [.ref q0, .int 0])), (q0, .inl (gC G .int, 96, .inl (fun _ => 0)))] 12 [(0, .ref b)] []
  have hD : va_D (gA G) [(b, .inr (3, [.ref q0, .int 0])), (q0, .inl (gC G .int, 96, .inl (fun _ => 0)))] := hD
  exact RET 12 _ (fun i => ([q0] : List Nat).getD i 0) dX4_init_12 hD
theorem yi_X7_init : YI yX7_init cX7_init 1 0 := ⟨⟨by decide +kernel, by decide +kernel, by decide +kernel⟩, m_129, m_4, m_128, rfl⟩
set_option maxRecDepth 100000 in
set_option maxHeartbeats 8000000 in
theorem c_X7_init {l : Launch} {D : va_G} {cA : FieldType → ClassId} {X : Ex} {b : Nat}  : MC l D cA X yX7_init cX7_init 1 1 20 3 36 [.ref b] [(b, .inr (6, [.null, .null, .null]))] (fun ad => [(b, .inr (6, [.ref (ad 0), .ref (ad 1), .ref (ad 2)])), (ad 0, .inl (cA .int, 12, .inl (fun _ => 0))), (ad 1, .inl (cA .int, 12, .inl (fun _ => 0))), (ad 2, .inl (cA .int, 12, .inl (fun _ => 0)))]) := by
  refine mC_of (by decide +kernel) rfl (Nat.le_of_ble_eq_true rfl) (fun G h1 h2 h3 h4 C hmc hms hin hD RET => ?_)
  subst h1 h2 h3 h4
  show V (setk G 0 0) 1 [(b, .inr (6, [.null, .null, .null]))] 0 [(0, .ref b)] []
  refine v_aload_n C dX7_init_0 rfl rfl 0 rfl ?_
  refine x_obj C m_130 m_24 objC (Nat.le_of_ble_eq_true rfl) (Nat.le_of_ble_eq_true rfl) dX7_init_1 rfl ?_
  refine v_aload_n C dX7_init_4 rfl rfl 0 rfl ?_
  refine v_bipush C dX7_init_5 rfl bi_12 ?_
  refine x_newa C hD (N := 12) (by decide) (by decide) m_55 (Nat.le_of_ble_eq_true rfl) (Nat.le_trans (Nat.le_of_ble_eq_true rfl) hmc) (Nat.le_trans (Nat.le_of_ble_eq_true rfl) hms) dX7_init_7 rfl (fun q0 hD => ?_)
  show V (setk G 1 12) 1 [(b, .inr (6, [.null, .null, .null])), (q0, .inl (gC G .int, 12, .inl (fun _ => 0)))] 9 [(0, .ref b)] [.ref q0, .ref b]
  have hD : va_D (gA G) [(b, .inr (6, [.null, .null, .null])), (q0, .inl (gC G .int, 12, .inl (fun _ => 0)))] := hD
  have C1 := cx_sk C (k' := 1) (n' := 12) (Nat.le_trans (Nat.le_of_ble_eq_true rfl) hmc) (Nat.le_trans (Nat.le_of_ble_eq_true rfl) hms)
  refine x_putF C1 hin hD (Cn := RX7) (T := TX7) (N := 3) (ci := 6) (q0 := 0) (f := 0) (ty := .array .int) (v := .ref q0) rfl inX7 tyX7_ok nmX7 rfl (Nat.le_of_ble_eq_true rfl) m_131 rfl rfl (by decide +kernel) rfl rfl (Nat.le_of_ble_eq_true rfl) dX7_init_9 rfl (fun hD => ?_)
  show V (setk G 1 12) 1 [(b, .inr (6, [.ref q0, .null, .null])), (q0, .inl (gC G .int, 12, .inl (fun _ => 0)))] 12 [(0, .ref b)] []
  have hD : va_D (gA G) [(b, .inr (6, [.ref q0, .null, .null])), (q0, .inl (gC G .int, 12, .inl (fun _ => 0)))] := hD
  refine v_aload_n C1 dX7_init_12 rfl rfl 0 rfl ?_
  refine v_bipush C1 dX7_init_13 rfl bi_12 ?_
  refine x_newa C1 hD (N := 12) (by decide) (by decide) m_55 (Nat.le_of_ble_eq_true rfl) (Nat.le_trans (Nat.le_of_ble_eq_true rfl) hmc) (Nat.le_trans (Nat.le_of_ble_eq_true rfl) hms) dX7_init_15 rfl (fun q1 hD => ?_)
  show V (setk G 2 24) 1 [(b, .inr (6, [.ref q0, .null, .null])), (q0, .inl (gC G .int, 12, .inl (fun _ => 0))), (q1, .inl (gC G .int, 12, .inl (fun _ => 0)))] 17 [(0, .ref b)] [.ref q1, .ref b]
  have hD : va_D (gA G) [(b, .inr (6, [.ref q0, .null, .null])), (q0, .inl (gC G .int, 12, .inl (fun _ => 0))), (q1, .inl (gC G .int, 12, .inl (fun _ => 0)))] := hD
  have C2 := cx_sk C (k' := 2) (n' := 24) (Nat.le_trans (Nat.le_of_ble_eq_true rfl) hmc) (Nat.le_trans (Nat.le_of_ble_eq_true rfl) hms)
  refine x_putF C2 hin hD (Cn := RX7) (T := TX7) (N := 3) (ci := 6) (q0 := 0) (f := 1) (ty := .array .int) (v := .ref q1) rfl inX7 tyX7_ok nmX7 rfl (Nat.le_of_ble_eq_true rfl) m_132 rfl rfl (by decide +kernel) rfl rfl (Nat.le_of_ble_eq_true rfl) dX7_init_17 rfl (fun hD => ?_)
  show V (setk G 2 24) 1 [(b, .inr (6, [.ref q0, .ref q1, .null])), (q0, .inl (gC G .int, 12, .inl (fun _ => 0))), (q1, .inl (gC G .int, 12, .inl (fun _ => 0)))] 20 [(0, .ref b)] []
  have hD : va_D (gA G) [(b, .inr (6, [.ref q0, .ref q1, .null])), (q0, .inl (gC G .int, 12, .inl (fun _ => 0))), (q1, .inl (gC G .int, 12, .inl (fun _ => 0)))] := hD
  refine v_aload_n C2 dX7_init_20 rfl rfl 0 rfl ?_
  refine v_bipush C2 dX7_init_21 rfl bi_12 ?_
  refine x_newa C2 hD (N := 12) (by decide) (by decide) m_55 (Nat.le_of_ble_eq_true rfl) (Nat.le_trans (Nat.le_of_ble_eq_true rfl) hmc) (Nat.le_trans (Nat.le_of_ble_eq_true rfl) hms) dX7_init_23 rfl (fun q2 hD => ?_)
  show V (setk G 3 36) 1 [(b, .inr (6, [.ref q0, .ref q1, .null])), (q0, .inl (gC G .int, 12, .inl (fun _ => 0))), (q1, .inl (gC G .int, 12, .inl (fun _ => 0))), (q2, .inl (gC G .int, 12, .inl (fun _ => 0)))] 25 [(0, .ref b)] [.ref q2, .ref b]
  have hD : va_D (gA G) [(b, .inr (6, [.ref q0, .ref q1, .null])), (q0, .inl (gC G .int, 12, .inl (fun _ => 0))), (q1, .inl (gC G .int, 12, .inl (fun _ => 0))), (q2, .inl (gC G .int, 12, .inl (fun _ => 0)))] := hD
  have C3 := cx_sk C (k' := 3) (n' := 36) (Nat.le_trans (Nat.le_of_ble_eq_true rfl) hmc) (Nat.le_trans (Nat.le_of_ble_eq_true rfl) hms)
  refine x_putF C3 hin hD (Cn := RX7) (T := TX7) (N := 3) (ci := 6) (q0 := 0) (f := 2) (ty := .array .int) (v := .ref q2) rfl inX7 tyX7_ok nmX7 rfl (Nat.le_of_ble_eq_true rfl) m_133 rfl rfl (by decide +kernel) rfl rfl (Nat.le_of_ble_eq_true rfl) dX7_init_25 rfl (fun hD => ?_)
  show V (setk G 3 36) 1 [(b, .inr (6, [.ref q0, .ref q1, .ref q2])), (q0, .inl (gC G .int, 12, .inl (fun _ => 0))), (q1, .inl (gC G .int, 12, .inl (fun _ => 0))), (q2, .inl (gC G .int, 12, .inl (fun _ => 0)))] 28 [(0, .ref b)] []
  have hD : va_D (gA G) [(b, .inr (6, [.ref q0, .ref q1, .ref q2])), (q0, .inl (gC G .int, 12, .inl (fun _ => 0))), (q1, .inl (gC G .int, 12, .inl (fun _ => 0))), (q2, .inl (gC G .int, 12, .inl (fun _ => 0)))] := hD
  exact RET 28 _ (fun i => ([q0, q1, q2] : List Nat).getD i 0) dX7_init_28 hD
theorem yi_X1_init : YI yX1_init cX1_init 2 1 := ⟨⟨by decide +kernel, by decide +kernel, by decide +kernel⟩, m_161, m_6, m_160, rfl⟩
set_option maxRecDepth 100000 in
set_option maxHeartbeats 8000000 in
theorem c_X1_init {l : Launch} {D : va_G} {cA : FieldType → ClassId} {X : Ex} {b : Nat} {e1 : Nat} : MC l D cA X yX1_init cX1_init 2 1 20 1 96 [.ref b, .ref e1] [(b, .inr (0, [.null, .null, .int 0, .int 0, .int 0, .int 0, .int 0, .int 0]))] (fun ad => [(b, .inr (0, [.ref e1, .ref (ad 0), .int 0, .int 0, .int 0, .int 0, .int 0, .int 0])), (ad 0, .inl (cA .int, 96, .inl (fun _ => 0)))]) := by
  refine mC_of (by decide +kernel) rfl (Nat.le_of_ble_eq_true rfl) (fun G h1 h2 h3 h4 C hmc hms hin hD RET => ?_)
  subst h1 h2 h3 h4
  show V (setk G 0 0) 2 [(b, .inr (0, [.null, .null, .int 0, .int 0, .int 0, .int 0, .int 0, .int 0]))] 0 [(0, .ref b), (1, .ref e1)] []
  refine v_aload_n C dX1_init_0 rfl rfl 0 rfl ?_
  refine x_obj C m_162 m_24 objC (Nat.le_of_ble_eq_true rfl) (Nat.le_of_ble_eq_true rfl) dX1_init_1 rfl ?_
  refine v_aload_n C dX1_init_4 rfl rfl 0 rfl ?_
  refine v_bipush C dX1_init_5 rfl bi_96 ?_
  refine x_newa C hD (N := 96) (by decide) (by decide) m_55 (Nat.le_of_ble_eq_true rfl) (Nat.le_trans (Nat.le_of_ble_eq_true rfl) hmc) (Nat.le_trans (Nat.le_of_ble_eq_true rfl) hms) dX1_init_7 rfl (fun q0 hD => ?_)
  show V (setk G 1 96) 2 [(b, .inr (0, [.null, .null, .int 0, .int 0, .int 0, .int 0, .int 0, .int 0])), (q0, .inl (gC G .int, 96, .inl (fun _ => 0)))] 9 [(0, .ref b), (1, .ref e1)] [.ref q0, .ref b]
  have hD : va_D (gA G) [(b, .inr (0, [.null, .null, .int 0, .int 0, .int 0, .int 0, .int 0, .int 0])), (q0, .inl (gC G .int, 96, .inl (fun _ => 0)))] := hD
  have C1 := cx_sk C (k' := 1) (n' := 96) (Nat.le_trans (Nat.le_of_ble_eq_true rfl) hmc) (Nat.le_trans (Nat.le_of_ble_eq_true rfl) hms)
  refine x_putF C1 hin hD (Cn := RX1) (T := TX1) (N := 8) (ci := 0) (q0 := 0) (f := 1) (ty := .array .int) (v := .ref q0) rfl inX1 tyX1_ok nmX1 rfl (Nat.le_of_ble_eq_true rfl) m_164 rfl rfl (by decide +kernel) rfl rfl (Nat.le_of_ble_eq_true rfl) dX1_init_9 rfl (fun hD => ?_)
  show V (setk G 1 96) 2 [(b, .inr (0, [.null, .ref q0, .int 0, .int 0, .int 0, .int 0, .int 0, .int 0])), (q0, .inl (gC G .int, 96, .inl (fun _ => 0)))] 12 [(0, .ref b), (1, .ref e1)] []
  have hD : va_D (gA G) [(b, .inr (0, [.null, .ref q0, .int 0, .int 0, .int 0, .int 0, .int 0, .int 0])), (q0, .inl (gC G .int, 96, .inl (fun _ => 0)))] := hD
  refine v_aload_n C1 dX1_init_12 rfl rfl 0 rfl ?_
  refine v_aload_n C1 dX1_init_13 rfl rfl 1 rfl ?_
  refine x_putF C1 hin hD (Cn := RX1) (T := TX1) (N := 8) (ci := 0) (q0 := 0) (f := 0) (ty := .object RX4) (v := .ref e1) rfl inX1 tyX1_ok nmX1 rfl (Nat.le_of_ble_eq_true rfl) m_163 rfl rfl (by decide +kernel) rfl rfl (Nat.le_of_ble_eq_true rfl) dX1_init_14 rfl (fun hD => ?_)
  show V (setk G 1 96) 2 [(b, .inr (0, [.ref e1, .ref q0, .int 0, .int 0, .int 0, .int 0, .int 0, .int 0])), (q0, .inl (gC G .int, 96, .inl (fun _ => 0)))] 17 [(0, .ref b), (1, .ref e1)] []
  have hD : va_D (gA G) [(b, .inr (0, [.ref e1, .ref q0, .int 0, .int 0, .int 0, .int 0, .int 0, .int 0])), (q0, .inl (gC G .int, 96, .inl (fun _ => 0)))] := hD
  exact RET 17 _ (fun i => ([q0] : List Nat).getD i 0) dX1_init_17 hD
theorem yi_X6_init : YI yX6_init cX6_init 2 1 := ⟨⟨by decide +kernel, by decide +kernel, by decide +kernel⟩, m_60, m_3, m_59, rfl⟩
set_option maxRecDepth 100000 in
set_option maxHeartbeats 8000000 in
theorem c_X6_init {l : Launch} {D : va_G} {cA : FieldType → ClassId} {X : Ex} {b : Nat} {e1 : Nat} : MC l D cA X yX6_init cX6_init 2 1 20 6 54 [.ref b, .ref e1] [(b, .inr (5, [.null, .null, .null, .null, .null, .null, .null, .int 0, .int 0, .int 0, .int 0, .int 0, .int 0, .int 0]))] (fun ad => [(b, .inr (5, [.ref (ad 0), .ref (ad 1), .ref (ad 2), .ref (ad 3), .ref (ad 4), .ref (ad 5), .ref e1, .int 0, .int 0, .int 0, .int 0, .int 0, .int 1, .int 0])), (ad 0, .inl (cA .int, 12, .inl (fun _ => 0))), (ad 1, .inl (cA .int, 12, .inl (fun _ => 0))), (ad 2, .inl (cA .int, 12, .inl (fun _ => 0))), (ad 3, .inl (cA .int, 12, .inl (fun _ => 0))), (ad 4, .inl (cA .int, 3, .inl (upd (upd (upd (fun _ => 0) 0 30) 1 20) 2 20))), (ad 5, .inl (cA .int, 3, .inl (upd (upd (upd (fun _ => 0) 0 (-1)) 1 (-1)) 2 (-1))))]) := by
  refine mC_of (by decide +kernel) rfl (Nat.le_of_ble_eq_true rfl) (fun G h1 h2 h3 h4 C hmc hms hin hD RET => ?_)
  subst h1 h2 h3 h4
  show V (setk G 0 0) 2 [(b, .inr (5, [.null, .null, .null, .null, .null, .null, .null, .int 0, .int 0, .int 0, .int 0, .int 0, .int 0, .int 0]))] 0 [(0, .ref b), (1, .ref e1)] []
  refine v_aload_n C dX6_init_0 rfl rfl 0 rfl ?_
  refine x_obj C m_61 m_24 objC (Nat.le_of_ble_eq_true rfl) (Nat.le_of_ble_eq_true rfl) dX6_init_1 rfl ?_
  refine v_aload_n C dX6_init_4 rfl rfl 0 rfl ?_
  refine v_bipush C dX6_init_5 rfl bi_12 ?_
  refine x_newa C hD (N := 12) (by decide) (by decide) m_55 (Nat.le_of_ble_eq_true rfl) (Nat.le_trans (Nat.le_of_ble_eq_true rfl) hmc) (Nat.le_trans (Nat.le_of_ble_eq_true rfl) hms) dX6_init_7 rfl (fun q0 hD => ?_)
  show V (setk G 1 12) 2 [(b, .inr (5, [.null, .null, .null, .null, .null, .null, .null, .int 0, .int 0, .int 0, .int 0, .int 0, .int 0, .int 0])), (q0, .inl (gC G .int, 12, .inl (fun _ => 0)))] 9 [(0, .ref b), (1, .ref e1)] [.ref q0, .ref b]
  have hD : va_D (gA G) [(b, .inr (5, [.null, .null, .null, .null, .null, .null, .null, .int 0, .int 0, .int 0, .int 0, .int 0, .int 0, .int 0])), (q0, .inl (gC G .int, 12, .inl (fun _ => 0)))] := hD
  have C1 := cx_sk C (k' := 1) (n' := 12) (Nat.le_trans (Nat.le_of_ble_eq_true rfl) hmc) (Nat.le_trans (Nat.le_of_ble_eq_true rfl) hms)
  refine x_putF C1 hin hD (Cn := RX6) (T := TX6) (N := 14) (ci := 5) (q0 := 0) (f := 0) (ty := .array .int) (v := .ref q0) rfl inX6 tyX6_ok nmX6 rfl (Nat.le_of_ble_eq_true rfl) m_62 rfl rfl (by decide +kernel) rfl rfl (Nat.le_of_ble_eq_true rfl) dX6_init_9 rfl (fun hD => ?_)
  show V (setk G 1 12) 2 [(b, .inr (5, [.ref q0, .null, .null, .null, .null, .null, .null, .int 0, .int 0, .int 0, .int 0, .int 0, .int 0, .int 0])), (q0, .inl (gC G .int, 12, .inl (fun _ => 0)))] 12 [(0, .ref b), (1, .ref e1)] []
  have hD : va_D (gA G) [(b, .inr (5, [.ref q0, .null, .null, .null, .null, .null, .null, .int 0, .int 0, .int 0, .int 0, .int 0, .int 0, .int 0])), (q0, .inl (gC G .int, 12, .inl (fun _ => 0)))] := hD
  refine v_aload_n C1 dX6_init_12 rfl rfl 0 rfl ?_
  refine v_bipush C1 dX6_init_13 rfl bi_12 ?_
  refine x_newa C1 hD (N := 12) (by decide) (by decide) m_55 (Nat.le_of_ble_eq_true rfl) (Nat.le_trans (Nat.le_of_ble_eq_true rfl) hmc) (Nat.le_trans (Nat.le_of_ble_eq_true rfl) hms) dX6_init_15 rfl (fun q1 hD => ?_)
  show V (setk G 2 24) 2 [(b, .inr (5, [.ref q0, .null, .null, .null, .null, .null, .null, .int 0, .int 0, .int 0, .int 0, .int 0, .int 0, .int 0])), (q0, .inl (gC G .int, 12, .inl (fun _ => 0))), (q1, .inl (gC G .int, 12, .inl (fun _ => 0)))] 17 [(0, .ref b), (1, .ref e1)] [.ref q1, .ref b]
  have hD : va_D (gA G) [(b, .inr (5, [.ref q0, .null, .null, .null, .null, .null, .null, .int 0, .int 0, .int 0, .int 0, .int 0, .int 0, .int 0])), (q0, .inl (gC G .int, 12, .inl (fun _ => 0))), (q1, .inl (gC G .int, 12, .inl (fun _ => 0)))] := hD
  have C2 := cx_sk C (k' := 2) (n' := 24) (Nat.le_trans (Nat.le_of_ble_eq_true rfl) hmc) (Nat.le_trans (Nat.le_of_ble_eq_true rfl) hms)
  refine x_putF C2 hin hD (Cn := RX6) (T := TX6) (N := 14) (ci := 5) (q0 := 0) (f := 1) (ty := .array .int) (v := .ref q1) rfl inX6 tyX6_ok nmX6 rfl (Nat.le_of_ble_eq_true rfl) m_65 rfl rfl (by decide +kernel) rfl rfl (Nat.le_of_ble_eq_true rfl) dX6_init_17 rfl (fun hD => ?_)
  show V (setk G 2 24) 2 [(b, .inr (5, [.ref q0, .ref q1, .null, .null, .null, .null, .null, .int 0, .int 0, .int 0, .int 0, .int 0, .int 0, .int 0])), (q0, .inl (gC G .int, 12, .inl (fun _ => 0))), (q1, .inl (gC G .int, 12, .inl (fun _ => 0)))] 20 [(0, .ref b), (1, .ref e1)] []
  have hD : va_D (gA G) [(b, .inr (5, [.ref q0, .ref q1, .null, .null, .null, .null, .null, .int 0, .int 0, .int 0, .int 0, .int 0, .int 0, .int 0])), (q0, .inl (gC G .int, 12, .inl (fun _ => 0))), (q1, .inl (gC G .int, 12, .inl (fun _ => 0)))] := hD
  refine v_aload_n C2 dX6_init_20 rfl rfl 0 rfl ?_
  refine v_bipush C2 dX6_init_21 rfl bi_12 ?_
  refine x_newa C2 hD (N := 12) (by decide) (by decide) m_55 (Nat.le_of_ble_eq_true rfl) (Nat.le_trans (Nat.le_of_ble_eq_true rfl) hmc) (Nat.le_trans (Nat.le_of_ble_eq_true rfl) hms) dX6_init_23 rfl (fun q2 hD => ?_)
  show V (setk G 3 36) 2 [(b, .inr (5, [.ref q0, .ref q1, .null, .null, .null, .null, .null, .int 0, .int 0, .int 0, .int 0, .int 0, .int 0, .int 0])), (q0, .inl (gC G .int, 12, .inl (fun _ => 0))), (q1, .inl (gC G .int, 12, .inl (fun _ => 0))), (q2, .inl (gC G .int, 12, .inl (fun _ => 0)))] 25 [(0, .ref b), (1, .ref e1)] [.ref q2, .ref b]
  have hD : va_D (gA G) [(b, .inr (5, [.ref q0, .ref q1, .null, .null, .null, .null, .null, .int 0, .int 0, .int 0, .int 0, .int 0, .int 0, .int 0])), (q0, .inl (gC G .int, 12, .inl (fun _ => 0))), (q1, .inl (gC G .int, 12, .inl (fun _ => 0))), (q2, .inl (gC G .int, 12, .inl (fun _ => 0)))] := hD
  have C3 := cx_sk C (k' := 3) (n' := 36) (Nat.le_trans (Nat.le_of_ble_eq_true rfl) hmc) (Nat.le_trans (Nat.le_of_ble_eq_true rfl) hms)
  refine x_putF C3 hin hD (Cn := RX6) (T := TX6) (N := 14) (ci := 5) (q0 := 0) (f := 2) (ty := .array .int) (v := .ref q2) rfl inX6 tyX6_ok nmX6 rfl (Nat.le_of_ble_eq_true rfl) m_68 rfl rfl (by decide +kernel) rfl rfl (Nat.le_of_ble_eq_true rfl) dX6_init_25 rfl (fun hD => ?_)
  show V (setk G 3 36) 2 [(b, .inr (5, [.ref q0, .ref q1, .ref q2, .null, .null, .null, .null, .int 0, .int 0, .int 0, .int 0, .int 0, .int 0, .int 0])), (q0, .inl (gC G .int, 12, .inl (fun _ => 0))), (q1, .inl (gC G .int, 12, .inl (fun _ => 0))), (q2, .inl (gC G .int, 12, .inl (fun _ => 0)))] 28 [(0, .ref b), (1, .ref e1)] []
  have hD : va_D (gA G) [(b, .inr (5, [.ref q0, .ref q1, .ref q2, .null, .null, .null, .null, .int 0, .int 0, .int 0, .int 0, .int 0, .int 0, .int 0])), (q0, .inl (gC G .int, 12, .inl (fun _ => 0))), (q1, .inl (gC G .int, 12, .inl (fun _ => 0))), (q2, .inl (gC G .int, 12, .inl (fun _ => 0)))] := hD
  refine v_aload_n C3 dX6_init_28 rfl rfl 0 rfl ?_
  refine v_bipush C3 dX6_init_29 rfl bi_12 ?_
  refine x_newa C3 hD (N := 12) (by decide) (by decide) m_55 (Nat.le_of_ble_eq_true rfl) (Nat.le_trans (Nat.le_of_ble_eq_true rfl) hmc) (Nat.le_trans (Nat.le_of_ble_eq_true rfl) hms) dX6_init_31 rfl (fun q3 hD => ?_)
  show V (setk G 4 48) 2 [(b, .inr (5, [.ref q0, .ref q1, .ref q2, .null, .null, .null, .null, .int 0, .int 0, .int 0, .int 0, .int 0, .int 0, .int 0])), (q0, .inl (gC G .int, 12, .inl (fun _ => 0))), (q1, .inl (gC G .int, 12, .inl (fun _ => 0))), (q2, .inl (gC G .int, 12, .inl (fun _ => 0))), (q3, .inl (gC G .int, 12, .inl (fun _ => 0)))] 33 [(0, .ref b), (1, .ref e1)] [.ref q3, .ref b]
  have hD : va_D (gA G) [(b, .inr (5, [.ref q0, .ref q1, .ref q2, .null, .null, .null, .null, .int 0, .int 0, .int 0, .int 0, .int 0, .int 0, .int 0])), (q0, .inl (gC G .int, 12, .inl (fun _ => 0))), (q1, .inl (gC G .int, 12, .inl (fun _ => 0))), (q2, .inl (gC G .int, 12, .inl (fun _ => 0))), (q3, .inl (gC G .int, 12, .inl (fun _ => 0)))] := hD
  have C4 := cx_sk C (k' := 4) (n' := 48) (Nat.le_trans (Nat.le_of_ble_eq_true rfl) hmc) (Nat.le_trans (Nat.le_of_ble_eq_true rfl) hms)
  refine x_putF C4 hin hD (Cn := RX6) (T := TX6) (N := 14) (ci := 5) (q0 := 0) (f := 3) (ty := .array .int) (v := .ref q3) rfl inX6 tyX6_ok nmX6 rfl (Nat.le_of_ble_eq_true rfl) m_71 rfl rfl (by decide +kernel) rfl rfl (Nat.le_of_ble_eq_true rfl) dX6_init_33 rfl (fun hD => ?_)
  show V (setk G 4 48) 2 [(b, .inr (5, [.ref q0, .ref q1, .ref q2, .ref q3, .null, .null, .null, .int 0, .int 0, .int 0, .int 0, .int 0, .int 0, .int 0])), (q0, .inl (gC G .int, 12, .inl (fun _ => 0))), (q1, .inl (gC G .int, 12, .inl (fun _ => 0))), (q2, .inl (gC G .int, 12, .inl (fun _ => 0))), (q3, .inl (gC G .int, 12, .inl (fun _ => 0)))] 36 [(0, .ref b), (1, .ref e1)] []
  have hD : va_D (gA G) [(b, .inr (5, [.ref q0, .ref q1, .ref q2, .ref q3, .null, .null, .null, .int 0, .int 0, .int 0, .int 0, .int 0, .int 0, .int 0])), (q0, .inl (gC G .int, 12, .inl (fun _ => 0))), (q1, .inl (gC G .int, 12, .inl (fun _ => 0))), (q2, .inl (gC G .int, 12, .inl (fun _ => 0))), (q3, .inl (gC G .int, 12, .inl (fun _ => 0)))] := hD
  refine v_aload_n C4 dX6_init_36 rfl rfl 0 rfl ?_
  refine v_iconst C4 dX6_init_37 rfl ic_3 ?_
  refine x_newa C4 hD (N := 3) (by decide) (by decide) m_55 (Nat.le_of_ble_eq_true rfl) (Nat.le_trans (Nat.le_of_ble_eq_true rfl) hmc) (Nat.le_trans (Nat.le_of_ble_eq_true rfl) hms) dX6_init_38 rfl (fun q4 hD => ?_)
  show V (setk G 5 51) 2 [(b, .inr (5, [.ref q0, .ref q1, .ref q2, .ref q3, .null, .null, .null, .int 0, .int 0, .int 0, .int 0, .int 0, .int 0, .int 0])), (q0, .inl (gC G .int, 12, .inl (fun _ => 0))), (q1, .inl (gC G .int, 12, .inl (fun _ => 0))), (q2, .inl (gC G .int, 12, .inl (fun _ => 0))), (q3, .inl (gC G .int, 12, .inl (fun _ => 0))), (q4, .inl (gC G .int, 3, .inl (fun _ => 0)))] 40 [(0, .ref b), (1, .ref e1)] [.ref q4, .ref b]
  have hD : va_D (gA G) [(b, .inr (5, [.ref q0, .ref q1, .ref q2, .ref q3, .null, .null, .null, .int 0, .int 0, .int 0, .int 0, .int 0, .int 0, .int 0])), (q0, .inl (gC G .int, 12, .inl (fun _ => 0))), (q1, .inl (gC G .int, 12, .inl (fun _ => 0))), (q2, .inl (gC G .int, 12, .inl (fun _ => 0))), (q3, .inl (gC G .int, 12, .inl (fun _ => 0))), (q4, .inl (gC G .int, 3, .inl (fun _ => 0)))] := hD
  have C5 := cx_sk C (k' := 5) (n' := 51) (Nat.le_trans (Nat.le_of_ble_eq_true rfl) hmc) (Nat.le_trans (Nat.le_of_ble_eq_true rfl) hms)
  refine v_dup C5 dX6_init_40 rfl rfl ?_
  refine v_iconst C5 dX6_init_41 rfl ic_0 ?_
  refine v_bipush C5 dX6_init_42 rfl bi_30 ?_
  refine x_iast C5 hD (q0 := 5) (N := 3) (j := 0) rfl (by decide) (by decide) dX6_init_44 rfl (fun hD => ?_)
  show V (setk G 5 51) 2 [(b, .inr (5, [.ref q0, .ref q1, .ref q2, .ref q3, .null, .null, .null, .int 0, .int 0, .int 0, .int 0, .int 0, .int 0, .int 0])), (q0, .inl (gC G .int, 12, .inl (fun _ => 0))), (q1, .inl (gC G .int, 12, .inl (fun _ => 0))), (q2, .inl (gC G .int, 12, .inl (fun _ => 0))), (q3, .inl (gC G .int, 12, .inl (fun _ => 0))), (q4, .inl (gC G .int, 3, .inl (upd (fun _ => 0) 0 30)))] 45 [(0, .ref b), (1, .ref e1)] [.ref q4, .ref b]
  have hD : va_D (gA G) [(b, .inr (5, [.ref q0, .ref q1, .ref q2, .ref q3, .null, .null, .null, .int 0, .int 0, .int 0, .int 0, .int 0, .int 0, .int 0])), (q0, .inl (gC G .int, 12, .inl (fun _ => 0))), (q1, .inl (gC G .int, 12, .inl (fun _ => 0))), (q2, .inl (gC G .int, 12, .inl (fun _ => 0))), (q3, .inl (gC G .int, 12, .inl (fun _ => 0))), (q4, .inl (gC G .int, 3, .inl (upd (fun _ => 0) 0 30)))] := hD
  refine v_dup C5 dX6_init_45 rfl rfl ?_
  refine v_iconst C5 dX6_init_46 rfl ic_1 ?_
  refine v_bipush C5 dX6_init_47 rfl bi_20 ?_
  refine x_iast C5 hD (q0 := 5) (N := 3) (j := 1) rfl (by decide) (by decide) dX6_init_49 rfl (fun hD => ?_)
  show V (setk G 5 51) 2 [(b, .inr (5, [.ref q0, .ref q1, .ref q2, .ref q3, .null, .null, .null, .int 0, .int 0, .int 0, .int 0, .int 0, .int 0, .int 0])), (q0, .inl (gC G .int, 12, .inl (fun _ => 0))), (q1, .inl (gC G .int, 12, .inl (fun _ => 0))), (q2, .inl (gC G .int, 12, .inl (fun _ => 0))), (q3, .inl (gC G .int, 12, .inl (fun _ => 0))), (q4, .inl (gC G .int, 3, .inl (upd (upd (fun _ => 0) 0 30) 1 20)))] 50 [(0, .ref b), (1, .ref e1)] [.ref q4, .ref b]
  have hD : va_D (gA G) [(b, .inr (5, [.ref q0, .ref q1, .ref q2, .ref q3, .null, .null, .null, .int 0, .int 0, .int 0, .int 0, .int 0, .int 0, .int 0])), (q0, .inl (gC G .int, 12, .inl (fun _ => 0))), (q1, .inl (gC G .int, 12, .inl (fun _ => 0))), (q2, .inl (gC G .int, 12, .inl (fun _ => 0))), (q3, .inl (gC G .int, 12, .inl (fun _ => 0))), (q4, .inl (gC G .int, 3, .inl (upd (upd (fun _ => 0) 0 30) 1 20)))] := hD
  refine v_dup C5 dX6_init_50 rfl rfl ?_
  refine v_iconst C5 dX6_init_51 rfl ic_2 ?_
  refine v_bipush C5 dX6_init_52 rfl bi_20 ?_
  refine x_iast C5 hD (q0 := 5) (N := 3) (j := 2) rfl (by decide) (by decide) dX6_init_54 rfl (fun hD => ?_)
  show V (setk G 5 51) 2 [(b, .inr (5, [.ref q0, .ref q1, .ref q2, .ref q3, .null, .null, .null, .int 0, .int 0, .int 0, .int 0, .int 0, .int 0, .int 0])), (q0, .inl (gC G .int, 12, .inl (fun _ => 0))), (q1, .inl (gC G .int, 12, .inl (fun _ => 0))), (q2, .inl (gC G .int, 12, .inl (fun _ => 0))), (q3, .inl (gC G .int, 12, .inl (fun _ => 0))), (q4, .inl (gC G .int, 3, .inl (upd (upd (upd (fun _ => 0) 0 30) 1 20) 2 20)))] 55 [(0, .ref b), (1, .ref e1)] [.ref q4, .ref b]
  have hD : va_D (gA G) [(b, .inr (5, [.ref q0, .ref q1, .ref q2, .ref q3, .null, .null, .null, .int 0, .int 0, .int 0, .int 0, .int 0, .int 0, .int 0])), (q0, .inl (gC G .int, 12, .inl (fun _ => 0))), (q1, .inl (gC G .int, 12, .inl (fun _ => 0))), (q2, .inl (gC G .int, 12, .inl (fun _ => 0))), (q3, .inl (gC G .int, 12, .inl (fun _ => 0))), (q4, .inl (gC G .int, 3, .inl (upd (upd (upd (fun _ => 0) 0 30) 1 20) 2 20)))] := hD
  refine x_putF C5 hin hD (Cn := RX6) (T := TX6) (N := 14) (ci := 5) (q0 := 0) (f := 4) (ty := .array .int) (v := .ref q4) rfl inX6 tyX6_ok nmX6 rfl (Nat.le_of_ble_eq_true rfl) m_73 rfl rfl (by decide +kernel) rfl rfl (Nat.le_of_ble_eq_true rfl) dX6_init_55 rfl (fun hD => ?_)
  show V (setk G 5 51) 2 [(b, .inr (5, [.ref q0, .ref q1, .ref q2, .ref q3, .ref q4, .null, .null, .int 0, .int 0, .int 0, .int 0, .int 0, .int 0, .int 0])), (q0, .inl (gC G .int, 12, .inl (fun _ => 0))), (q1, .inl (gC G .int, 12, .inl (fun _ => 0))), (q2, .inl (gC G .int, 12, .inl (fun _ => 0))), (q3, .inl (gC G .int, 12, .inl (fun _ => 0))), (q4, .inl (gC G .int, 3, .inl (upd (upd (upd (fun _ => 0) 0 30) 1 20) 2 20)))] 58 [(0, .ref b), (1, .ref e1)] []
  have hD : va_D (gA G) [(b, .inr (5, [.ref q0, .ref q1, .ref q2, .ref q3, .ref q4, .null, .null, .int 0, .int 0, .int 0, .int 0, .int 0, .int 0, .int 0])), (q0, .inl (gC G .int, 12, .inl (fun _ => 0))), (q1, .inl (gC G .int, 12, .inl (fun _ => 0))), (q2, .inl (gC G .int, 12, .inl (fun _ => 0))), (q3, .inl (gC G .int, 12, .inl (fun _ => 0))), (q4, .inl (gC G .int, 3, .inl (upd (upd (upd (fun _ => 0) 0 30) 1 20) 2 20)))] := hD
  refine v_aload_n C5 dX6_init_58 rfl rfl 0 rfl ?_
  refine v_iconst C5 dX6_init_59 rfl ic_3 ?_
  refine x_newa C5 hD (N := 3) (by decide) (by decide) m_55 (Nat.le_of_ble_eq_true rfl) (Nat.le_trans (Nat.le_of_ble_eq_true rfl) hmc) (Nat.le_trans (Nat.le_of_ble_eq_true rfl) hms) dX6_init_60 rfl (fun q5 hD => ?_)
  show V (setk G 6 54) 2 [(b, .inr (5, [.ref q0, .ref q1, .ref q2, .ref q3, .ref q4, .null, .null, .int 0, .int 0, .int 0, .int 0, .int 0, .int 0, .int 0])), (q0, .inl (gC G .int, 12, .inl (fun _ => 0))), (q1, .inl (gC G .int, 12, .inl (fun _ => 0))), (q2, .inl (gC G .int, 12, .inl (fun _ => 0))), (q3, .inl (gC G .int, 12, .inl (fun _ => 0))), (q4, .inl (gC G .int, 3, .inl (upd (upd (upd (fun _ => 0) 0 30) 1 20) 2 20))), (q5, .inl (gC G .int, 3, .inl (fun _ => 0)))] 62 [(0, .ref b), (1, .ref e1)] [.ref q5, .ref b]
  have hD : va_D (gA G) [(b, .inr (5, [.ref q0, .ref q1, .ref q2, .ref q3, .ref q4, .null, .null, .int 0, .int 0, .int 0, .int 0, .int 0, .int 0, .int 0])), (q0, .inl (gC G .int, 12, .inl (fun _ => 0))), (q1, .inl (gC G .int, 12, .inl (fun _ => 0))), (q2, .inl (gC G .int, 12, .inl (fun _ => 0))), (q3, .inl (gC G .int, 12, .inl (fun _ => 0))), (q4, .inl (gC G .int, 3, .inl (upd (upd (upd (fun _ => 0) 0 30) 1 20) 2 20))), (q5, .inl (gC G .int, 3, .inl (fun _ => 0)))] := hD
  have C6 := cx_sk C (k' := 6) (n' := 54) (Nat.le_trans (Nat.le_of_ble_eq_true rfl) hmc) (Nat.le_trans (Nat.le_of_ble_eq_true rfl) hms)
  refine v_dup C6 dX6_init_62 rfl rfl ?_
  refine v_iconst C6 dX6_init_63 rfl ic_0 ?_
  refine v_iconst C6 dX6_init_64 rfl ic_n1 ?_
  refine x_iast C6 hD (q0 := 6) (N := 3) (j := 0) rfl (by decide) (by decide) dX6_init_65 rfl (fun hD => ?_)
  show V (setk G 6 54) 2 [(b, .inr (5, [.ref q0, .ref q1, .ref q2, .ref q3, .ref q4, .null, .null, .int 0, .int 0, .int 0, .int 0, .int 0, .int 0, .int 0])), (q0, .inl (gC G .int, 12, .inl (fun _ => 0))), (q1, .inl (gC G .int, 12, .inl (fun _ => 0))), (q2, .inl (gC G .int, 12, .inl (fun _ => 0))), (q3, .inl (gC G .int, 12, .inl (fun _ => 0))), (q4, .inl (gC G .int, 3, .inl (upd (upd (upd (fun _ => 0) 0 30) 1 20) 2 20))), (q5, .inl (gC G .int, 3, .inl (upd (fun _ => 0) 0 (-1))))] 66 [(0, .ref b), (1, .ref e1)] [.ref q5, .ref b]
  have hD : va_D (gA G) [(b, .inr (5, [.ref q0, .ref q1, .ref q2, .ref q3, .ref q4, .null, .null, .int 0, .int 0, .int 0, .int 0, .int 0, .int 0, .int 0])), (q0, .inl (gC G .int, 12, .inl (fun _ => 0))), (q1, .inl (gC G .int, 12, .inl (fun _ => 0))), (q2, .inl (gC G .int, 12, .inl (fun _ => 0))), (q3, .inl (gC G .int, 12, .inl (fun _ => 0))), (q4, .inl (gC G .int, 3, .inl (upd (upd (upd (fun _ => 0) 0 30) 1 20) 2 20))), (q5, .inl (gC G .int, 3, .inl (upd (fun _ => 0) 0 (-1))))] := hD
  refine v_dup C6 dX6_init_66 rfl rfl ?_
  refine v_iconst C6 dX6_init_67 rfl ic_1 ?_
  refine v_iconst C6 dX6_init_68 rfl ic_n1 ?_
  refine x_iast C6 hD (q0 := 6) (N := 3) (j := 1) rfl (by decide) (by decide) dX6_init_69 rfl (fun hD => ?_)
  show V (setk G 6 54) 2 [(b, .inr (5, [.ref q0, .ref q1, .ref q2, .ref q3, .ref q4, .null, .null, .int 0, .int 0, .int 0, .int 0, .int 0, .int 0, .int 0])), (q0, .inl (gC G .int, 12, .inl (fun _ => 0))), (q1, .inl (gC G .int, 12, .inl (fun _ => 0))), (q2, .inl (gC G .int, 12, .inl (fun _ => 0))), (q3, .inl (gC G .int, 12, .inl (fun _ => 0))), (q4, .inl (gC G .int, 3, .inl (upd (upd (upd (fun _ => 0) 0 30) 1 20) 2 20))), (q5, .inl (gC G .int, 3, .inl (upd (upd (fun _ => 0) 0 (-1)) 1 (-1))))] 70 [(0, .ref b), (1, .ref e1)] [.ref q5, .ref b]
  have hD : va_D (gA G) [(b, .inr (5, [.ref q0, .ref q1, .ref q2, .ref q3, .ref q4, .null, .null, .int 0, .int 0, .int 0, .int 0, .int 0, .int 0, .int 0])), (q0, .inl (gC G .int, 12, .inl (fun _ => 0))), (q1, .inl (gC G .int, 12, .inl (fun _ => 0))), (q2, .inl (gC G .int, 12, .inl (fun _ => 0))), (q3, .inl (gC G .int, 12, .inl (fun _ => 0))), (q4, .inl (gC G .int, 3, .inl (upd (upd (upd (fun _ => 0) 0 30) 1 20) 2 20))), (q5, .inl (gC G .int, 3, .inl (upd (upd (fun _ => 0) 0 (-1)) 1 (-1))))] := hD
  refine v_dup C6 dX6_init_70 rfl rfl ?_
  refine v_iconst C6 dX6_init_71 rfl ic_2 ?_
  refine v_iconst C6 dX6_init_72 rfl ic_n1 ?_
  refine x_iast C6 hD (q0 := 6) (N := 3) (j := 2) rfl (by decide) (by decide) dX6_init_73 rfl (fun hD => ?_)
  show V (setk G 6 54) 2 [(b, .inr (5, [.ref q0, .ref q1, .ref q2, .ref q3, .ref q4, .null, .null, .int 0, .int 0, .int 0, .int 0, .int 0, .int 0, .int 0])), (q0, .inl (gC G .int, 12, .inl (fun _ => 0))), (q1, .inl (gC G .int, 12, .inl (fun _ => 0))), (q2, .inl (gC G .int, 12, .inl (fun _ => 0))), (q3, .inl (gC G .int, 12, .inl (fun _ => 0))), (q4, .inl (gC G .int, 3, .inl (upd (upd (upd (fun _ => 0) 0 30) 1 20) 2 20))), (q5, .inl (gC G .int, 3, .inl (upd (upd (upd (fun _ => 0) 0 (-1)) 1 (-1)) 2 (-1))))] 74 [(0, .ref b), (1, .ref e1)] [.ref q5, .ref b]
  have hD : va_D (gA G) [(b, .inr (5, [.ref q0, .ref q1, .ref q2, .ref q3, .ref q4, .null, .null, .int 0, .int 0, .int 0, .int 0, .int 0, .int 0, .int 0])), (q0, .inl (gC G .int, 12, .inl (fun _ => 0))), (q1, .inl (gC G .int, 12, .inl (fun _ => 0))), (q2, .inl (gC G .int, 12, .inl (fun _ => 0))), (q3, .inl (gC G .int, 12, .inl (fun _ => 0))), (q4, .inl (gC G .int, 3, .inl (upd (upd (upd (fun _ => 0) 0 30) 1 20) 2 20))), (q5, .inl (gC G .int, 3, .inl (upd (upd (upd (fun _ => 0) 0 (-1)) 1 (-1)) 2 (-1))))] := hD
  refine x_putF C6 hin hD (Cn := RX6) (T := TX6) (N := 14) (ci := 5) (q0 := 0) (f := 5) (ty := .array .int) (v := .ref q5) rfl inX6 tyX6_ok nmX6 rfl (Nat.le_of_ble_eq_true rfl) m_75 rfl rfl (by decide +kernel) rfl rfl (Nat.le_of_ble_eq_true rfl) dX6_init_74 rfl (fun hD => ?_)
  show V (setk G 6 54) 2 [(b, .inr (5, [.ref q0, .ref q1, .ref q2, .ref q3, .ref q4, .ref q5, .null, .int 0, .int 0, .int 0, .int 0, .int 0, .int 0, .int 0])), (q0, .inl (gC G .int, 12, .inl (fun _ => 0))), (q1, .inl (gC G .int, 12, .inl (fun _ => 0))), (q2, .inl (gC G .int, 12, .inl (fun _ => 0))), (q3, .inl (gC G .int, 12, .inl (fun _ => 0))), (q4, .inl (gC G .int, 3, .inl (upd (upd (upd (fun _ => 0) 0 30) 1 20) 2 20))), (q5, .inl (gC G .int, 3, .inl (upd (upd (upd (fun _ => 0) 0 (-1)) 1 (-1)) 2 (-1))))] 77 [(0, .ref b), (1, .ref e1)] []
  have hD : va_D (gA G) [(b, .inr (5, [.ref q0, .ref q1, .ref q2, .ref q3, .ref q4, .ref q5, .null, .int 0, .int 0, .int 0, .int 0, .int 0, .int 0, .int 0])), (q0, .inl (gC G .int, 12, .inl (fun _ => 0))), (q1, .inl (gC G .int, 12, .inl (fun _ => 0))), (q2, .inl (gC G .int, 12, .inl (fun _ => 0))), (q3, .inl (gC G .int, 12, .inl (fun _ => 0))), (q4, .inl (gC G .int, 3, .inl (upd (upd (upd (fun _ => 0) 0 30) 1 20) 2 20))), (q5, .inl (gC G .int, 3, .inl (upd (upd (upd (fun _ => 0) 0 (-1)) 1 (-1)) 2 (-1))))] := hD
  refine v_aload_n C6 dX6_init_77 rfl rfl 0 rfl ?_
  refine v_iconst C6 dX6_init_78 rfl ic_1 ?_
  refine x_put C6 hD (Cn := RX6) (T := TX6) (N := 14) (ci := 5) (q0 := 0) (f := 12) (ty := .int) (v := .int 1) rfl inX6 tyX6_ok nmX6 rfl (Nat.le_of_ble_eq_true rfl) m_92 rfl (by decide +kernel) rfl rfl (Nat.le_of_ble_eq_true rfl) dX6_init_79 rfl (fun hD => ?_)
  show V (setk G 6 54) 2 [(b, .inr (5, [.ref q0, .ref q1, .ref q2, .ref q3, .ref q4, .ref q5, .null, .int 0, .int 0, .int 0, .int 0, .int 0, .int 1, .int 0])), (q0, .inl (gC G .int, 12, .inl (fun _ => 0))), (q1, .inl (gC G .int, 12, .inl (fun _ => 0))), (q2, .inl (gC G .int, 12, .inl (fun _ => 0))), (q3, .inl (gC G .int, 12, .inl (fun _ => 0))), (q4, .inl (gC G .int, 3, .inl (upd (upd (upd (fun _ => 0) 0 30) 1 20) 2 20))), (q5, .inl (gC G .int, 3, .inl (upd (upd (upd (fun _ => 0) 0 (-1)) 1 (-1)) 2 (-1))))] 82 [(0, .ref b), (1, .ref e1)] []
  have hD : va_D (gA G) [(b, .inr (5, [.ref q0, .ref q1, .ref q2, .ref q3, .ref q4, .ref q5, .null, .int 0, .int 0, .int 0, .int 0, .int 0, .int 1, .int 0])), (q0, .inl (gC G .int, 12, .inl (fun _ => 0))), (q1, .inl (gC G .int, 12, .inl (fun _ => 0))), (q2, .inl (gC G .int, 12, .inl (fun _ => 0))), (q3, .inl (gC G .int, 12, .inl (fun _ => 0))), (q4, .inl (gC G .int, 3, .inl (upd (upd (upd (fun _ => 0) 0 30) 1 20) 2 20))), (q5, .inl (gC G .int, 3, .inl (upd (upd (upd (fun _ => 0) 0 (-1)) 1 (-1)) 2 (-1))))] := hD
  refine v_aload_n C6 dX6_init_82 rfl rfl 0 rfl ?_
  refine v_aload_n C6 dX6_init_83 rfl rfl 1 rfl ?_
  refine x_putF C6 hin hD (Cn := RX6) (T := TX6) (N := 14) (ci := 5) (q0 := 0) (f := 6) (ty := .object RX5) (v := .ref e1) rfl inX6 tyX6_ok nmX6 rfl (Nat.le_of_ble_eq_true rfl) m_77 rfl rfl (by decide +kernel) rfl rfl (Nat.le_of_ble_eq_true rfl) dX6_init_84 rfl (fun hD => ?_)
  show V (setk G 6 54) 2 [(b, .inr (5, [.ref q0, .ref q1, .ref q2, .ref q3, .ref q4, .ref q5, .ref e1, .int 0, .int 0, .int 0, .int 0, .int 0, .int 1, .int 0])), (q0, .inl (gC G .int, 12, .inl (fun _ => 0))), (q1, .inl (gC G .int, 12, .inl (fun _ => 0))), (q2, .inl (gC G .int, 12, .inl (fun _ => 0))), (q3, .inl (gC G .int, 12, .inl (fun _ => 0))), (q4, .inl (gC G .int, 3, .inl (upd (upd (upd (fun _ => 0) 0 30) 1 20) 2 20))), (q5, .inl (gC G .int, 3, .inl (upd (upd (upd (fun _ => 0) 0 (-1)) 1 (-1)) 2 (-1))))] 87 [(0, .ref b), (1, .ref e1)] []
  have hD : va_D (gA G) [(b, .inr (5, [.ref q0, .ref q1, .ref q2, .ref q3, .ref q4, .ref q5, .ref e1, .int 0, .int 0, .int 0, .int 0, .int 0, .int 1, .int 0])), (q0, .inl (gC G .int, 12, .inl (fun _ => 0))), (q1, .inl (gC G .int, 12, .inl (fun _ => 0))), (q2, .inl (gC G .int, 12, .inl (fun _ => 0))), (q3, .inl (gC G .int, 12, .inl (fun _ => 0))), (q4, .inl (gC G .int, 3, .inl (upd (upd (upd (fun _ => 0) 0 30) 1 20) 2 20))), (q5, .inl (gC G .int, 3, .inl (upd (upd (upd (fun _ => 0) 0 (-1)) 1 (-1)) 2 (-1))))] := hD
  exact RET 87 _ (fun i => ([q0, q1, q2, q3, q4, q5] : List Nat).getD i 0) dX6_init_87 hD
