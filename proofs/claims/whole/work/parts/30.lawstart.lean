/-! THE CLAIM OUT OF ONE WALK OF THE LAW'S BODY. Your part is whole_start (and what it stands on); all else here is the same for every law, but numbers. -/
def R_law : String := "KnitStreetsLaw"
def lw_P (b : Addr) (xs : List Int32) (args : Array Value) (s : State) : Prop := args = #[.ref b] ∧ s.IntsAt b xs ∧ xs.length ≤ 3072 ∧ (Jvm.Cond.and given_1 narrow_1).before args s = true
def lw_Q (_ : Array Value) (s : State) (o : Outcome) (t : State) : Prop := o = .returned (some (.int 1)) ∧ Framed s o t [] 600000 7302250
def lw_Z (below : List Frame) (a : Array Value) (s : State) : State → Prop := fun t => ∃ o, t.status = .running ∧ Ended t below o ∧ lw_Q a s o t
/-- the law's own end, with 1 on the stack, nothing written that was there before, its room as the claim has it -/
theorem lw_ret {p : Program} {l : Launch} {e : Env} {s : State} {m : MethodId} {below : List Frame} {meth : Method} {c : Code} {b : Nat} (hx : p.tables.exec = Jvm.exec) (hb : c.code = code) (hr : meth.sig.returnType = ret) (hlocks : meth.locks = false) {pc : Nat} {H : Heap} {ls : Array Slot} (hdg : decode code pc = .ok (.ireturn, 1)) : W p l e room_1 s m #[Value.ref b] below meth c H [] 600000 7302250 (lw_Z below #[Value.ref b] s) (F0 m pc ls [.int 1]) := by
  intro T hT X
  obtain ⟨fs, hret, hrun, hended, hW, hframe⟩ := X.leave (v := some (.int 1)) (hlocks := hlocks) (fun h => by rw [hr] at h; cases h)
  have hmeth' : T.vm.method? m = some meth := X.method'
  refine ⟨T.setFrames fs, ?_, .returned (some (.int 1)), hrun, hended, rfl, ⟨_, rfl⟩, hW, hframe⟩
  jvm_step X.here [X.here.top, hx, hb, hdg, hmeth', hr, ret, narrow_b1]
  (try refine ⟨rfl, ?_⟩); (try refine ⟨rfl, ?_⟩)
  first | (intro acts; rw [hret _ acts rfl rfl rfl]) | rw [hret _ _ rfl rfl rfl]
  exact Steps.refl _
/-- what holds at the law's entry: the machine, the code, the tables' words (any of lw_tbl by 'hts w (by decide +kernel)'), the script of L ints xs at the cell b, what the Statement gives of the start (any of its parts by flat_of_before) -/
def lw_At (p : Program) (s : State) (m : MethodId) (meth : Method) (c : Code) (b L : Nat) (xs : Nat → Int32) : Prop :=
  p.tables.exec = Jvm.exec ∧ c.code = code ∧ meth.sig.returnType = ret ∧ c.maxLocals = 4 ∧ s.vm.findClass R_law = some m.cls ∧ (∀ w ∈ lw_tbl, w.before #[Value.ref b] s = true) ∧ va_X b L xs s s.heap ∧ b < s.heap.size ∧ meth.locks = false ∧ (Jvm.Cond.and given_1 narrow_1).before #[Value.ref b] s = true
/-! what is given at the start -/
theorem oAA_spec {args : Array Value} {s : State} (h : (Cond.arrayOver (.array .int)).before args s = true) : ∃ (c : ClassId) (k : Class) (comp : ClassId), s.vm.findClass ("[" ++ (FieldType.array .int).toString) = some c ∧ s.vm.classes[c]? = some k ∧ k.kind = .array comp (.array .int) := by
  simp only [Cond.before, Cond.holds, Cond.value, beq_iff_eq, Option.bind_eq_some_iff, Option.map_eq_some_iff, Option.some.injEq] at h
  obtain ⟨comp, hc, c, hi, k, hk, hb⟩ := h
  cases hkind : k.kind with
  | array component ty =>
    rw [hkind] at hb
    simp only [Bool.and_eq_true, decide_eq_true_eq] at hb
    exact ⟨c, k, component, hb.2, hk, by rw [hkind, hb.1]⟩
  | _ =>
    rw [hkind] at hb
    simp at hb

theorem law_ex {args : Array Value} {s : State} (hts : ∀ w ∈ lw_tbl, w.before args s = true) (hgv : (Jvm.Cond.and given_1 narrow_1).before args s = true) : ∃ X : Ex, exF X (fun q : Nat => s.heap.size ≤ q) s s.heap := by
  have hs := flat_of_before _ hgv
  have hA : ∀ a : Nat, a < s.heap.size → ¬ (fun q : Nat => s.heap.size ≤ q) a := fun a h => Nat.not_le.mpr h
  obtain ⟨t, ht, hT⟩ := va_Tof (args := args) (s := s) (tm := .static "KnitStreets$Kinds" "ABOVE" "[I") (ty := .int) (N := 6) (f := fun j => .int (abv j)) (A := fun q : Nat => s.heap.size ≤ q) (by decide) (hs _ (by decide +kernel)) (va_eqt (hs _ (by decide +kernel)))
    (fun j hj => va_eqt (z := abv j) (by
      match j, hj with
      | 0, _ => exact hs (.eq (.elem (.static "KnitStreets$Kinds" "ABOVE" "[I") (.int 0)) (.int (-1))) (by decide +kernel)
      | 1, _ => exact hs (.eq (.elem (.static "KnitStreets$Kinds" "ABOVE" "[I") (.int 1)) (.int 0)) (by decide +kernel)
      | 2, _ => exact hs (.eq (.elem (.static "KnitStreets$Kinds" "ABOVE" "[I") (.int 2)) (.int 0)) (by decide +kernel)
      | 3, _ => exact hs (.eq (.elem (.static "KnitStreets$Kinds" "ABOVE" "[I") (.int 3)) (.int 1)) (by decide +kernel)
      | 4, _ => exact hs (.eq (.elem (.static "KnitStreets$Kinds" "ABOVE" "[I") (.int 4)) (.int 2)) (by decide +kernel)
      | 5, _ => exact hs (.eq (.elem (.static "KnitStreets$Kinds" "ABOVE" "[I") (.int 5)) (.int 0)) (by decide +kernel))) hA
  obtain ⟨adK, adV, hV, hR⟩ := vk_Sof (args := args) (s := s) (N := 3) (tm := fun i => match i with | 0 => .string "KnitStreets$Reader" 64 | 1 => .string "KnitStreets$Reader" 72 | _ => .string "KnitStreets$Reader" 74) (len := strL) (byt := strB) (A := fun q : Nat => s.heap.size ≤ q)
    (fun i hi => by match i, hi with | 0, _ => decide | 1, _ => decide | 2, _ => decide)
    (fun i hi => by match i, hi with | 0, _ => exact hs _ (by decide +kernel) | 1, _ => exact hs _ (by decide +kernel) | 2, _ => exact hs _ (by decide +kernel))
    (fun i hi => by match i, hi with | 0, _ => exact hs _ (by decide +kernel) | 1, _ => exact hs _ (by decide +kernel) | 2, _ => exact hs _ (by decide +kernel))
    (fun i hi => by match i, hi with | 0, _ => exact hs _ (by decide +kernel) | 1, _ => exact hs _ (by decide +kernel) | 2, _ => exact hs _ (by decide +kernel))
    (fun i hi => by match i, hi with | 0, _ => exact hs (.eq (.length (.field (.string "KnitStreets$Reader" 64) "java/lang/String" "value" "[B")) (.int 4)) (by decide +kernel) | 1, _ => exact hs (.eq (.length (.field (.string "KnitStreets$Reader" 72) "java/lang/String" "value" "[B")) (.int 3)) (by decide +kernel) | 2, _ => exact hs (.eq (.length (.field (.string "KnitStreets$Reader" 74) "java/lang/String" "value" "[B")) (.int 4)) (by decide +kernel))
    (fun i hi j hj => by
      match i, hi, j, hj with
      | 0, _, 0, _ => exact hs (.eq (.elem (.field (.string "KnitStreets$Reader" 64) "java/lang/String" "value" "[B") (.int 0)) (.int 119)) (by decide +kernel)
      | 0, _, 1, _ => exact hs (.eq (.elem (.field (.string "KnitStreets$Reader" 64) "java/lang/String" "value" "[B") (.int 1)) (.int 101)) (by decide +kernel)
      | 0, _, 2, _ => exact hs (.eq (.elem (.field (.string "KnitStreets$Reader" 64) "java/lang/String" "value" "[B") (.int 2)) (.int 97)) (by decide +kernel)
      | 0, _, 3, _ => exact hs (.eq (.elem (.field (.string "KnitStreets$Reader" 64) "java/lang/String" "value" "[B") (.int 3)) (.int 114)) (by decide +kernel)
      | 1, _, 0, _ => exact hs (.eq (.elem (.field (.string "KnitStreets$Reader" 72) "java/lang/String" "value" "[B") (.int 0)) (.int 102)) (by decide +kernel)
      | 1, _, 1, _ => exact hs (.eq (.elem (.field (.string "KnitStreets$Reader" 72) "java/lang/String" "value" "[B") (.int 1)) (.int 101)) (by decide +kernel)
      | 1, _, 2, _ => exact hs (.eq (.elem (.field (.string "KnitStreets$Reader" 72) "java/lang/String" "value" "[B") (.int 2)) (.int 101)) (by decide +kernel)
      | 2, _, 0, _ => exact hs (.eq (.elem (.field (.string "KnitStreets$Reader" 74) "java/lang/String" "value" "[B") (.int 0)) (.int 102)) (by decide +kernel)
      | 2, _, 1, _ => exact hs (.eq (.elem (.field (.string "KnitStreets$Reader" 74) "java/lang/String" "value" "[B") (.int 1)) (.int 105)) (by decide +kernel)
      | 2, _, 2, _ => exact hs (.eq (.elem (.field (.string "KnitStreets$Reader" 74) "java/lang/String" "value" "[B") (.int 2)) (.int 110)) (by decide +kernel)
      | 2, _, 3, _ => exact hs (.eq (.elem (.field (.string "KnitStreets$Reader" 74) "java/lang/String" "value" "[B") (.int 3)) (.int 101)) (by decide +kernel))
    (fun i j hi hj hij => by
      match i, hi, j, hj with
      | 0, _, 0, _ => exact absurd rfl hij
      | 1, _, 1, _ => exact absurd rfl hij
      | 2, _, 2, _ => exact absurd rfl hij
      | 0, _, 1, _ => exact Or.inl (hs _ (by decide +kernel))
      | 0, _, 2, _ => exact Or.inl (hs _ (by decide +kernel))
      | 1, _, 2, _ => exact Or.inl (hs _ (by decide +kernel))
      | 1, _, 0, _ => exact Or.inr (hs _ (by decide +kernel))
      | 2, _, 0, _ => exact Or.inr (hs _ (by decide +kernel))
      | 2, _, 1, _ => exact Or.inr (hs _ (by decide +kernel))) hA
  refine ⟨(t, adK, adV), va_Zof (hts (.laysStatic RX0 "ABOVE" "[I") (List.mem_append_right _ (List.mem_of_getElem? (i := 382) (by decide +kernel)))) (hts _ (wsG_in _ m_10)) ht hA, hT, va_Zof (hts (.laysStatic RJ0 "COMPACT_STRINGS" "Z") (List.mem_append_right _ (List.mem_of_getElem? (i := 649) (by decide +kernel)))) (hts _ (wsG_in _ m_14)) (va_eqi (hs _ (by decide +kernel))) hA, va_Zqof (hts (.laysStatic RJ3 "SIOOBE_FORMATTER" "Ljava/util/function/BiFunction;") (List.mem_append_right _ (List.mem_of_getElem? (i := 665) (by decide +kernel)))) (hts _ (wsG_in _ m_16)) (hs _ (by decide +kernel)) hA, hV, vk_R.of (hts (.stringRef RX1 64 "wear") (List.mem_append_right _ (List.mem_of_getElem? (i := 635) (by decide +kernel)))) (hR 0 (by decide)), vk_R.of (hts (.stringRef RX1 72 "fee") (List.mem_append_right _ (List.mem_of_getElem? (i := 688) (by decide +kernel)))) (hR 1 (by decide)), vk_R.of (hts (.stringRef RX1 74 "fine") (List.mem_append_right _ (List.mem_of_getElem? (i := 689) (by decide +kernel)))) (hR 2 (by decide)), va_Nw.of rfl (hts (.methodLinkNest RX6 101 yX8_heldWithin RX8) (List.mem_append_right _ (List.mem_of_getElem? (i := 354) (by decide +kernel)))), va_Nw.of rfl (hts (.methodLinkNest RX8 9 yX5_init RX8) (List.mem_append_right _ (List.mem_of_getElem? (i := 28) (by decide +kernel)))), va_Nw.of rfl (hts (.methodLinkNest RX8 33 yX7_init RX8) (List.mem_append_right _ (List.mem_of_getElem? (i := 127) (by decide +kernel)))), va_Nw.of rfl (hts (.methodLinkNest RX8 40 yX4_init RX8) (List.mem_append_right _ (List.mem_of_getElem? (i := 143) (by decide +kernel)))), va_Nw.of rfl (hts (.methodLinkNest RX8 60 yX2_init RX8) (List.mem_append_right _ (List.mem_of_getElem? (i := 196) (by decide +kernel)))), va_Nw.of rfl (hts (.methodLinkNest RX8 67 yX3_init RX8) (List.mem_append_right _ (List.mem_of_getElem? (i := 216) (by decide +kernel)))), va_Nw.of rfl (hts (.methodLinkNest RX3 9 yX2_init RX8) (List.mem_append_right _ (List.mem_of_getElem? (i := 221) (by decide +kernel)))), va_AO.of (A := args) (hts (.arrayOver (.object RX2)) (List.mem_append_right _ (List.mem_of_getElem? (i := 194) (by decide +kernel)))), va_AO.of (A := args) (hts (.arrayOver (.object RX3)) (List.mem_append_right _ (List.mem_of_getElem? (i := 214) (by decide +kernel)))), (hts (.arrayOver (.array .int)) (List.mem_append_right _ (List.mem_of_getElem? (i := 33) (by decide +kernel))))⟩
theorem law_K {args : Array Value} {s : State} (hts : ∀ w ∈ lw_tbl, w.before args s = true) : ∃ (D : va_G) (cA : FieldType → ClassId), va_K D vwCl (tysOf cA) s := by
  have hg : ∀ w ∈ wsG, w.before args s = true := fun w h => hts w (wsG_in w h)

  obtain ⟨cX1, iX1, kX1⟩ := u_known (C := RX1) (T := TX1) (N := 8) (n := 8) hg inX1 (hg _ m_158)
  obtain ⟨cX2, iX2, kX2⟩ := u_known (C := RX2) (T := TX2) (N := 3) (n := 3) hg inX2 (hg _ m_195)
  obtain ⟨cX3, iX3, kX3⟩ := u_known (C := RX3) (T := TX3) (N := 5) (n := 5) hg inX3 (hg _ m_215)
  obtain ⟨cX4, iX4, kX4⟩ := u_known (C := RX4) (T := TX4) (N := 2) (n := 2) hg inX4 (hg _ m_142)
  obtain ⟨cX5, iX5, kX5⟩ := u_known (C := RX5) (T := TX5) (N := 6) (n := 6) hg inX5 (hg _ m_27)
  obtain ⟨cX6, iX6, kX6⟩ := u_known (C := RX6) (T := TX6) (N := 14) (n := 14) hg inX6 (hg _ m_57)
  obtain ⟨cX7, iX7, kX7⟩ := u_known (C := RX7) (T := TX7) (N := 3) (n := 3) hg inX7 (hg _ m_126)
  obtain ⟨cX8, iX8, kX8⟩ := u_known (C := RX8) (T := TX8) (N := 12) (n := 12) hg inX8 (hg _ m_19)
  obtain ⟨cX9, iX9, kX9⟩ := u_known (C := RX9) (T := TX9) (N := 33) (n := 33) hg inX9 (hg _ m_839)
  obtain ⟨cI, kI, mI, a1, a2, a3⟩ := Cond.arrayClass_spec (hg _ m_55)
  obtain ⟨m2, c2, k2, b1, -, b3, b4, b5⟩ := Cond.arrayOver_spec (n := RX2) (hts (.arrayOver (.object RX2)) (List.mem_append_right _ (List.mem_of_getElem? (i := 194) (by decide +kernel))))
  obtain ⟨m3, c3, k3, d1, -, d3, d4, d5⟩ := Cond.arrayOver_spec (n := RX3) (hts (.arrayOver (.object RX3)) (List.mem_append_right _ (List.mem_of_getElem? (i := 214) (by decide +kernel))))
  obtain ⟨c4, k4, m4, e1, e3, e4⟩ := oAA_spec (hts (.arrayOver (.array .int)) (List.mem_append_right _ (List.mem_of_getElem? (i := 33) (by decide +kernel))))
  refine ⟨(fun k => [cX1, cX2, cX3, cX4, cX5, cX6, cX7, cX8, cX9].getD k 0, fun k => [iX1, iX2, iX3, iX4, iX5, iX6, iX7, iX8, iX9].getD k (fun _ => 0)), (fun ty => match ty with | .int => cI | .array _ => c4 | .object n => if n = RX2 then c2 else c3 | _ => cI), ?_, ?_⟩
  · intro k q hq
    match k, hq with
    | 0, hq => cases hq; exact kX1
    | 1, hq => cases hq; exact kX2
    | 2, hq => cases hq; exact kX3
    | 3, hq => cases hq; exact kX4
    | 4, hq => cases hq; exact kX5
    | 5, hq => cases hq; exact kX6
    | 6, hq => cases hq; exact kX7
    | 7, hq => cases hq; exact kX8
    | 8, hq => cases hq; exact kX9
    | k + 9, hq => simp [vwCl] at hq
  · intro k q hq
    match k, hq with
    | 0, hq => cases hq; exact ⟨fun n z => ⟨(fun _ h => by cases h), kI, a2, mI, a3⟩, a1⟩
    | 1, hq => cases hq; exact ⟨fun n z => ⟨(fun _ h => by cases h), k4, e3, m4, e4⟩, e1⟩
    | 2, hq => cases hq; exact ⟨fun n z => ⟨(fun _ h => by cases h), k2, b3, m2, b4⟩, k2, m2, b3, b4, b1, b5⟩
    | 3, hq => cases hq; exact ⟨fun n z => ⟨(fun _ h => by cases h), k3, d3, m3, d4⟩, k3, m3, d3, d4, d1, d5⟩
    | k + 4, hq => simp [tysOf] at hq
