/-! constructors: worlds that grow -/
def rmC (fr lo mc ms : Nat) : Room := { frames := fr, cells := mc, slots := ms, locals := lo }
def qC (D : va_G) (wf : (Nat → Nat) → va_W) (A : Nat → Prop) : Array Value → State → Outcome → State → Prop := va_Qv (fun (_ : Nat → Nat) => True) (fun ad t => va_P D vwCl (wf ad) t.heap ∧ va_D A (wf ad)) A
/-- a constructor's contract: from the world w it makes the world wf, at some addresses, of mc cells and ms slots more -/
def MC (l : Launch) (D : va_G) (cA : FieldType → ClassId) (X : Ex) (y : MethodName) (bytes : ByteArray) (maxL fr lo mc ms : Nat) (av : List Value) (w : va_W) (wf : (Nat → Nat) → va_W) : Prop :=
  ∀ sz, Met l y (cws y bytes maxL none) (rmC fr lo mc ms) (wPre D cA X w av sz) (qC D wf (va_A w sz)) mc ms (va_A w sz)
def RC (G : Ctx) (cc : ByteArray) (nL mc ms : Nat) (wf : (Nat → Nat) → va_W) : Prop := ∀ pc L ad, decode cc pc = .ok (.return_, 1) → va_D (gA G) (wf ad) → V (setk G mc ms) nL (wf ad) pc L []
theorem mC_of {l : Launch} {D : va_G} {cA : FieldType → ClassId} {X : Ex} {y : MethodName} {bytes : ByteArray} {maxL fr lo mc ms : Nat} {av : List Value} {w : va_W} {wf : (Nat → Nat) → va_W} (hy : plainName y.cls = true) (hi : y.name = "<init>") (hlen : (lg_sl av).length ≤ maxL)
    (body : ∀ (G : Ctx), gl G = l → gD G = D → gC G = cA → gX G = X → Cx (setk G 0 0) y.cls bytes maxL fr lo → mc ≤ (gR G).cells → ms ≤ (gR G).slots → (gme G).name = "<init>" → va_D (gA G) w → RC G bytes maxL mc ms wf → V (setk G 0 0) maxL w 0 (lv_args 0 av) []) : MC l D cA X y bytes maxL fr lo mc ms av w wf := by
  intro sz
  refine Met.ofW (cc := bytes) (maxL := maxL) (ret := none) hy rfl ?_
  intro p e s m args below meth c s₁ B hml hv
  obtain ⟨rfl, hsz, hP, hK, hD0, hE⟩ := hv
  subst hsz
  have hts := atoms_spec (ws := cws y bytes maxL none) B.pre
  have hown : s.vm.findClass y.cls = some m.cls := findClass_of_methodNamed B.named
  have hin : meth.name = "<init>" := by rw [← hi]; exact (name_of_methodNamed B.named B.method).1
  have C : Cx (setk ((p, l, e, (headSpec (cws y bytes maxL none) (rmC fr lo mc ms)).room), (s, m, av.toArray, below), (meth, c), (D, cA, X), (va_A w s.heap.size, MQ below (qC D wf (va_A w s.heap.size)) av.toArray s mc ms (va_A w s.heap.size), 0, 0)) 0 0) y.cls bytes maxL fr lo :=
    ⟨B.exec, B.bytes, hml, hown, fun x hx => hts x (List.mem_cons_of_mem _ hx), hK, fun q h => Or.inr h, hE, Nat.le_refl _, Nat.le_refl _, Nat.zero_le _, Nat.zero_le _⟩
  have hret : RC ((p, l, e, (headSpec (cws y bytes maxL none) (rmC fr lo mc ms)).room), (s, m, av.toArray, below), (meth, c), (D, cA, X), (va_A w s.heap.size, MQ below (qC D wf (va_A w s.heap.size)) av.toArray s mc ms (va_A w s.heap.size), 0, 0)) bytes maxL mc ms wf := by
    intro pc L ad d hDw H locs ls hP hS hL
    have hP : va_P D vwCl (wf ad) H := hP
    have hS : va_S (va_A w s.heap.size) s.heap H locs := hS
    exact W.vret (Qc := qC D wf (va_A w s.heap.size)) B.exec B.bytes B.returns (fun t ht hW => ⟨⟨ad, rfl, trivial, by rw [ht]; exact hP, hDw⟩, hS.F ht⟩) hS.2.2 d B.notSynchronized
  have := body ((p, l, e, (headSpec (cws y bytes maxL none) (rmC fr lo mc ms)).room), (s, m, av.toArray, below), (meth, c), (D, cA, X), (va_A w s.heap.size, MQ below (qC D wf (va_A w s.heap.size)) av.toArray s mc ms (va_A w s.heap.size), 0, 0)) rfl rfl rfl rfl C (Nat.le_refl _) (Nat.le_refl _) hin hD0.self hret s.heap [] _ hP va_S.rf (lv_entry av (n := maxL) hlen)
  rw [lg_entry_eq]
  exact this
section XC
variable {G : Ctx} {own : String} {cc : ByteArray} {nL fr lo k n : Nat} {w w' : va_W} {pc pc' : Nat} {L : List (Nat × Value)} {st rest : List Value}
theorem cx_sk {k' n' : Nat} (C : Cx (setk G k n) own cc nL fr lo) (hk : k' ≤ (gR G).cells) (hn : n' ≤ (gR G).slots) : Cx (setk G k' n') own cc nL fr lo := ⟨C.hx, C.hb, C.hml, C.hown, C.hts, C.hK, C.hA, C.hE, C.hfr, C.hlo, hk, hn⟩
theorem v_perm (is : List Nat) (h : is.filterMap (fun i => w[i]?) = w') (kk : V G nL w' pc L st) : V G nL w pc L st := fun H locs ls hP hS hL => kk H locs ls (hP.sub is h) hS hL
theorem arrV_ext {c : ClassId} {N : Nat} {f g : Nat → Value} (h : ∀ j, j < N → f j = g j) : arrV c N f = arrV c N g := by
  unfold arrV
  have e : (fun j : Fin N => f j.val) = fun j : Fin N => g j.val := funext fun j => h j.1 j.2
  rw [e]
theorem v_qext {q0 a N : Nat} {c : ClassId} {f g : Nat → Option Nat} (he : w[q0]? = some (a, .inl (c, N, .inr (.inr (.inr (.inr f)))))) (hfg : ∀ j, j < N → f j = g j) (kk : V G nL (w.set q0 (a, .inl (c, N, .inr (.inr (.inr (.inr g)))))) pc L st) : V G nL w pc L st := by
  intro H locs ls hP hS hL
  refine kk H locs ls ?_ hS hL
  have h0 := hP q0 _ he
  have h1 : va_at (gD G) vwCl (a, .inl (c, N, .inr (.inr (.inr (.inr g))))) H := by
    show H[a]? = some (vp_cell c (N, .inr (.inr (.inr (.inr g)))))
    have h2 : H[a]? = some (vp_cell c (N, .inr (.inr (.inr (.inr f))))) := h0
    rw [h2, vp_cell_q, vp_cell_q]
    exact congrArg some (arrV_ext fun j hj => by rw [hfg j hj])
  intro k x hk
  by_cases e : k = q0
  · subst e
    rw [List.getElem?_set_self (List.getElem?_eq_some_iff.mp he).1] at hk
    cases hk
    exact h1
  · rw [List.getElem?_set_ne (Ne.symm e)] at hk
    exact hP k x hk
/-- new int[N][M] -/
theorem x_mna (C : Cx (setk G k n) own cc nL fr lo) (hD : va_D (gA G) w) {N M idx : Nat} {x y : Int32} (hx0 : ¬ x < 0) (hx : x.toNatClampNeg = N) (hy0 : ¬ y < 0) (hy : y.toNatClampNeg = M) (hcl : Cond.classLink own idx "[[I" ∈ wsG) (harr : Cond.arrayClass .int ∈ wsG) (hov : oAA (gs G)) (b1 : N * 4 ≤ 536870912) (b2 : M * 4 ≤ 536870912) (b3 : M ≤ 536870912) (hc : k + (1 + N) ≤ (gR G).cells) (hs : n + (N + N * M) ≤ (gR G).slots) (d : decode cc pc = .ok (.multianewarray idx 2, 4)) (hp : pc + 4 = pc') (kk : ∀ (q : Nat) (r : Nat → Nat), va_D (gA G) (w ++ ((q, .inl (gC G (.array .int), N, .inr (.inr (.inr (.inr (fun j => some (r j))))))) :: (List.range N).map (fun j => (r j, .inl (gC G .int, M, .inl (fun _ => 0)))))) → V (setk G (k + (1 + N)) (n + (N + N * M))) nL (w ++ ((q, .inl (gC G (.array .int), N, .inr (.inr (.inr (.inr (fun j => some (r j))))))) :: (List.range N).map (fun j => (r j, .inl (gC G .int, M, .inl (fun _ => 0)))))) pc' L (.ref q :: st)) : V (setk G k n) nL w pc L (.int y :: .int x :: st) := by
  subst hp
  intro H locs ls hP hS hL
  have hcy : (gs G).vm.findClass (FieldType.array .int).toString = some (gC G .int) := (C.hK.2 0 (gC G .int, .int) rfl).2
  have hP0 : va_P (gD G) vwCl (w ++ va_pl [] (fun _ => (.inl (gC G .int, 0, .inl (fun _ => 0)) : va_E))) H := by
    show va_P (gD G) vwCl (w ++ []) H
    rw [List.append_nil]
    exact hP
  have hD0 : va_D (gA G) (w ++ va_pl [] (fun _ => (.inl (gC G .int, 0, .inl (fun _ => 0)) : va_E))) := by
    show va_D (gA G) (w ++ [])
    rw [List.append_nil]
    exact hD
  refine va_mna (X := w) (L := []) (f := fun _ => .inl (gC G .int, 0, .inl (fun _ => 0))) (ty := .int) (cy := gC G .int) (z := (M, .inl (fun _ => 0))) (D := gD G) (cl := vwCl) C.hx C.hb C.hown (C.hts _ hcl) hov (C.hts _ harr) hcy C.hK hP0 hD0 hS C.hA hx0 hy0 hx hy b1 b2 b3 rfl rfl hc hs (fun c => vr_rowC c M) d (fun q r cA H1 _ _ hK hP1 hD1 hS1 => ?_)
  have e1 : (gs G).vm.findClass ("[" ++ (FieldType.array .int).toString) = some cA := (hK.2 4 (cA, .array .int) rfl).2
  have e2 : (gs G).vm.findClass ("[" ++ (FieldType.array .int).toString) = some (gC G (.array .int)) := (C.hK.2 1 (gC G (.array .int), .array .int) rfl).2
  have e3 : cA = gC G (.array .int) := Option.some.inj (e1.symm.trans e2)
  subst e3
  rw [vr_flat] at hP1 hD1
  have hD2 : va_D (gA G) (w ++ ((q, .inl (gC G (.array .int), N, .inr (.inr (.inr (.inr (fun j => some (r j))))))) :: (List.range N).map (fun j => (r j, .inl (gC G .int, M, .inl (fun _ => 0)))))) := vaD_fst hD1 (by simp)
  have k1 := kk q r hD2
  rw [show k + (1 + N) = k + 1 + N from (Nat.add_assoc k 1 N).symm, show n + (N + N * M) = n + N + N * M from (Nat.add_assoc n N (N * M)).symm] at k1
  have k2 := v_qext (q0 := w.length) (a := q) (N := N) (c := gC G (.array .int)) (f := fun i => if i < N then some (r i) else none) (g := fun j => some (r j)) (w := w ++ ((q, .inl (gC G (.array .int), N, .inr (.inr (.inr (.inr (fun i => if i < N then some (r i) else none)))))) :: (List.range N).map (fun j => (r j, .inl (gC G .int, M, .inl (fun _ => 0)))))) (by simp) (fun j hj => if_pos hj) (by
    rw [show List.set (w ++ ((q, (.inl (gC G (.array .int), N, .inr (.inr (.inr (.inr (fun i => if i < N then some (r i) else none))))) : va_E)) :: (List.range N).map (fun j => (r j, (.inl (gC G .int, M, .inl (fun _ => 0)) : va_E))))) w.length (q, .inl (gC G (.array .int), N, .inr (.inr (.inr (.inr (fun j => some (r j))))))) = w ++ ((q, .inl (gC G (.array .int), N, .inr (.inr (.inr (.inr (fun j => some (r j))))))) :: (List.range N).map (fun j => (r j, .inl (gC G .int, M, .inl (fun _ => 0))))) by simp]
    exact k1)
  exact k2 H1 locs ls hP1 hS1 hL
theorem x_obj (C : Cx (setk G k n) own cc nL fr lo) {idx a : Nat} (hl : Cond.methodLink own idx Lib.objectInit ∈ wsG) (hi : Cond.instanceMethod Lib.objectInit ∈ wsG) (hc : Cond.code Lib.objectInit ⟨#[0xb1]⟩ 1 none ∈ wsG) (hf : 1 ≤ fr) (hlo : (st.map fun v => v.category).sum + 12 ≤ lo) (d : decode cc pc = .ok (.invokespecial idx, 3)) (hp : pc + 3 = pc') (kk : V (setk G k n) nL w pc' L st) : V (setk G k n) nL w pc L (.ref a :: st) := by
  subst hp
  intro H locs ls hP hS hL
  exact W.objInit C.hx C.hb C.hown (C.hts _ hl) (C.hts _ hi) (C.hts _ hc) rfl (hL.1.trans C.hml.symm) rfl d (Nat.le_trans hf C.hfr) (by
    have h9 : (st.map fun v => v.category).sum + 12 ≤ (gR G).locals := Nat.le_trans hlo C.hlo
    show 2 * 0 + (st.map fun v => v.category).sum + 12 ≤ (gR G).locals
    omega) (kk H locs ls hP hS hL)
theorem x_newa (C : Cx (setk G k n) own cc nL fr lo) (hD : va_D (gA G) w) {N : Nat} {x : Int32} (h0 : ¬ x < 0) (hx : x.toNatClampNeg = N) (harr : Cond.arrayClass .int ∈ wsG) (hb : N * 4 ≤ 536870912) (hc : k + 1 ≤ (gR G).cells) (hs : n + N ≤ (gR G).slots) (d : decode cc pc = .ok (.newarray .int, 2)) (hp : pc + 2 = pc') (kk : ∀ q, va_D (gA G) (w ++ [(q, .inl (gC G .int, N, .inl (fun _ => 0)))]) → V (setk G (k + 1) (n + N)) nL (w ++ [(q, .inl (gC G .int, N, .inl (fun _ => 0)))]) pc' L (.ref q :: st)) : V (setk G k n) nL w pc L (.int x :: st) := by
  subst hp
  intro H locs ls hP hS hL
  refine va_newa (atype := .int) (ty := .int) (D := gD G) (cl := vwCl) C.hx C.hb (C.hts _ harr) rfl C.hK hP hD hS C.hA (a0 := (N, .inl (fun _ => 0))) (fun _ => rfl) h0 hx hb hc hs d (fun q cA H1 hK hP1 hD1 hS1 => ?_)
  have e1 : (gs G).vm.findClass ("[" ++ FieldType.int.toString) = some cA := (hK.2 4 (cA, .int) rfl).2
  have e2 : (gs G).vm.findClass ("[" ++ FieldType.int.toString) = some (gC G .int) := (C.hK.2 0 (gC G .int, .int) rfl).2
  have e3 : cA = gC G .int := Option.some.inj (e1.symm.trans e2)
  subst e3
  exact kk q hD1 H1 locs ls hP1 hS1 hL
theorem x_newq (C : Cx (setk G k n) own cc nL fr lo) (hD : va_D (gA G) w) {N idx t0 : Nat} {x : Int32} {Cn : String} (ht : ∀ cA, (tysOf cA)[t0]? = some (cA (.object Cn), .object Cn)) (h0 : ¬ x < 0) (hx : x.toNatClampNeg = N) (hcl : Cond.classLink own idx Cn ∈ wsG) (hov : va_AO Cn (gs G)) (hb : N * 4 ≤ 536870912) (hc : k + 1 ≤ (gR G).cells) (hs : n + N ≤ (gR G).slots) (d : decode cc pc = .ok (.anewarray idx, 3)) (hp : pc + 3 = pc') (kk : ∀ q, va_D (gA G) (w ++ [(q, .inl (gC G (.object Cn), N, .inr (.inr (.inr (.inr (fun _ => none))))))]) → V (setk G (k + 1) (n + N)) nL (w ++ [(q, .inl (gC G (.object Cn), N, .inr (.inr (.inr (.inr (fun _ => none))))))]) pc' L (.ref q :: st)) : V (setk G k n) nL w pc L (.int x :: st) := by
  subst hp
  intro H locs ls hP hS hL
  refine va_newq (D := gD G) (cl := vwCl) C.hx C.hb C.hown (C.hts _ hcl) hov C.hK hP hD hS C.hA h0 hx hb hc hs d (fun q cA H1 hK hP1 hD1 hS1 => ?_)
  obtain ⟨-, -, -, -, -, e1⟩ := (hK.2 4 (cA, .object Cn) rfl).2
  obtain ⟨-, -, -, -, -, e2⟩ := (C.hK.2 t0 _ (ht _)).2
  have e3 : cA = gC G (.object Cn) := Option.some.inj (e1.symm.trans e2)
  subst e3
  exact kk q hD1 H1 locs ls hP1 hS1 hL
theorem x_new (C : Cx (setk G k n) own cc nL fr lo) (hD : va_D (gA G) w) {Cn : String} {T : u_T} {N ci idx : Nat} {ty : Nat → FieldType} (hin : ∀ x ∈ u_ws Cn T N, x ∈ wsG) (hty : ∀ k, k < N → parseFieldDescriptor (T k).2.2.1 = some (ty k)) (hcl : Cond.classLink own idx Cn ∈ wsG) (hinst : Cond.instantiable Cn N ∈ wsG) (hini : Cond.initialized Cn ∈ wsG) (hci : vwCl[ci]? = some (Cn, T, N)) {fs : List Value} (hfs : ∀ j, j < N → defaultValue (ty j) = vp_V fs j) (hc : k + 1 ≤ (gR G).cells) (hs : n + N ≤ (gR G).slots) (d : decode cc pc = .ok (.new idx, 3)) (hp : pc + 3 = pc') (kk : ∀ q, va_D (gA G) (w ++ [(q, .inr (ci, fs))]) → V (setk G (k + 1) (n + N)) nL (w ++ [(q, .inr (ci, fs))]) pc' L (.ref q :: st)) : V (setk G k n) nL w pc L st := by
  subst hp
  intro H locs ls hP hS hL
  exact va_new (D := gD G) (cl := vwCl) (Ts := wsG) C.hx C.hb C.hts hin ty hty C.hown (C.hts _ hcl) (C.hts _ hinst) (C.hts _ hini) C.hK hP hD hS C.hA hci hfs hc hs d (fun q H1 hP1 hD1 hS1 => kk q hD1 H1 locs ls hP1 hS1 hL)
theorem x_put (C : Cx (setk G k n) own cc nL fr lo) (hD : va_D (gA G) w) {Cn : String} {T : u_T} {N ci idx a q0 f : Nat} {ty0 : Nat → FieldType} {fs : List Value} {ty : FieldType} {v : Value} (hci : vwCl[ci]? = some (Cn, T, N)) (hin : ∀ x ∈ u_ws Cn T N, x ∈ wsG) (hty : ∀ k, k < N → parseFieldDescriptor (T k).2.2.1 = some (ty0 k)) (hnm : ∀ a, a < N → ∀ b, b < N → a ≠ b → (T a).2.1 ≠ (T b).2.1) (he : w[q0]? = some (a, .inr (ci, fs))) (hf : f < N) (hlink : Cond.fieldLink own idx (T f).1 (T f).2.1 (T f).2.2.1 ∈ wsG) (hfin : (T f).2.2.2 = false) (hd : parseFieldDescriptor (T f).2.2.1 = some ty) (hn : narrow ty v = v) (hfit : fits ty v = true) (hl : f < fs.length) (d : decode cc pc = .ok (.putfield idx, 3)) (hp : pc + 3 = pc') (kk : va_D (gA G) (w.set q0 (a, .inr (ci, fs.set f v))) → V (setk G k n) nL (w.set q0 (a, .inr (ci, fs.set f v))) pc' L st) : V (setk G k n) nL w pc L (v :: .ref a :: st) := by
  subst hp
  intro H locs ls hP hS hL
  exact va_put (D := gD G) (cl := vwCl) (Ts := wsG) (own := own) C.hx C.hb C.hts hin ty0 hty hnm C.hown C.hK hP hD hS q0 he hci f hf (C.hts _ hlink) (fun _ h => h) hfin hd hn hfit hl d (fun H1 locs1 hP1 hD1 hS1 => kk hD1 H1 locs1 ls hP1 hS1 hL)
theorem x_putF (C : Cx (setk G k n) own cc nL fr lo) (hin2 : (gme G).name = "<init>") (hD : va_D (gA G) w) {Cn : String} {T : u_T} {N ci idx a q0 f : Nat} {ty0 : Nat → FieldType} {fs : List Value} {ty : FieldType} {v : Value} (hci : vwCl[ci]? = some (Cn, T, N)) (hin : ∀ x ∈ u_ws Cn T N, x ∈ wsG) (hty : ∀ k, k < N → parseFieldDescriptor (T k).2.2.1 = some (ty0 k)) (hnm : ∀ a, a < N → ∀ b, b < N → a ≠ b → (T a).2.1 ≠ (T b).2.1) (he : w[q0]? = some (a, .inr (ci, fs))) (hf : f < N) (hlink : Cond.fieldLink own idx (T f).1 (T f).2.1 (T f).2.2.1 ∈ wsG) (hfin : (T f).2.2.2 = true) (hdecl : (T f).1 = own) (hd : parseFieldDescriptor (T f).2.2.1 = some ty) (hn : narrow ty v = v) (hfit : fits ty v = true) (hl : f < fs.length) (d : decode cc pc = .ok (.putfield idx, 3)) (hp : pc + 3 = pc') (kk : va_D (gA G) (w.set q0 (a, .inr (ci, fs.set f v))) → V (setk G k n) nL (w.set q0 (a, .inr (ci, fs.set f v))) pc' L st) : V (setk G k n) nL w pc L (v :: .ref a :: st) := by
  subst hp
  intro H locs ls hP hS hL
  exact va_putF (D := gD G) (cl := vwCl) (Ts := wsG) (own := own) C.hx C.hb C.hts hin ty0 hty hnm C.hown C.hK hP hD hS q0 he hci f hf (C.hts _ hlink) (fun _ h => h) hfin hin2 hdecl hd hn hfit hl d (fun H1 locs1 hP1 hD1 hS1 => kk hD1 H1 locs1 ls hP1 hS1 hL)
theorem x_get (C : Cx (setk G k n) own cc nL fr lo) {Cn : String} {T : u_T} {N ci idx a q0 f : Nat} {fs : List Value} {v : Value} (hci : vwCl[ci]? = some (Cn, T, N)) (hin : ∀ x ∈ u_ws Cn T N, x ∈ wsG) (he : w[q0]? = some (a, .inr (ci, fs))) (hf : f < N) (hlink : Cond.fieldLink own idx (T f).1 (T f).2.1 (T f).2.2.1 ∈ wsG) (hv : fs[f]? = some v) (d : decode cc pc = .ok (.getfield idx, 3)) (hp : pc + 3 = pc') (kk : V (setk G k n) nL w pc' L (v :: st)) : V (setk G k n) nL w pc L (.ref a :: st) := by
  subst hp
  intro H locs ls hP hS hL
  exact va_get (D := gD G) (cl := vwCl) (Ts := wsG) C.hx C.hb C.hts hin C.hown C.hK hP q0 he hci f hf (C.hts _ hlink) (fun _ h => h) hv d (kk H locs ls hP hS hL)
theorem x_iast (C : Cx (setk G k n) own cc nL fr lo) (hD : va_D (gA G) w) {a q0 N j : Nat} {f : Nat → Int32} {i x : Int32} (he : w[q0]? = some (a, .inl (gC G .int, N, .inl f))) (hin : inb i N = true) (hj : i.toNatClampNeg = j) (d : decode cc pc = .ok (.iastore, 1)) (hp : pc + 1 = pc') (kk : va_D (gA G) (w.set q0 (a, .inl (gC G .int, N, .inl (upd f j x)))) → V (setk G k n) nL (w.set q0 (a, .inl (gC G .int, N, .inl (upd f j x)))) pc' L st) : V (setk G k n) nL w pc L (.int x :: .int i :: .ref a :: st) := by
  subst hp
  subst hj
  intro H locs ls hP hS hL
  exact va_iast (D := gD G) (cl := vwCl) C.hx C.hb C.hK hP hD hS q0 0 he rfl (inb_in hin) d (fun H1 locs1 hP1 hD1 hS1 => kk hD1 H1 locs1 ls hP1 hS1 hL)
theorem x_astq (C : Cx (setk G k n) own cc nL fr lo) (hD : va_D (gA G) w) {a q0 qk ci N j t0 v : Nat} {r : vw_C} {vs : List Value} {f : Nat → Option Nat} {i : Int32} (ht : ∀ cA, (tysOf cA)[t0]? = some (cA (.object r.1), .object r.1)) (he : w[q0]? = some (a, .inl (gC G (.object r.1), N, .inr (.inr (.inr (.inr f)))))) (hv : w[qk]? = some (v, .inr (ci, vs))) (hc : vwCl[ci]? = some r) (hin : inb i N = true) (hj : i.toNatClampNeg = j) (d : decode cc pc = .ok (.aastore, 1)) (hp : pc + 1 = pc') (kk : va_D (gA G) (w.set q0 (a, .inl (gC G (.object r.1), N, .inr (.inr (.inr (.inr (va_up f j (some v)))))))) → V (setk G k n) nL (w.set q0 (a, .inl (gC G (.object r.1), N, .inr (.inr (.inr (.inr (va_up f j (some v)))))))) pc' L st) : V (setk G k n) nL w pc L (.ref v :: .int i :: .ref a :: st) := by
  subst hp
  subst hj
  intro H locs ls hP hS hL
  exact va_astq (D := gD G) (cl := vwCl) C.hx C.hb C.hK hP hD hS q0 t0 qk ci he (ht _) hv hc (inb_in hin) d (fun H1 locs1 hP1 hD1 hS1 => kk hD1 H1 locs1 ls hP1 hS1 hL)
/-- what stands in front stays, when a constructor has worked at the last cell -/
theorem x_join {A : Nat → Prop} {D : va_G} {X wc wc' : va_W} {H H1 : Heap} (hP : va_P D vwCl (X ++ wc) H) (hD : va_D A (X ++ wc)) (hk : ∀ q : Nat, q < H.size → ¬ va_A wc H.size q → H1[q]? = H[q]?) (hF : ∀ q, va_A wc H.size q → A q) (hP1 : va_P D vwCl wc' H1) (hD1 : va_D (va_A wc H.size) wc') : va_P D vwCl (X ++ wc') H1 ∧ va_D A (X ++ wc') := by
  have hX : ∀ (k : Nat) (q : Nat × va_E), X[k]? = some q → (X ++ wc)[k]? = some q := fun k q h => by
    rw [List.getElem?_append_left (List.getElem?_eq_some_iff.mp h).1]
    exact h
  have apart : ∀ (k : Nat) (q : Nat × va_E), X[k]? = some q → q.1 < H.size ∧ ¬ va_A wc H.size q.1 := by
    intro k q hq
    have hl := (hP k q (hX k q hq)).lt
    refine ⟨hl, fun h => ?_⟩
    rcases h with ⟨k2, e, h⟩ | h
    · have h2 : (X ++ wc)[X.length + k2]? = some (q.1, e) := by
        rw [List.getElem?_append_right (by omega)]
        simpa using h
      have := hD.1 k (X.length + k2) q (q.1, e) (hX k q hq) h2 rfl
      have := (List.getElem?_eq_some_iff.mp hq).1
      omega
    · omega
  refine ⟨va_P.app (fun k q hq => ?_) hP1, va_D.app ⟨fun i j p q hi hj e => hD.1 i j p q (hX i p hi) (hX j q hj) e, fun k q hk => hD.2 k q (hX k q hk)⟩ (hD1.weaken (fun k q _ h => hF q.1 h)) (fun i j x y hx hy hxy => ?_)⟩
  · obtain ⟨g1, g2⟩ := apart k q hq
    exact (hP k q (hX k q hq)).kept (hk q.1 g1 g2)
  · exact (apart i x hx).2 (by rw [hxy]; exact hD1.2 j y hy)
theorem x_sub {A : Nat → Prop} {X wc : va_W} (hD : va_D A (X ++ wc)) : va_D A wc := by
  have hX : ∀ (k : Nat) (q : Nat × va_E), wc[k]? = some q → (X ++ wc)[X.length + k]? = some q := fun k q h => by
    rw [List.getElem?_append_right (by omega)]
    simpa using h
  exact ⟨fun i j p q hi hj e => by have := hD.1 _ _ p q (hX i p hi) (hX j q hj) e; omega, fun k q hk => hD.2 _ q (hX k q hk)⟩
/-- a constructor's words -/
def YI (y : MethodName) (bytes : ByteArray) (maxL n : Nat) : Prop := (y.cls ≠ "java/lang/invoke/MethodHandle" ∧ y.cls ≠ "java/lang/invoke/VarHandle" ∧ (parseMethodDescriptor y.desc).map (fun d => d.parameters.length) = some n) ∧ Cond.code y bytes maxL none ∈ wsG ∧ Cond.initialized y.cls ∈ wsG ∧ Cond.instanceMethod y ∈ wsG ∧ y.name = "<init>"
variable {y : MethodName} {bytes : ByteArray} {maxL m fy ly idx b : Nat} {As : List Value} {X wc : va_W} {wf : (Nat → Nat) → va_W} {mc ms : Nat}
theorem x_pre (C : Cx (setk G k n) own cc nL fr lo) (hD : va_D (gA G) (X ++ wc)) {av : List Value} {H : Heap} {locs : List Loc} (hP : va_P (gD G) vwCl (X ++ wc) H) (hS : va_S (gA G) (gs G).heap H locs) : (∀ U : State, U.heap = H → (gs G).WarmedH U.vm → wPre (gD G) (gC G) (gX G) wc av H.size av.toArray U) ∧ ∀ q, va_A wc H.size q → gA G q := by
  have hF : ∀ q, va_A wc H.size q → gA G q := by
    rintro q (⟨k, e, h⟩ | h)
    · exact (x_sub hD).2 k (q, e) h
    · exact C.hA q (Nat.le_trans hS.1 h)
  refine ⟨fun U hU hW => ⟨rfl, by rw [hU], ?_, va_K.moved hW.alike C.hK, (x_sub hD).weaken (fun _ _ _ _ => trivial), ?_⟩, hF⟩
  · rw [hU]
    intro k q hk
    have : (X ++ wc)[X.length + k]? = some q := by
      rw [List.getElem?_append_right (by omega)]
      simpa using hk
    exact hP _ q this
  · rw [hU]
    exact ((C.hE.kept hS.2.1).warm hW).narrow hF
theorem x_call (C : Cx (setk G k n) own cc nL fr lo) (Y : YI y bytes maxL m) (hl : Cond.methodLink own idx y ∈ wsG) (hM : MC (gl G) (gD G) (gC G) (gX G) y bytes maxL fy ly mc ms (.ref b :: As) wc wf) (hD : va_D (gA G) (X ++ wc)) (hn : As.length = m) (hst : st = As.reverse ++ .ref b :: rest) (hW : (rest.map fun v => v.category).sum ≤ 8) (hR : fy + 1 ≤ fr ∧ 8 + (maxL + 11) + ly ≤ lo) (hc : k + mc ≤ (gR G).cells) (hs : n + ms ≤ (gR G).slots)
    (d : decode cc pc = .ok (.invokespecial idx, 3)) (hp : pc + 3 = pc') (kk : ∀ ad, va_D (gA G) (X ++ wf ad) → V (setk G (k + mc) (n + ms)) nL (X ++ wf ad) pc' L rest) : V (setk G k n) nL (X ++ wc) pc L st := by
  subst hp
  subst hst
  intro H locs ls hP hS hL
  obtain ⟨hpre, hF⟩ := x_pre (av := .ref b :: As) C hD hP hS
  refine va_callv (va_runI (As := As) (rest := rest) ⟨C.hx, C.hb, C.hml, C.hown, C.hts⟩ (hM H.size) (cwI m C.hts (goodG (cws_in Y.2.1)) rfl rfl rfl (C.hts _ Y.2.2.1) (C.hts _ hl) (C.hts _ Y.2.2.2.1) Y.2.2.2.2 Y.1 ⟨Nat.le_trans hR.1 C.hfr, Nat.le_trans hR.2 C.hlo⟩) ⟨wPre_blind, hpre⟩ rfl hn hL.1 rfl (lv_room hW) d ⟨hc, hs⟩) hS (fun q _ h => hF q h) hF (fun ad t H1 locs1 ht hvm _ hB hz hk1 hS1 => ?_)
  rw [ht] at hB
  obtain ⟨hP2, hD2⟩ := x_join hP hD hk1 hF hB.1 hB.2
  exact kk ad hD2 H1 locs1 ls hP2 hS1 hL
theorem x_callN (C : Cx (setk G k n) own cc nL fr lo) {host : String} (Y : YI y bytes maxL m) (hl : va_Nw (.methodLinkNest own idx y host) (gs G)) (hM : MC (gl G) (gD G) (gC G) (gX G) y bytes maxL fy ly mc ms (.ref b :: As) wc wf) (hD : va_D (gA G) (X ++ wc)) (hn : As.length = m) (hst : st = As.reverse ++ .ref b :: rest) (hW : (rest.map fun v => v.category).sum ≤ 8) (hR : fy + 1 ≤ fr ∧ 8 + (maxL + 11) + ly ≤ lo) (hc : k + mc ≤ (gR G).cells) (hs : n + ms ≤ (gR G).slots)
    (d : decode cc pc = .ok (.invokespecial idx, 3)) (hp : pc + 3 = pc') (kk : ∀ ad, va_D (gA G) (X ++ wf ad) → V (setk G (k + mc) (n + ms)) nL (X ++ wf ad) pc' L rest) : V (setk G k n) nL (X ++ wc) pc L st := by
  subst hp
  subst hst
  intro H locs ls hP hS hL
  obtain ⟨hpre, hF⟩ := x_pre (av := .ref b :: As) C hD hP hS
  refine va_callv (va_runIN (As := As) (rest := rest) ⟨C.hx, C.hb, C.hml, C.hown, C.hts⟩ (hM H.size) ⟨va_cnB m C.hts (goodG (cws_in Y.2.1)) rfl rfl rfl hl (C.hts _ Y.2.2.1) Y.1 ⟨Nat.le_trans hR.1 C.hfr, Nat.le_trans hR.2 C.hlo⟩, Y.2.2.2.2, C.hts _ Y.2.2.2.1⟩ ⟨wPre_blind, hpre⟩ rfl hn hL.1 rfl (lv_room hW) d ⟨hc, hs⟩) hS (fun q _ h => hF q h) hF (fun ad t H1 locs1 ht hvm _ hB hz hk1 hS1 => ?_)
  rw [ht] at hB
  obtain ⟨hP2, hD2⟩ := x_join hP hD hk1 hF hB.1 hB.2
  exact kk ad hD2 H1 locs1 ls hP2 hS1 hL
end XC
