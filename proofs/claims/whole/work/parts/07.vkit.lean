/-! A world whose shape never changes: a list of cells (objects, rows of ints, rows of references), all references fixed; what varies is a memory of numbers. -/
abbrev Mem : Type := Nat → Nat → Int32
def up (K : Mem) (c i : Nat) (v : Int32) : Mem := fun a j => if a = c ∧ j = i then v else K a j
def cpm (K : Mem) (c d sp dp n : Nat) : Mem := fun a j => if a = d ∧ dp ≤ j ∧ j < dp + n then K c (sp + (j - dp)) else K a j
abbrev Shp : Type := (Nat × List (Option Nat)) ⊕ (Nat ⊕ (FieldType × Nat × (Nat → Nat)))
def flds (ad : Nat → Nat) (f : Nat → Int32) : Nat → List (Option Nat) → List Value
  | _, [] => []
  | k, some q :: r => .ref (ad q) :: flds ad f (k + 1) r
  | k, none :: r => .int (f k) :: flds ad f (k + 1) r
def cel (cA : FieldType → ClassId) (ad : Nat → Nat) (sh : Shp) (f : Nat → Int32) : va_E := match sh with
  | .inl (ci, fs) => .inr (ci, flds ad f 0 fs)
  | .inr (.inl n) => .inl (cA .int, n, .inl f)
  | .inr (.inr (ty, n, g)) => .inl (cA ty, n, .inr (.inr (.inr (.inr (fun j => some (ad (g j)))))))
def wd (cA : FieldType → ClassId) (ad : Nat → Nat) (K : Mem) : Nat → List Shp → va_W
  | _, [] => []
  | i, sh :: r => (ad i, cel cA ad sh (K i)) :: wd cA ad K (i + 1) r
theorem wd_get {cA : FieldType → ClassId} {ad : Nat → Nat} {K : Mem} : ∀ (shs : List Shp) (i0 j : Nat) (sh : Shp), shs[j]? = some sh → (wd cA ad K i0 shs)[j]? = some (ad (i0 + j), cel cA ad sh (K (i0 + j)))
  | [], _, _, _, h => by simp at h
  | s :: r, i0, 0, sh, h => by
    simp only [List.getElem?_cons_zero, Option.some.injEq] at h
    subst h
    rfl
  | s :: r, i0, j + 1, sh, h => by
    rw [List.getElem?_cons_succ] at h
    have := wd_get (cA := cA) (ad := ad) (K := K) r (i0 + 1) j sh h
    rw [show i0 + 1 + j = i0 + (j + 1) by omega] at this
    exact this
theorem wd_at {cA : FieldType → ClassId} {ad : Nat → Nat} {K : Mem} {shs : List Shp} {j : Nat} {sh : Shp} (h : shs[j]? = some sh) : (wd cA ad K 0 shs)[j]? = some (ad j, cel cA ad sh (K j)) := by
  have := wd_get (cA := cA) (ad := ad) (K := K) shs 0 j sh h
  rwa [Nat.zero_add] at this
theorem wd_addr {cA : FieldType → ClassId} {ad : Nat → Nat} {K K' : Mem} : ∀ (shs : List Shp) (i0 j : Nat) (q : Nat) (e : va_E), (wd cA ad K i0 shs)[j]? = some (q, e) → ∃ e', (wd cA ad K' i0 shs)[j]? = some (q, e')
  | [], _, _, _, _, h => by simp [wd] at h
  | s :: r, i0, 0, q, e, h => by
    simp only [wd, List.getElem?_cons_zero, Option.some.injEq, Prod.mk.injEq] at h
    exact ⟨_, by simp only [wd, List.getElem?_cons_zero, h.1]; rfl⟩
  | s :: r, i0, j + 1, q, e, h => by
    simp only [wd, List.getElem?_cons_succ] at h ⊢
    exact wd_addr r (i0 + 1) j q e h
theorem wd_D {cA : FieldType → ClassId} {ad : Nat → Nat} {A : Nat → Prop} {K : Mem} (K' : Mem) {shs : List Shp} (h : va_D A (wd cA ad K 0 shs)) : va_D A (wd cA ad K' 0 shs) := by
  refine ⟨fun i j p q hi hj e => ?_, fun k q hk => ?_⟩
  · obtain ⟨e1, h1⟩ := wd_addr (K' := K) shs 0 i p.1 p.2 hi
    obtain ⟨e2, h2⟩ := wd_addr (K' := K) shs 0 j q.1 q.2 hj
    exact h.1 i j _ _ h1 h2 e
  · obtain ⟨e1, h1⟩ := wd_addr (K' := K) shs 0 k q.1 q.2 hk
    exact h.2 k (q.1, e1) h1
theorem wd_A {cA : FieldType → ClassId} {ad : Nat → Nat} {K K' : Mem} {shs : List Shp} {sz q : Nat} (h : va_A (wd cA ad K 0 shs) sz q) : va_A (wd cA ad K' 0 shs) sz q := by
  rcases h with ⟨k, e, h⟩ | h
  · obtain ⟨e1, h1⟩ := wd_addr (K' := K') shs 0 k q e h
    exact Or.inl ⟨k, e1, h1⟩
  · exact Or.inr h
theorem wd_ext {cA : FieldType → ClassId} {ad : Nat → Nat} {K K' : Mem} : ∀ (shs : List Shp) (i0 : Nat), (∀ a, i0 ≤ a → K' a = K a) → wd cA ad K' i0 shs = wd cA ad K i0 shs
  | [], _, _ => rfl
  | s :: r, i0, h => by
    simp only [wd]
    rw [h i0 (Nat.le_refl _), wd_ext r (i0 + 1) (fun a ha => h a (by omega))]
theorem wd_set {cA : FieldType → ClassId} {ad : Nat → Nat} {K K' : Mem} : ∀ (shs : List Shp) (i0 j : Nat) (sh : Shp), shs[j]? = some sh → (∀ a, a ≠ i0 + j → K' a = K a) → (wd cA ad K i0 shs).set j (ad (i0 + j), cel cA ad sh (K' (i0 + j))) = wd cA ad K' i0 shs
  | [], _, _, _, h, _ => by simp at h
  | s :: r, i0, 0, sh, h, hK => by
    simp only [List.getElem?_cons_zero, Option.some.injEq] at h
    subst h
    simp only [wd, List.set_cons_zero, Nat.add_zero]
    rw [wd_ext r (i0 + 1) (fun a ha => hK a (by omega))]
  | s :: r, i0, j + 1, sh, h, hK => by
    rw [List.getElem?_cons_succ] at h
    simp only [wd, List.set_cons_succ]
    have := wd_set (cA := cA) (ad := ad) (K := K) (K' := K') r (i0 + 1) j sh h (fun a ha => hK a (by omega))
    rw [show i0 + 1 + j = i0 + (j + 1) by omega] at this
    rw [this, hK i0 (by omega)]
theorem wd_put {cA : FieldType → ClassId} {ad : Nat → Nat} {K K' : Mem} {shs : List Shp} {j : Nat} {sh : Shp} (h : shs[j]? = some sh) (hK : ∀ a, a ≠ j → K' a = K a) : (wd cA ad K 0 shs).set j (ad j, cel cA ad sh (K' j)) = wd cA ad K' 0 shs := by
  have := wd_set (cA := cA) (ad := ad) (K := K) (K' := K') shs 0 j sh h (fun a ha => hK a (by omega))
  rwa [Nat.zero_add] at this
theorem flds_int {ad : Nat → Nat} {f : Nat → Int32} : ∀ (fs : List (Option Nat)) (i k : Nat), fs[k]? = some none → (flds ad f i fs)[k]? = some (.int (f (i + k)))
  | [], _, _, h => by simp at h
  | x :: r, i, 0, h => by
    simp only [List.getElem?_cons_zero, Option.some.injEq] at h
    subst h
    rfl
  | x :: r, i, k + 1, h => by
    rw [List.getElem?_cons_succ] at h
    have := flds_int (ad := ad) (f := f) r (i + 1) k h
    rw [show i + 1 + k = i + (k + 1) by omega] at this
    cases x <;> exact this
theorem flds_ref {ad : Nat → Nat} {f : Nat → Int32} {q : Nat} : ∀ (fs : List (Option Nat)) (i k : Nat), fs[k]? = some (some q) → (flds ad f i fs)[k]? = some (.ref (ad q))
  | [], _, _, h => by simp at h
  | x :: r, i, 0, h => by
    simp only [List.getElem?_cons_zero, Option.some.injEq] at h
    subst h
    rfl
  | x :: r, i, k + 1, h => by
    rw [List.getElem?_cons_succ] at h
    have := flds_ref (ad := ad) (f := f) (q := q) r (i + 1) k h
    cases x <;> exact this
theorem flds_len {ad : Nat → Nat} {f : Nat → Int32} : ∀ (fs : List (Option Nat)) (i : Nat), (flds ad f i fs).length = fs.length
  | [], _ => rfl
  | x :: r, i => by
    have := flds_len (ad := ad) (f := f) r (i + 1)
    cases x <;> simp [flds, this]
theorem flds_ext {ad : Nat → Nat} {f g : Nat → Int32} : ∀ (fs : List (Option Nat)) (i : Nat), (∀ a, i ≤ a → g a = f a) → flds ad g i fs = flds ad f i fs
  | [], _, _ => rfl
  | x :: r, i, h => by
    have := flds_ext (ad := ad) (f := f) (g := g) r (i + 1) (fun a ha => h a (by omega))
    cases x <;> simp [flds, this, h i (Nat.le_refl _)]
theorem flds_set {ad : Nat → Nat} {f g : Nat → Int32} : ∀ (fs : List (Option Nat)) (i k : Nat), fs[k]? = some none → (∀ a, a ≠ i + k → g a = f a) → (flds ad f i fs).set k (.int (g (i + k))) = flds ad g i fs
  | [], _, _, h, _ => by simp at h
  | x :: r, i, 0, h, hg => by
    simp only [List.getElem?_cons_zero, Option.some.injEq] at h
    subst h
    simp only [flds, List.set_cons_zero, Nat.add_zero]
    rw [flds_ext r (i + 1) (fun a ha => hg a (by omega))]
  | x :: r, i, k + 1, h, hg => by
    rw [List.getElem?_cons_succ] at h
    have := flds_set (ad := ad) (f := f) (g := g) r (i + 1) k h (fun a ha => hg a (by omega))
    rw [show i + 1 + k = i + (k + 1) by omega] at this
    cases x <;> simp [flds, this, hg i (by omega)]
theorem up_ne {K : Mem} {c i : Nat} {v : Int32} {a : Nat} (h : a ≠ c) : up K c i v a = K a := by
  funext j
  simp [up, h]
theorem up_eq {K : Mem} {c i : Nat} {v : Int32} : up K c i v c = upd (K c) i v := by
  funext j
  simp [up, upd]
theorem up_at {K : Mem} {c i : Nat} {v : Int32} : up K c i v c i = v := by simp [up]
theorem up_oth {K : Mem} {c i : Nat} {v : Int32} {j : Nat} (h : j ≠ i) : up K c i v c j = K c j := by simp [up, h]
theorem cpm_ne {K : Mem} {c d sp dp n a : Nat} (h : a ≠ d) : cpm K c d sp dp n a = K a := by
  funext j
  simp [cpm, h]
theorem cpm_eq {K : Mem} {c d sp dp n : Nat} : cpm K c d sp dp n d = va_cpy (K c) (K d) sp dp n := by
  funext j
  simp [cpm, va_cpy]
/-! what is given at the start and never written: the row ABOVE, String's parts -/
def abv : Nat → Int32 := fun j => ([-1, 0, 0, 1, 2, 0] : List Int32).getD j 0
def strL : List Nat := [4, 3, 4]
def strB : List (List Int32) := [[119, 101, 97, 114], [102, 101, 101], [102, 105, 110, 101]]
def oAA (U : State) : Prop := (Cond.arrayOver (.array .int)).before #[] U = true
theorem oAA.moved {u U : State} (hvm : u.vm.Alike U.vm) (h : oAA u) : oAA U := by
  unfold oAA at h ⊢
  simp only [Cond.before, Cond.holds, Cond.value, beq_iff_eq, Option.bind_eq_some_iff, Option.map_eq_some_iff, Option.some.injEq] at h ⊢
  obtain ⟨comp, hc, c, hi, k, hk, hb⟩ := h
  obtain ⟨k', hk', he⟩ := hvm.2.2 _ _ hk
  refine ⟨comp, by rw [hvm.findClass]; exact hc, c, ?_, k', hk', ?_⟩
  · rw [hvm.findIdx_congr _ (fun _ _ _ _ => rfl)]
    exact hi
  · have ek : k'.kind = k.kind := by rw [he]
    rw [ek]
    simp only [hvm.findClass]
    exact hb
def nwF (U : State) : Prop := va_Nw (.methodLinkNest RX6 101 yX8_heldWithin RX8) U ∧ va_Nw (.methodLinkNest RX8 9 yX5_init RX8) U ∧ va_Nw (.methodLinkNest RX8 33 yX7_init RX8) U ∧ va_Nw (.methodLinkNest RX8 40 yX4_init RX8) U ∧ va_Nw (.methodLinkNest RX8 60 yX2_init RX8) U ∧ va_Nw (.methodLinkNest RX8 67 yX3_init RX8) U ∧ va_Nw (.methodLinkNest RX3 9 yX2_init RX8) U ∧ va_AO RX2 U ∧ va_AO RX3 U ∧ oAA U
theorem nwF.warm {s U : State} (hW : s.WarmedH U.vm) (h : nwF s) : nwF U := by
  obtain ⟨h1, h2, h3, h4, h5, h6, h7, h8, h9, h10⟩ := h
  exact ⟨h1.warmM hW, h2.warmM hW, h3.warmM hW, h4.warmM hW, h5.warmM hW, h6.warmM hW, h7.warmM hW, h8.moved hW.alike, h9.moved hW.alike, h10.moved hW.alike⟩
theorem nwF.same {u U : State} (hv : U.vm = u.vm) (h : nwF u) : nwF U := by
  have hA : u.vm.Alike U.vm := by rw [hv]; exact Vm.Alike.refl _
  obtain ⟨h1, h2, h3, h4, h5, h6, h7, h8, h9, h10⟩ := h
  exact ⟨h1.same rfl hv.symm, h2.same rfl hv.symm, h3.same rfl hv.symm, h4.same rfl hv.symm, h5.same rfl hv.symm, h6.same rfl hv.symm, h7.same rfl hv.symm, h8.moved hA, h9.moved hA, h10.moved hA⟩
abbrev Ex : Type := Nat × (Nat → Nat) × (Nat → Nat)
def exF (X : Ex) (A : Nat → Prop) (U : State) (H : Heap) : Prop :=
  va_Z RX0 "ABOVE" "[I" (.ref X.1) A U H ∧ va_T .int X.1 6 (fun j => .int (abv j)) A U H ∧ va_Z RJ0 "COMPACT_STRINGS" "Z" (.int 1) A U H ∧ va_Zq RJ3 "SIOOBE_FORMATTER" "Ljava/util/function/BiFunction;" A U H ∧ vk_S 3 strL strB X.2.1 X.2.2 A U H ∧
  vk_R RX1 64 "wear" (X.2.1 0) U ∧ vk_R RX1 72 "fee" (X.2.1 1) U ∧ vk_R RX1 74 "fine" (X.2.1 2) U ∧ nwF U
theorem exF.kept {X : Ex} {A : Nat → Prop} {U : State} {H H1 : Heap} (h : exF X A U H) (hq : ∀ a : Nat, a < H.size → ¬ A a → H1[a]? = H[a]?) : exF X A U H1 :=
  ⟨h.1.kept hq, h.2.1.kept hq, h.2.2.1.kept hq, h.2.2.2.1.kept hq, h.2.2.2.2.1.kept hq, h.2.2.2.2.2⟩
theorem exF.narrow {X : Ex} {A B : Nat → Prop} {U : State} {H : Heap} (h : exF X A U H) (hAB : ∀ q, B q → A q) : exF X B U H :=
  ⟨h.1.narrow hAB, h.2.1.narrow hAB, h.2.2.1.narrow hAB, h.2.2.2.1.narrow hAB, h.2.2.2.2.1.narrow hAB, h.2.2.2.2.2⟩
theorem exF.warm {X : Ex} {A : Nat → Prop} {s U : State} {H : Heap} (hW : s.WarmedH U.vm) (h : exF X A s H) : exF X A U H :=
  ⟨h.1.moved hW.alike, h.2.1.moved hW.alike, h.2.2.1.moved hW.alike, h.2.2.2.1.moved hW.alike, h.2.2.2.2.1.moved hW.alike, h.2.2.2.2.2.1.warm hW, h.2.2.2.2.2.2.1.warm hW, h.2.2.2.2.2.2.2.1.warm hW, h.2.2.2.2.2.2.2.2.warm hW⟩
theorem exF.same {X : Ex} {A : Nat → Prop} {u U : State} {H : Heap} (hv : U.vm = u.vm) (h : exF X A u H) : exF X A U H :=
  have hA : u.vm.Alike U.vm := by rw [hv]; exact Vm.Alike.refl _
  ⟨h.1.moved hA, h.2.1.moved hA, h.2.2.1.moved hA, h.2.2.2.1.moved hA, h.2.2.2.2.1.moved hA, h.2.2.2.2.2.1.same hv, h.2.2.2.2.2.2.1.same hv, h.2.2.2.2.2.2.2.1.same hv, h.2.2.2.2.2.2.2.2.same hv⟩
/-! the judgement V: the machine goes on well from this place, with these locals and this stack, in the world w -/
abbrev Ctx : Type := (Program × Launch × Env × Room) × (State × MethodId × Array Value × List Frame) × (Method × Code) × (va_G × (FieldType → ClassId) × Ex) × ((Nat → Prop) × (State → Prop) × Nat × Nat)
abbrev gp (G : Ctx) : Program := G.1.1
abbrev gl (G : Ctx) : Launch := G.1.2.1
abbrev ge (G : Ctx) : Env := G.1.2.2.1
abbrev gR (G : Ctx) : Room := G.1.2.2.2
abbrev gs (G : Ctx) : State := G.2.1.1
abbrev gm (G : Ctx) : MethodId := G.2.1.2.1
abbrev ga (G : Ctx) : Array Value := G.2.1.2.2.1
abbrev gb (G : Ctx) : List Frame := G.2.1.2.2.2
abbrev gme (G : Ctx) : Method := G.2.2.1.1
abbrev gc (G : Ctx) : Code := G.2.2.1.2
abbrev gD (G : Ctx) : va_G := G.2.2.2.1.1
abbrev gC (G : Ctx) : FieldType → ClassId := G.2.2.2.1.2.1
abbrev gX (G : Ctx) : Ex := G.2.2.2.1.2.2
abbrev gA (G : Ctx) : Nat → Prop := G.2.2.2.2.1
abbrev gQ (G : Ctx) : State → Prop := G.2.2.2.2.2.1
abbrev gk (G : Ctx) : Nat := G.2.2.2.2.2.2.1
abbrev gn (G : Ctx) : Nat := G.2.2.2.2.2.2.2
/-- the same place, with k cells of n slots made so far -/
def setk (G : Ctx) (k n : Nat) : Ctx := (G.1, G.2.1, G.2.2.1, G.2.2.2.1, (gA G, gQ G, k, n))
def tysOf (cA : FieldType → ClassId) : List (ClassId × FieldType) := [(cA .int, .int), (cA (.array .int), .array .int), (cA (.object RX2), .object RX2), (cA (.object RX3), .object RX3)]
def V (G : Ctx) (nL : Nat) (w : va_W) (pc : Nat) (L : List (Nat × Value)) (st : List Value) : Prop :=
  ∀ (H : Heap) (locs : List Loc) (ls : Array Slot), va_P (gD G) vwCl w H → va_S (gA G) (gs G).heap H locs → lv_has ls nL L → W (gp G) (gl G) (ge G) (gR G) (gs G) (gm G) (ga G) (gb G) (gme G) (gc G) H locs (gk G) (gn G) (gQ G) (F0 (gm G) pc ls st)
def Cx (G : Ctx) (own : String) (cc : ByteArray) (nL fr lo : Nat) : Prop :=
  (gp G).tables.exec = Jvm.exec ∧ (gc G).code = cc ∧ (gc G).maxLocals = nL ∧ (gs G).vm.findClass own = some (gm G).cls ∧ (∀ w ∈ wsG, w.before (ga G) (gs G) = true) ∧ va_K (gD G) vwCl (tysOf (gC G)) (gs G) ∧ (∀ q, (gs G).heap.size ≤ q → gA G q) ∧ exF (gX G) (gA G) (gs G) (gs G).heap ∧ fr ≤ (gR G).frames ∧ lo ≤ (gR G).locals ∧ gk G ≤ (gR G).cells ∧ gn G ≤ (gR G).slots
section VC
variable {G : Ctx} {own : String} {cc : ByteArray} {nL fr lo : Nat}
theorem Cx.hx (C : Cx G own cc nL fr lo) : (gp G).tables.exec = Jvm.exec := C.1
theorem Cx.hb (C : Cx G own cc nL fr lo) : (gc G).code = cc := C.2.1
theorem Cx.hml (C : Cx G own cc nL fr lo) : (gc G).maxLocals = nL := C.2.2.1
theorem Cx.hown (C : Cx G own cc nL fr lo) : (gs G).vm.findClass own = some (gm G).cls := C.2.2.2.1
theorem Cx.hts (C : Cx G own cc nL fr lo) : ∀ w ∈ wsG, w.before (ga G) (gs G) = true := C.2.2.2.2.1
theorem Cx.hK (C : Cx G own cc nL fr lo) : va_K (gD G) vwCl (tysOf (gC G)) (gs G) := C.2.2.2.2.2.1
theorem Cx.hA (C : Cx G own cc nL fr lo) : ∀ q, (gs G).heap.size ≤ q → gA G q := C.2.2.2.2.2.2.1
theorem Cx.hE (C : Cx G own cc nL fr lo) : exF (gX G) (gA G) (gs G) (gs G).heap := C.2.2.2.2.2.2.2.1
theorem Cx.hfr (C : Cx G own cc nL fr lo) : fr ≤ (gR G).frames := C.2.2.2.2.2.2.2.2.1
theorem Cx.hlo (C : Cx G own cc nL fr lo) : lo ≤ (gR G).locals := C.2.2.2.2.2.2.2.2.2.1
theorem Cx.hk (C : Cx G own cc nL fr lo) : gk G ≤ (gR G).cells := C.2.2.2.2.2.2.2.2.2.2.1
theorem Cx.hn (C : Cx G own cc nL fr lo) : gn G ≤ (gR G).slots := C.2.2.2.2.2.2.2.2.2.2.2
theorem Cx.setk (C : Cx G own cc nL fr lo) {k n : Nat} (hk : k ≤ (gR G).cells) (hn : n ≤ (gR G).slots) : Cx (setk G k n) own cc nL fr lo := ⟨C.hx, C.hb, C.hml, C.hown, C.hts, C.hK, C.hA, C.hE, C.hfr, C.hlo, hk, hn⟩
variable {w : va_W} {pc pc' : Nat} {L L' : List (Nat × Value)} {st : List Value}
theorem v_sub (ks : List Nat) (hl : lv_pick L ks = L') (kk : V G nL w pc L' st) : V G nL w pc L st := fun H locs ls hP hS hL => kk H locs ls hP hS (lv_sub hL ks hl)
theorem v_eq {w' : va_W} (e : w' = w) (kk : V G nL w' pc L st) : V G nL w pc L st := e ▸ kk

theorem v_iload_n (C : Cx G own cc nL fr lo) {k : Fin 4} {i : Nat} {x : Int32} (d : decode cc pc = .ok (.iload_n k, 1)) (hp : pc + 1 = pc') (hk : (k : Nat) = i) (j : Nat) (hl : L[j]? = some (i, .int x)) (kk : V G nL w pc' L (.int x :: st)) : V G nL w pc L (st) := by
  subst hp
  intro H locs ls hP hS hL
  exact lv_iload_n C.hx C.hb d hk (lv_at hL j hl) (kk H locs ls hP hS hL)
theorem v_iload (C : Cx G own cc nL fr lo) {i : Nat} {x : Int32} (d : decode cc pc = .ok (.iload i, 2)) (hp : pc + 2 = pc') (j : Nat) (hl : L[j]? = some (i, .int x)) (kk : V G nL w pc' L (.int x :: st)) : V G nL w pc L (st) := by
  subst hp
  intro H locs ls hP hS hL
  exact lv_iload C.hx C.hb d (lv_at hL j hl) (kk H locs ls hP hS hL)
theorem v_aload_n (C : Cx G own cc nL fr lo) {k : Fin 4} {i : Nat} {x : Nat} (d : decode cc pc = .ok (.aload_n k, 1)) (hp : pc + 1 = pc') (hk : (k : Nat) = i) (j : Nat) (hl : L[j]? = some (i, .ref x)) (kk : V G nL w pc' L (.ref x :: st)) : V G nL w pc L (st) := by
  subst hp
  intro H locs ls hP hS hL
  exact lv_aload_n C.hx C.hb d hk (lv_at hL j hl) (kk H locs ls hP hS hL)
theorem v_aload (C : Cx G own cc nL fr lo) {i : Nat} {x : Nat} (d : decode cc pc = .ok (.aload i, 2)) (hp : pc + 2 = pc') (j : Nat) (hl : L[j]? = some (i, .ref x)) (kk : V G nL w pc' L (.ref x :: st)) : V G nL w pc L (st) := by
  subst hp
  intro H locs ls hP hS hL
  exact lv_aload C.hx C.hb d (lv_at hL j hl) (kk H locs ls hP hS hL)
theorem v_lload_n (C : Cx G own cc nL fr lo) {k : Fin 4} {i : Nat} {x : Int64} (d : decode cc pc = .ok (.lload_n k, 1)) (hp : pc + 1 = pc') (hk : (k : Nat) = i) (j : Nat) (hl : L[j]? = some (i, .long x)) (kk : V G nL w pc' L (.long x :: st)) : V G nL w pc L (st) := by
  subst hp
  intro H locs ls hP hS hL
  exact lv_lload_n C.hx C.hb d hk (lv_at hL j hl) (kk H locs ls hP hS hL)
theorem v_lload (C : Cx G own cc nL fr lo) {i : Nat} {x : Int64} (d : decode cc pc = .ok (.lload i, 2)) (hp : pc + 2 = pc') (j : Nat) (hl : L[j]? = some (i, .long x)) (kk : V G nL w pc' L (.long x :: st)) : V G nL w pc L (st) := by
  subst hp
  intro H locs ls hP hS hL
  exact lv_lload C.hx C.hb d (lv_at hL j hl) (kk H locs ls hP hS hL)
theorem v_iconst (C : Cx G own cc nL fr lo) {n : Int} (d : decode cc pc = .ok (.iconst n, 1)) (hp : pc + 1 = pc') {v : Int32} (hv : Int32.ofInt n = v) (kk : V G nL w pc' L (.int v :: st)) : V G nL w pc L (st) := by
  subst hp
  intro H locs ls hP hS hL
  exact lv_iconst C.hx C.hb d hv (kk H locs ls hP hS hL)
theorem v_bipush (C : Cx G own cc nL fr lo) {n : Int} (d : decode cc pc = .ok (.bipush n, 2)) (hp : pc + 2 = pc') {v : Int32} (hv : (Int8.ofInt n).toInt32 = v) (kk : V G nL w pc' L (.int v :: st)) : V G nL w pc L (st) := by
  subst hp
  intro H locs ls hP hS hL
  exact lv_bipush C.hx C.hb d hv (kk H locs ls hP hS hL)
theorem v_sipush (C : Cx G own cc nL fr lo) {n : Int} (d : decode cc pc = .ok (.sipush n, 3)) (hp : pc + 3 = pc') {v : Int32} (hv : (Int16.ofInt n).toInt32 = v) (kk : V G nL w pc' L (.int v :: st)) : V G nL w pc L (st) := by
  subst hp
  intro H locs ls hP hS hL
  exact lv_sipush C.hx C.hb d hv (kk H locs ls hP hS hL)
theorem v_lconst (C : Cx G own cc nL fr lo) {n : Fin 2} (d : decode cc pc = .ok (.lconst n, 1)) (hp : pc + 1 = pc') {v : Int64} (hv : Int64.ofNat (n : Nat) = v) (kk : V G nL w pc' L (.long v :: st)) : V G nL w pc L (st) := by
  subst hp
  intro H locs ls hP hS hL
  exact lv_lconst C.hx C.hb d hv (kk H locs ls hP hS hL)
theorem v_ldc (C : Cx G own cc nL fr lo) {idx : Nat} {v : Int32} (d : decode cc pc = .ok (.ldc idx, 2)) (hp : pc + 2 = pc') (hc : Cond.constant own idx v ∈ wsG) (kk : V G nL w pc' L (.int v :: st)) : V G nL w pc L (st) := by
  subst hp
  intro H locs ls hP hS hL
  exact lv_ldc C.hx C.hb C.hown (C.hts _ hc) d (kk H locs ls hP hS hL)
theorem v_ldcw (C : Cx G own cc nL fr lo) {idx : Nat} {v : Int32} (d : decode cc pc = .ok (.ldc_w idx, 3)) (hp : pc + 3 = pc') (hc : Cond.constant own idx v ∈ wsG) (kk : V G nL w pc' L (.int v :: st)) : V G nL w pc L (st) := by
  subst hp
  intro H locs ls hP hS hL
  exact lv_ldcw C.hx C.hb C.hown (C.hts _ hc) d (kk H locs ls hP hS hL)
theorem v_ldc2 (C : Cx G own cc nL fr lo) {idx : Nat} {v : Int64} (d : decode cc pc = .ok (.ldc2_w idx, 3)) (hp : pc + 3 = pc') (hc : Cond.constantLong own idx v ∈ wsG) (kk : V G nL w pc' L (.long v :: st)) : V G nL w pc L (st) := by
  subst hp
  intro H locs ls hP hS hL
  exact lv_ldc2 C.hx C.hb C.hown (C.hts _ hc) d (kk H locs ls hP hS hL)
def jrem (x y : Int32) : Int32 := x - x / y * y
def jushr (x y : Int32) : Int32 := (x.toUInt32 >>> (y.toUInt32 &&& Int32.toUInt32 31)).toInt32
def jshl (x y : Int32) : Int32 := x <<< (y &&& 31)
def jshr (x y : Int32) : Int32 := x >>> (y &&& 31)
theorem v_iadd (C : Cx G own cc nL fr lo) {x y : Int32} (d : decode cc pc = .ok (.iadd, 1)) (hp : pc + 1 = pc')  (kk : V G nL w pc' L (.int (x + y) :: st)) : V G nL w pc L (.int y :: .int x :: st) := by
  subst hp
  intro H locs ls hP hS hL
  exact lv_iadd C.hx C.hb d (kk H locs ls hP hS hL)
theorem v_isub (C : Cx G own cc nL fr lo) {x y : Int32} (d : decode cc pc = .ok (.isub, 1)) (hp : pc + 1 = pc')  (kk : V G nL w pc' L (.int (x - y) :: st)) : V G nL w pc L (.int y :: .int x :: st) := by
  subst hp
  intro H locs ls hP hS hL
  exact lv_isub C.hx C.hb d (kk H locs ls hP hS hL)
theorem v_imul (C : Cx G own cc nL fr lo) {x y : Int32} (d : decode cc pc = .ok (.imul, 1)) (hp : pc + 1 = pc')  (kk : V G nL w pc' L (.int (x * y) :: st)) : V G nL w pc L (.int y :: .int x :: st) := by
  subst hp
  intro H locs ls hP hS hL
  exact lv_imul C.hx C.hb d (kk H locs ls hP hS hL)
theorem v_iand (C : Cx G own cc nL fr lo) {x y : Int32} (d : decode cc pc = .ok (.iand, 1)) (hp : pc + 1 = pc')  (kk : V G nL w pc' L (.int (x &&& y) :: st)) : V G nL w pc L (.int y :: .int x :: st) := by
  subst hp
  intro H locs ls hP hS hL
  exact lv_iand C.hx C.hb d (kk H locs ls hP hS hL)
theorem v_ior (C : Cx G own cc nL fr lo) {x y : Int32} (d : decode cc pc = .ok (.ior, 1)) (hp : pc + 1 = pc')  (kk : V G nL w pc' L (.int (x ||| y) :: st)) : V G nL w pc L (.int y :: .int x :: st) := by
  subst hp
  intro H locs ls hP hS hL
  exact lv_ior C.hx C.hb d (kk H locs ls hP hS hL)
theorem v_ixor (C : Cx G own cc nL fr lo) {x y : Int32} (d : decode cc pc = .ok (.ixor, 1)) (hp : pc + 1 = pc')  (kk : V G nL w pc' L (.int (x ^^^ y) :: st)) : V G nL w pc L (.int y :: .int x :: st) := by
  subst hp
  intro H locs ls hP hS hL
  exact lv_ixor C.hx C.hb d (kk H locs ls hP hS hL)
theorem v_ishl (C : Cx G own cc nL fr lo) {x y : Int32} (d : decode cc pc = .ok (.ishl, 1)) (hp : pc + 1 = pc')  (kk : V G nL w pc' L (.int (jshl x y) :: st)) : V G nL w pc L (.int y :: .int x :: st) := by
  subst hp
  intro H locs ls hP hS hL
  exact lv_ishl C.hx C.hb d (kk H locs ls hP hS hL)
theorem v_ishr (C : Cx G own cc nL fr lo) {x y : Int32} (d : decode cc pc = .ok (.ishr, 1)) (hp : pc + 1 = pc')  (kk : V G nL w pc' L (.int (jshr x y) :: st)) : V G nL w pc L (.int y :: .int x :: st) := by
  subst hp
  intro H locs ls hP hS hL
  exact lv_ishr C.hx C.hb d (kk H locs ls hP hS hL)
theorem v_iushr (C : Cx G own cc nL fr lo) {x y : Int32} (d : decode cc pc = .ok (.iushr, 1)) (hp : pc + 1 = pc')  (kk : V G nL w pc' L (.int (jushr x y) :: st)) : V G nL w pc L (.int y :: .int x :: st) := by
  subst hp
  intro H locs ls hP hS hL
  exact lv_iushr C.hx C.hb d rfl (kk H locs ls hP hS hL)
theorem v_idiv (C : Cx G own cc nL fr lo) {x y : Int32} (d : decode cc pc = .ok (.idiv, 1)) (hp : pc + 1 = pc') (hne : ¬ y = 0) (kk : V G nL w pc' L (.int (x / y) :: st)) : V G nL w pc L (.int y :: .int x :: st) := by
  subst hp
  intro H locs ls hP hS hL
  exact lv_idiv C.hx C.hb d hne (kk H locs ls hP hS hL)
theorem v_irem (C : Cx G own cc nL fr lo) {x y : Int32} (d : decode cc pc = .ok (.irem, 1)) (hp : pc + 1 = pc') (hne : ¬ y = 0) (kk : V G nL w pc' L (.int (jrem x y) :: st)) : V G nL w pc L (.int y :: .int x :: st) := by
  subst hp
  intro H locs ls hP hS hL
  exact lv_irem C.hx C.hb d hne (kk H locs ls hP hS hL)
theorem v_ineg (C : Cx G own cc nL fr lo) {x : Int32} (d : decode cc pc = .ok (.ineg, 1)) (hp : pc + 1 = pc')  (kk : V G nL w pc' L (.int (-x) :: st)) : V G nL w pc L (.int x :: st) := by
  subst hp
  intro H locs ls hP hS hL
  exact lv_ineg C.hx C.hb d (kk H locs ls hP hS hL)
theorem v_ladd (C : Cx G own cc nL fr lo) {x y : Int64} (d : decode cc pc = .ok (.ladd, 1)) (hp : pc + 1 = pc')  (kk : V G nL w pc' L (.long (x + y) :: st)) : V G nL w pc L (.long y :: .long x :: st) := by
  subst hp
  intro H locs ls hP hS hL
  exact lv_ladd C.hx C.hb d (kk H locs ls hP hS hL)
theorem v_lcmp (C : Cx G own cc nL fr lo) {x y : Int64} (d : decode cc pc = .ok (.lcmp, 1)) (hp : pc + 1 = pc')  (kk : V G nL w pc' L (.int (lg_cmp x y) :: st)) : V G nL w pc L (.long y :: .long x :: st) := by
  subst hp
  intro H locs ls hP hS hL
  exact W.lcmp C.hx C.hb d (kk H locs ls hP hS hL)
theorem v_i2l (C : Cx G own cc nL fr lo) {x : Int32} (d : decode cc pc = .ok (.i2l, 1)) (hp : pc + 1 = pc')  (kk : V G nL w pc' L (.long x.toInt64 :: st)) : V G nL w pc L (.int x :: st) := by
  subst hp
  intro H locs ls hP hS hL
  exact lv_i2l C.hx C.hb d rfl (kk H locs ls hP hS hL)
theorem v_i2s (C : Cx G own cc nL fr lo) {x : Int32} (d : decode cc pc = .ok (.i2s, 1)) (hp : pc + 1 = pc')  (kk : V G nL w pc' L (.int x.toInt16.toInt32 :: st)) : V G nL w pc L (.int x :: st) := by
  subst hp
  intro H locs ls hP hS hL
  exact lv_i2s C.hx C.hb d rfl (kk H locs ls hP hS hL)
theorem v_dup (C : Cx G own cc nL fr lo) {va : Value} (d : decode cc pc = .ok (.dup, 1)) (hp : pc + 1 = pc') (h1 : va.category = 1) (kk : V G nL w pc' L (va :: va :: st)) : V G nL w pc L (va :: st) := by
  subst hp
  intro H locs ls hP hS hL
  exact lv_dup C.hx C.hb d h1 (kk H locs ls hP hS hL)
theorem v_dup2 (C : Cx G own cc nL fr lo) {va vb : Value} (d : decode cc pc = .ok (.dup2, 1)) (hp : pc + 1 = pc') (h1 : va.category = 1) (h2 : vb.category = 1) (kk : V G nL w pc' L (va :: vb :: va :: vb :: st)) : V G nL w pc L (va :: vb :: st) := by
  subst hp
  intro H locs ls hP hS hL
  exact lv_dup2_11 C.hx C.hb d h1 h2 (kk H locs ls hP hS hL)
theorem v_dup_x1 (C : Cx G own cc nL fr lo) {va vb : Value} (d : decode cc pc = .ok (.dup_x1, 1)) (hp : pc + 1 = pc') (h1 : va.category = 1) (h2 : vb.category = 1) (kk : V G nL w pc' L (va :: vb :: va :: st)) : V G nL w pc L (va :: vb :: st) := by
  subst hp
  intro H locs ls hP hS hL
  exact lv_dup_x1 C.hx C.hb d h1 h2 (kk H locs ls hP hS hL)
theorem v_dup_x2 (C : Cx G own cc nL fr lo) {va vb vd : Value} (d : decode cc pc = .ok (.dup_x2, 1)) (hp : pc + 1 = pc') (h1 : va.category = 1) (h2 : vb.category = 1) (h3 : vd.category = 1) (kk : V G nL w pc' L (va :: vb :: vd :: va :: st)) : V G nL w pc L (va :: vb :: vd :: st) := by
  subst hp
  intro H locs ls hP hS hL
  exact lv_dup_x2 C.hx C.hb d h1 h2 h3 (kk H locs ls hP hS hL)
theorem v_pop (C : Cx G own cc nL fr lo) {va : Value} (d : decode cc pc = .ok (.pop, 1)) (hp : pc + 1 = pc') (h1 : va.category = 1) (kk : V G nL w pc' L (st)) : V G nL w pc L (va :: st) := by
  subst hp
  intro H locs ls hP hS hL
  exact lv_pop C.hx C.hb d h1 (kk H locs ls hP hS hL)
theorem v_istore_n (C : Cx G own cc nL fr lo) {k : Fin 4} {i : Nat} {x : Int32} (d : decode cc pc = .ok (.istore_n k, 1)) (hp : pc + 1 = pc') (hk : (k : Nat) = i) (hn : i < nL) (hl : (i, Value.int x) :: L.filter (fun q => !(q.1 == i) && !(q.1 + 1 == i && q.2.category == 2)) = L') (kk : V G nL w pc' L' st) : V G nL w pc L (.int x :: st) := by
  subst hp
  intro H locs ls hP hS hL
  exact lv_istore_n C.hx C.hb d hk hL hn hl (fun ls' h' => kk H locs ls' hP hS h')
theorem v_istore (C : Cx G own cc nL fr lo) {i : Nat} {x : Int32} (d : decode cc pc = .ok (.istore i, 2)) (hp : pc + 2 = pc') (hn : i < nL) (hl : (i, Value.int x) :: L.filter (fun q => !(q.1 == i) && !(q.1 + 1 == i && q.2.category == 2)) = L') (kk : V G nL w pc' L' st) : V G nL w pc L (.int x :: st) := by
  subst hp
  intro H locs ls hP hS hL
  exact lv_istore C.hx C.hb d hL hn hl (fun ls' h' => kk H locs ls' hP hS h')
theorem v_astore_n (C : Cx G own cc nL fr lo) {k : Fin 4} {i : Nat} {x : Nat} (d : decode cc pc = .ok (.astore_n k, 1)) (hp : pc + 1 = pc') (hk : (k : Nat) = i) (hn : i < nL) (hl : (i, Value.ref x) :: L.filter (fun q => !(q.1 == i) && !(q.1 + 1 == i && q.2.category == 2)) = L') (kk : V G nL w pc' L' st) : V G nL w pc L (.ref x :: st) := by
  subst hp
  intro H locs ls hP hS hL
  exact lv_astore_n C.hx C.hb d hk hL hn hl (fun ls' h' => kk H locs ls' hP hS h')
theorem v_astore (C : Cx G own cc nL fr lo) {i : Nat} {x : Nat} (d : decode cc pc = .ok (.astore i, 2)) (hp : pc + 2 = pc') (hn : i < nL) (hl : (i, Value.ref x) :: L.filter (fun q => !(q.1 == i) && !(q.1 + 1 == i && q.2.category == 2)) = L') (kk : V G nL w pc' L' st) : V G nL w pc L (.ref x :: st) := by
  subst hp
  intro H locs ls hP hS hL
  exact lv_astore C.hx C.hb d hL hn hl (fun ls' h' => kk H locs ls' hP hS h')
theorem v_iinc (C : Cx G own cc nL fr lo) {i : Nat} {n : Int} {x v : Int32} (d : decode cc pc = .ok (.iinc i n, 3)) (hp : pc + 3 = pc') (k : Nat) (hk : L[k]? = some (i, .int x)) (hv : x + Int32.ofInt n = v) (hn : i < nL) (hl : (i, Value.int v) :: L.filter (fun q => !(q.1 == i) && !(q.1 + 1 == i && q.2.category == 2)) = L') (kk : V G nL w pc' L' st) : V G nL w pc L st := by
  subst hp
  intro H locs ls hP hS hL
  exact lv_iinc C.hx C.hb d hL (k := k) hk hv hn hl (fun ls' h' => kk H locs ls' hP hS h')
theorem v_icmp_eq (C : Cx G own cc nL fr lo) {x y : Int32} {off : Int} (d : decode cc pc = .ok (.if_icmp .eq off, 3)) {tgt : Nat} (ht : (pc : Int) + off = (tgt : Int)) (hp : pc + 3 = pc') (kt : x = y → V G nL w tgt L st) (kf : ¬ x = y → V G nL w pc' L st) : V G nL w pc L (.int y :: .int x :: st) := by
  subst hp
  intro H locs ls hP hS hL
  exact lv_icmp_eq C.hx C.hb d ht (fun h => kt h H locs ls hP hS hL) (fun h => kf h H locs ls hP hS hL)
theorem v_icmp_ne (C : Cx G own cc nL fr lo) {x y : Int32} {off : Int} (d : decode cc pc = .ok (.if_icmp .ne off, 3)) {tgt : Nat} (ht : (pc : Int) + off = (tgt : Int)) (hp : pc + 3 = pc') (kt : ¬ x = y → V G nL w tgt L st) (kf : x = y → V G nL w pc' L st) : V G nL w pc L (.int y :: .int x :: st) := by
  subst hp
  intro H locs ls hP hS hL
  exact lv_icmp_ne C.hx C.hb d ht (fun h => kt h H locs ls hP hS hL) (fun h => kf h H locs ls hP hS hL)
theorem v_icmp_lt (C : Cx G own cc nL fr lo) {x y : Int32} {off : Int} (d : decode cc pc = .ok (.if_icmp .lt off, 3)) {tgt : Nat} (ht : (pc : Int) + off = (tgt : Int)) (hp : pc + 3 = pc') (kt : x < y → V G nL w tgt L st) (kf : ¬ x < y → V G nL w pc' L st) : V G nL w pc L (.int y :: .int x :: st) := by
  subst hp
  intro H locs ls hP hS hL
  exact lv_icmp_lt C.hx C.hb d ht (fun h => kt h H locs ls hP hS hL) (fun h => kf h H locs ls hP hS hL)
theorem v_icmp_ge (C : Cx G own cc nL fr lo) {x y : Int32} {off : Int} (d : decode cc pc = .ok (.if_icmp .ge off, 3)) {tgt : Nat} (ht : (pc : Int) + off = (tgt : Int)) (hp : pc + 3 = pc') (kt : y ≤ x → V G nL w tgt L st) (kf : ¬ y ≤ x → V G nL w pc' L st) : V G nL w pc L (.int y :: .int x :: st) := by
  subst hp
  intro H locs ls hP hS hL
  exact lv_icmp_ge C.hx C.hb d ht (fun h => kt h H locs ls hP hS hL) (fun h => kf h H locs ls hP hS hL)
theorem v_icmp_gt (C : Cx G own cc nL fr lo) {x y : Int32} {off : Int} (d : decode cc pc = .ok (.if_icmp .gt off, 3)) {tgt : Nat} (ht : (pc : Int) + off = (tgt : Int)) (hp : pc + 3 = pc') (kt : y < x → V G nL w tgt L st) (kf : ¬ y < x → V G nL w pc' L st) : V G nL w pc L (.int y :: .int x :: st) := by
  subst hp
  intro H locs ls hP hS hL
  exact lv_icmp_gt C.hx C.hb d ht (fun h => kt h H locs ls hP hS hL) (fun h => kf h H locs ls hP hS hL)
theorem v_icmp_le (C : Cx G own cc nL fr lo) {x y : Int32} {off : Int} (d : decode cc pc = .ok (.if_icmp .le off, 3)) {tgt : Nat} (ht : (pc : Int) + off = (tgt : Int)) (hp : pc + 3 = pc') (kt : x ≤ y → V G nL w tgt L st) (kf : ¬ x ≤ y → V G nL w pc' L st) : V G nL w pc L (.int y :: .int x :: st) := by
  subst hp
  intro H locs ls hP hS hL
  exact lv_icmp_le C.hx C.hb d ht (fun h => kt h H locs ls hP hS hL) (fun h => kf h H locs ls hP hS hL)
theorem v_if_eq (C : Cx G own cc nL fr lo) {x : Int32} {off : Int} (d : decode cc pc = .ok (.ifCond .eq off, 3)) {tgt : Nat} (ht : (pc : Int) + off = (tgt : Int)) (hp : pc + 3 = pc') (kt : x = 0 → V G nL w tgt L st) (kf : ¬ x = 0 → V G nL w pc' L st) : V G nL w pc L (.int x :: st) := by
  subst hp
  intro H locs ls hP hS hL
  exact lv_if_eq C.hx C.hb d ht (fun h => kt h H locs ls hP hS hL) (fun h => kf h H locs ls hP hS hL)
theorem v_if_ne (C : Cx G own cc nL fr lo) {x : Int32} {off : Int} (d : decode cc pc = .ok (.ifCond .ne off, 3)) {tgt : Nat} (ht : (pc : Int) + off = (tgt : Int)) (hp : pc + 3 = pc') (kt : ¬ x = 0 → V G nL w tgt L st) (kf : x = 0 → V G nL w pc' L st) : V G nL w pc L (.int x :: st) := by
  subst hp
  intro H locs ls hP hS hL
  exact lv_if_ne C.hx C.hb d ht (fun h => kt h H locs ls hP hS hL) (fun h => kf h H locs ls hP hS hL)
theorem v_if_lt (C : Cx G own cc nL fr lo) {x : Int32} {off : Int} (d : decode cc pc = .ok (.ifCond .lt off, 3)) {tgt : Nat} (ht : (pc : Int) + off = (tgt : Int)) (hp : pc + 3 = pc') (kt : x < 0 → V G nL w tgt L st) (kf : ¬ x < 0 → V G nL w pc' L st) : V G nL w pc L (.int x :: st) := by
  subst hp
  intro H locs ls hP hS hL
  exact lv_if_lt C.hx C.hb d ht (fun h => kt h H locs ls hP hS hL) (fun h => kf h H locs ls hP hS hL)
theorem v_if_ge (C : Cx G own cc nL fr lo) {x : Int32} {off : Int} (d : decode cc pc = .ok (.ifCond .ge off, 3)) {tgt : Nat} (ht : (pc : Int) + off = (tgt : Int)) (hp : pc + 3 = pc') (kt : 0 ≤ x → V G nL w tgt L st) (kf : ¬ 0 ≤ x → V G nL w pc' L st) : V G nL w pc L (.int x :: st) := by
  subst hp
  intro H locs ls hP hS hL
  exact lv_if_ge C.hx C.hb d ht (fun h => kt h H locs ls hP hS hL) (fun h => kf h H locs ls hP hS hL)
theorem v_if_gt (C : Cx G own cc nL fr lo) {x : Int32} {off : Int} (d : decode cc pc = .ok (.ifCond .gt off, 3)) {tgt : Nat} (ht : (pc : Int) + off = (tgt : Int)) (hp : pc + 3 = pc') (kt : 0 < x → V G nL w tgt L st) (kf : ¬ 0 < x → V G nL w pc' L st) : V G nL w pc L (.int x :: st) := by
  subst hp
  intro H locs ls hP hS hL
  exact lv_if_gt C.hx C.hb d ht (fun h => kt h H locs ls hP hS hL) (fun h => kf h H locs ls hP hS hL)
theorem v_if_le (C : Cx G own cc nL fr lo) {x : Int32} {off : Int} (d : decode cc pc = .ok (.ifCond .le off, 3)) {tgt : Nat} (ht : (pc : Int) + off = (tgt : Int)) (hp : pc + 3 = pc') (kt : x ≤ 0 → V G nL w tgt L st) (kf : ¬ x ≤ 0 → V G nL w pc' L st) : V G nL w pc L (.int x :: st) := by
  subst hp
  intro H locs ls hP hS hL
  exact lv_if_le C.hx C.hb d ht (fun h => kt h H locs ls hP hS hL) (fun h => kf h H locs ls hP hS hL)
theorem v_goto (C : Cx G own cc nL fr lo) {off : Int} (d : decode cc pc = .ok (.goto off, 3)) {tgt : Nat} (ht : (pc : Int) + off = (tgt : Int)) (kk : V G nL w tgt L st) : V G nL w pc L st := fun H locs ls hP hS hL => lv_goto C.hx C.hb d ht (kk H locs ls hP hS hL)
theorem v_tsIn (C : Cx G own cc nL fr lo) {dflt lo' hi : Int} {offs : Array Int} {len : Nat} {x v : Int32} {off : Int} {tgt : Nat} (d : decode cc pc = .ok (.tableswitch dflt lo' hi offs, len)) (hx : x = v) (h1 : ¬ v.toInt < lo') (h2 : ¬ hi < v.toInt) (ho : offs[(v.toInt - lo').toNat]? = some off) (ht : (pc : Int) + off = (tgt : Int)) (kk : V G nL w tgt L st) : V G nL w pc L (.int x :: st) := by
  subst hx
  intro H locs ls hP hS hL
  exact lv_tableIn C.hx C.hb d h1 h2 ho ht (kk H locs ls hP hS hL)
theorem v_tsOut (C : Cx G own cc nL fr lo) {dflt lo' hi : Int} {offs : Array Int} {len : Nat} {x : Int32} {tgt : Nat} (d : decode cc pc = .ok (.tableswitch dflt lo' hi offs, len)) (h : x.toInt < lo' ∨ hi < x.toInt) (ht : (pc : Int) + dflt = (tgt : Int)) (kk : V G nL w tgt L st) : V G nL w pc L (.int x :: st) := fun H locs ls hP hS hL => lv_tableOut C.hx C.hb d h ht (kk H locs ls hP hS hL)
theorem v_lsw (C : Cx G own cc nL fr lo) {dflt : Int} {ps : Array (Int × Int)} {len : Nat} {x : Int32} {off : Int} {tgt : Nat} (d : decode cc pc = .ok (.lookupswitch dflt ps, len)) (hq : (ps.toList.zip (ps.toList.drop 1)).all (fun (a, next) => a.1 < next.1) = true) (ho : Op.lookupswitch.offset ps.toList dflt x.toInt = off) (ht : (pc : Int) + off = (tgt : Int)) (kk : V G nL w tgt L st) : V G nL w pc L (.int x :: st) := fun H locs ls hP hS hL => lv_lookup C.hx C.hb d hq ho ht (kk H locs ls hP hS hL)

def FOk (own : String) (idx ci k : Nat) : Prop := ∃ (Cn : String) (T : u_T) (N : Nat), vwCl[ci]? = some (Cn, T, N) ∧ k < N ∧ (∀ w ∈ u_ws Cn T N, w ∈ wsG) ∧ Cond.fieldLink own idx (T k).1 (T k).2.1 (T k).2.2.1 ∈ wsG
def FPut (own : String) (idx ci k : Nat) (ty : FieldType) : Prop := ∃ (Cn : String) (T : u_T) (N : Nat) (ty0 : Nat → FieldType), vwCl[ci]? = some (Cn, T, N) ∧ k < N ∧ (∀ w ∈ u_ws Cn T N, w ∈ wsG) ∧ Cond.fieldLink own idx (T k).1 (T k).2.1 (T k).2.2.1 ∈ wsG ∧ (∀ k, k < N → parseFieldDescriptor (T k).2.2.1 = some (ty0 k)) ∧ (∀ a, a < N → ∀ b, b < N → a ≠ b → (T a).2.1 ≠ (T b).2.1) ∧ (T k).2.2.2 = false ∧ parseFieldDescriptor (T k).2.2.1 = some ty
def inb (i : Int32) (n : Nat) : Bool := decide (0 ≤ i) && decide (i.toNatClampNeg < n)
theorem inb_in {i : Int32} {n : Nat} (h : inb i n = true) : vp_in i n := by
  simp only [inb, Bool.and_eq_true, decide_eq_true_eq] at h
  intro q
  rcases q with q | q
  · exact absurd h.1 (Int32.not_le.mpr q)
  · omega
theorem inb_lt {i : Int32} {n : Nat} (h : inb i n = true) : i.toNatClampNeg < n := by
  simp only [inb, Bool.and_eq_true, decide_eq_true_eq] at h
  exact h.2
variable {ad : Nat → Nat} {shs : List Shp} {K K' : Mem} {q ci k idx : Nat} {fs : List (Option Nat)}
theorem v_getf (C : Cx G own cc nL fr lo) (d : decode cc pc = .ok (.getfield idx, 3)) (hp : pc + 3 = pc') (F : FOk own idx ci k) (hs : shs[q]? = some (.inl (ci, fs))) (hf : fs[k]? = some none) (kk : V G nL (wd (gC G) ad K 0 shs) pc' L (.int (K q k) :: st)) : V G nL (wd (gC G) ad K 0 shs) pc L (.ref (ad q) :: st) := by
  subst hp
  intro H locs ls hP hS hL
  obtain ⟨Cn, T, N, f1, f2, f3, f4⟩ := F
  have hv := flds_int (ad := ad) (f := K q) fs 0 k hf
  rw [Nat.zero_add] at hv
  exact va_get (D := gD G) (cl := vwCl) (Ts := wsG) C.hx C.hb C.hts f3 C.hown C.hK hP q (wd_at hs) f1 k f2 (C.hts _ f4) (fun _ h => h) hv d (kk H locs ls hP hS hL)
theorem v_getr (C : Cx G own cc nL fr lo) {r : Nat} (d : decode cc pc = .ok (.getfield idx, 3)) (hp : pc + 3 = pc') (F : FOk own idx ci k) (hs : shs[q]? = some (.inl (ci, fs))) (hf : fs[k]? = some (some r)) (kk : V G nL (wd (gC G) ad K 0 shs) pc' L (.ref (ad r) :: st)) : V G nL (wd (gC G) ad K 0 shs) pc L (.ref (ad q) :: st) := by
  subst hp
  intro H locs ls hP hS hL
  obtain ⟨Cn, T, N, f1, f2, f3, f4⟩ := F
  have hv := flds_ref (ad := ad) (f := K q) fs 0 k hf
  exact va_get (D := gD G) (cl := vwCl) (Ts := wsG) C.hx C.hb C.hts f3 C.hown C.hK hP q (wd_at hs) f1 k f2 (C.hts _ f4) (fun _ h => h) hv d (kk H locs ls hP hS hL)
theorem v_put_any (C : Cx G own cc nL fr lo) (hD : ∀ K, va_D (gA G) (wd (gC G) ad K 0 shs)) {ty : FieldType} {v : Int32} (d : decode cc pc = .ok (.putfield idx, 3)) (hp : pc + 3 = pc') (F : FPut own idx ci k ty) (hn : narrow ty (.int v) = .int v) (hfit : fits ty (.int v) = true) (hs : shs[q]? = some (.inl (ci, fs))) (hf : fs[k]? = some none) (kk : V G nL (wd (gC G) ad (up K q k v) 0 shs) pc' L st) : V G nL (wd (gC G) ad K 0 shs) pc L (.int v :: .ref (ad q) :: st) := by
  subst hp
  intro H locs ls hP hS hL
  obtain ⟨Cn, T, N, ty0, f1, f2, f3, f4, f5, f6, f7, f8⟩ := F
  have hl : k < (flds ad (K q) 0 fs).length := by
    rw [flds_len]
    exact (List.getElem?_eq_some_iff.mp hf).1
  refine va_put (D := gD G) (cl := vwCl) (Ts := wsG) (own := own) C.hx C.hb C.hts f3 ty0 f5 f6 C.hown C.hK hP (hD K) hS q (wd_at hs) f1 k f2 (C.hts _ f4) (fun _ h => h) f7 f8 hn hfit hl d (fun H1 locs1 hP1 _ hS1 => kk H1 locs1 ls ?_ hS1 hL)
  have e1 : (flds ad (K q) 0 fs).set k (.int v) = flds ad (up K q k v q) 0 fs := by
    have := flds_set (ad := ad) (f := K q) (g := up K q k v q) fs 0 k hf (fun a ha => by rw [up_oth (by omega)])
    rw [Nat.zero_add, up_at] at this
    exact this
  have e2 := wd_put (cA := gC G) (ad := ad) (K := K) (K' := up K q k v) hs (fun a ha => up_ne ha)
  rw [e1] at hP1
  exact e2 ▸ hP1
theorem v_putf (C : Cx G own cc nL fr lo) (hD : ∀ K, va_D (gA G) (wd (gC G) ad K 0 shs)) {v : Int32} (d : decode cc pc = .ok (.putfield idx, 3)) (hp : pc + 3 = pc') (F : FPut own idx ci k .int) (hs : shs[q]? = some (.inl (ci, fs))) (hf : fs[k]? = some none) (hK' : K' = up K q k v) (kk : V G nL (wd (gC G) ad K' 0 shs) pc' L st) : V G nL (wd (gC G) ad K 0 shs) pc L (.int v :: .ref (ad q) :: st) :=
  v_put_any C hD d hp F rfl rfl hs hf (hK' ▸ kk)
theorem v_putz (C : Cx G own cc nL fr lo) (hD : ∀ K, va_D (gA G) (wd (gC G) ad K 0 shs)) (d : decode cc pc = .ok (.putfield idx, 3)) (hp : pc + 3 = pc') (F : FPut own idx ci k .boolean) (hs : shs[q]? = some (.inl (ci, fs))) (hf : fs[k]? = some none) (hK' : K' = up K q k 1) (kk : V G nL (wd (gC G) ad K' 0 shs) pc' L st) : V G nL (wd (gC G) ad K 0 shs) pc L (.int 1 :: .ref (ad q) :: st) :=
  v_put_any C hD d hp F (by decide +kernel) (by decide +kernel) hs hf (hK' ▸ kk)
theorem v_iald (C : Cx G own cc nL fr lo) {n : Nat} {i : Int32} (d : decode cc pc = .ok (.iaload, 1)) (hp : pc + 1 = pc') (hs : shs[q]? = some (.inr (.inl n))) (hin : inb i n = true) (kk : V G nL (wd (gC G) ad K 0 shs) pc' L (.int (K q i.toNatClampNeg) :: st)) : V G nL (wd (gC G) ad K 0 shs) pc L (.int i :: .ref (ad q) :: st) := by
  subst hp
  intro H locs ls hP hS hL
  exact va_iald (D := gD G) (cl := vwCl) C.hx C.hb C.hK hP q 0 (wd_at hs) rfl (inb_in hin) d (kk H locs ls hP hS hL)
theorem v_iast (C : Cx G own cc nL fr lo) (hD : ∀ K, va_D (gA G) (wd (gC G) ad K 0 shs)) {n : Nat} {i x : Int32} (d : decode cc pc = .ok (.iastore, 1)) (hp : pc + 1 = pc') (hs : shs[q]? = some (.inr (.inl n))) (hin : inb i n = true) (hK' : K' = up K q i.toNatClampNeg x) (kk : V G nL (wd (gC G) ad K' 0 shs) pc' L st) : V G nL (wd (gC G) ad K 0 shs) pc L (.int x :: .int i :: .ref (ad q) :: st) := by
  subst hp
  subst hK'
  intro H locs ls hP hS hL
  refine va_iast (D := gD G) (cl := vwCl) C.hx C.hb C.hK hP (hD K) hS q 0 (wd_at hs) rfl (inb_in hin) d (fun H1 locs1 hP1 _ hS1 => kk H1 locs1 ls ?_ hS1 hL)
  have e2 := wd_put (cA := gC G) (ad := ad) (K := K) (K' := up K q i.toNatClampNeg x) hs (fun a ha => up_ne ha)
  rw [up_eq] at e2
  exact e2 ▸ hP1
theorem v_alen (C : Cx G own cc nL fr lo) {n : Nat} {v : Int32} (d : decode cc pc = .ok (.arraylength, 1)) (hp : pc + 1 = pc') (hs : shs[q]? = some (.inr (.inl n))) (hv : Int32.ofNat n = v) (kk : V G nL (wd (gC G) ad K 0 shs) pc' L (.int v :: st)) : V G nL (wd (gC G) ad K 0 shs) pc L (.ref (ad q) :: st) := by
  subst hp
  intro H locs ls hP hS hL
  exact va_alen (D := gD G) (cl := vwCl) C.hx C.hb C.hK hP q 0 (wd_at hs) rfl hv d (kk H locs ls hP hS hL)
theorem v_aald (C : Cx G own cc nL fr lo) {n t0 : Nat} {i : Int32} {ty : FieldType} {g : Nat → Nat} (hty : ty.isReference = true) (ht : ∀ cA, (tysOf cA)[t0]? = some (cA ty, ty)) (d : decode cc pc = .ok (.aaload, 1)) (hp : pc + 1 = pc') (hs : shs[q]? = some (.inr (.inr (ty, n, g)))) (hin : inb i n = true) (kk : V G nL (wd (gC G) ad K 0 shs) pc' L (.ref (ad (g i.toNatClampNeg)) :: st)) : V G nL (wd (gC G) ad K 0 shs) pc L (.int i :: .ref (ad q) :: st) := by
  subst hp
  intro H locs ls hP hS hL
  have hc : H[ad q]? = some (vp_cell (gC G ty) (n, .inr (.inr (.inr (.inr (fun j => some (ad (g j)))))))) := hP q _ (wd_at hs)
  exact W.aald (v := .ref (ad (g i.toNatClampNeg))) (ty := ty) C.hx C.hb hc ((C.hK.2 t0 _ (ht _)).1 n (fun j => va_rf (some (ad (g j))))) hty (fun q => by cases q) (by show ¬ (i < 0 ∨ (arrV _ _ _).slots.size ≤ _); rw [arrV_size]; exact inb_in hin) (by show (arrV _ _ _).slots[_]? = _; rw [arrV_read _ _ (inb_lt hin)]; rfl) rfl rfl d (kk H locs ls hP hS hL)
def cpok (sp dp n : Int32) (n0 n1 : Nat) : Bool := decide (0 ≤ sp) && decide (0 ≤ dp) && decide (0 ≤ n) && decide (sp.toNatClampNeg + n.toNatClampNeg ≤ n0) && decide (dp.toNatClampNeg + n.toNatClampNeg ≤ n1)
theorem v_copy (C : Cx G own cc nL fr lo) (hD : ∀ K, va_D (gA G) (wd (gC G) ad K 0 shs)) {q1 n0 n1 : Nat} {sp dp n : Int32} (d : decode cc pc = .ok (.invokestatic idx, 3)) (hp : pc + 3 = pc') (hlink : Cond.methodLink own idx arraycopyName ∈ wsG) (hnat : Cond.native arraycopyName ∈ wsG) (hstat : Cond.static arraycopyName ∈ wsG) (hini : Cond.initialized "java/lang/System" ∈ wsG) (hfr : 1 ≤ fr) (hlo : (st.map fun v => v.category).sum + (nativeFrameWords "java/lang/System" "arraycopy" 5 + 11) ≤ lo)
    (hs : shs[q]? = some (.inr (.inl n0))) (hs1 : shs[q1]? = some (.inr (.inl n1))) (hin : cpok sp dp n n0 n1 = true) (hK' : K' = cpm K q q1 sp.toNatClampNeg dp.toNatClampNeg n.toNatClampNeg) (kk : V G nL (wd (gC G) ad K' 0 shs) pc' L st) : V G nL (wd (gC G) ad K 0 shs) pc L (.int n :: .int dp :: .ref (ad q1) :: .int sp :: .ref (ad q) :: st) := by
  subst hp
  subst hK'
  intro H locs ls hP hS hL
  simp only [cpok, Bool.and_eq_true, decide_eq_true_eq] at hin
  obtain ⟨⟨⟨⟨h1, h2⟩, h3⟩, h4⟩, h5⟩ := hin
  refine va_copyi (D := gD G) (cl := vwCl) C.hx C.hb (C.hml.trans hL.1.symm) C.hown (C.hts _ hlink) (C.hts _ hnat) (C.hts _ hstat) (C.hts _ hini) C.hK hP (hD K) hS q q1 0 0 (wd_at hs) (wd_at hs1) (ty := .int) rfl rfl rfl (Int32.not_lt.mpr h1) (Int32.not_lt.mpr h2) (Int32.not_lt.mpr h3) h4 h5 (fun _ _ => rfl) (Nat.le_trans hfr C.hfr) (Nat.le_trans hlo C.hlo) d (fun H1 locs1 hP1 _ hS1 => kk H1 locs1 ls ?_ hS1 hL)
  have e2 := wd_put (cA := gC G) (ad := ad) (K := K) (K' := cpm K q q1 sp.toNatClampNeg dp.toNatClampNeg n.toNatClampNeg) hs1 (fun a ha => cpm_ne ha)
  rw [cpm_eq] at e2
  exact e2 ▸ hP1
/-! Math -/
def jmax (x y : Int32) : Int32 := if x < y then y else x
def jmin (x y : Int32) : Int32 := if y < x then y else x
def jabs (x : Int32) : Int32 := if 0 ≤ x then x else 0 - x
theorem v_max (C : Cx G own cc nL fr lo) {x y : Int32} (d : decode cc pc = .ok (.invokestatic idx, 3)) (hp : pc + 3 = pc') (h1 : Cond.methodLink own idx Lib.Math.max.name ∈ wsG) (h2 : Cond.static Lib.Math.max.name ∈ wsG) (h3 : Cond.initialized "java/lang/Math" ∈ wsG) (h4 : Cond.code Lib.Math.max.name Lib.Math.max.code 2 (some .int) ∈ wsG) (hfr : 1 ≤ fr) (hlo : (st.map fun v => v.category).sum + 13 ≤ lo) (kk : V G nL w pc' L (.int (jmax x y) :: st)) : V G nL w pc L (.int y :: .int x :: st) := by
  subst hp
  intro H locs ls hP hS hL
  exact va_mmax C.hx C.hb (C.hml.trans hL.1.symm) C.hown (C.hts _ h1) (C.hts _ h2) (C.hts _ h3) (C.hts _ h4) (Nat.le_trans hfr C.hfr) (Nat.le_trans hlo C.hlo) C.hk C.hn d (kk H locs ls hP hS hL)
theorem v_min (C : Cx G own cc nL fr lo) {x y : Int32} (d : decode cc pc = .ok (.invokestatic idx, 3)) (hp : pc + 3 = pc') (h1 : Cond.methodLink own idx Lib.Math.min.name ∈ wsG) (h2 : Cond.static Lib.Math.min.name ∈ wsG) (h3 : Cond.initialized "java/lang/Math" ∈ wsG) (h4 : Cond.code Lib.Math.min.name Lib.Math.min.code 2 (some .int) ∈ wsG) (hfr : 1 ≤ fr) (hlo : (st.map fun v => v.category).sum + 13 ≤ lo) (kk : V G nL w pc' L (.int (jmin x y) :: st)) : V G nL w pc L (.int y :: .int x :: st) := by
  subst hp
  intro H locs ls hP hS hL
  exact va_mmin C.hx C.hb (C.hml.trans hL.1.symm) C.hown (C.hts _ h1) (C.hts _ h2) (C.hts _ h3) (C.hts _ h4) (Nat.le_trans hfr C.hfr) (Nat.le_trans hlo C.hlo) C.hk C.hn d (kk H locs ls hP hS hL)
theorem v_abs (C : Cx G own cc nL fr lo) {x : Int32} (d : decode cc pc = .ok (.invokestatic idx, 3)) (hp : pc + 3 = pc') (h1 : Cond.methodLink own idx Lib.Math.abs.name ∈ wsG) (h2 : Cond.static Lib.Math.abs.name ∈ wsG) (h3 : Cond.initialized "java/lang/Math" ∈ wsG) (h4 : Cond.code Lib.Math.abs.name Lib.Math.abs.code 1 (some .int) ∈ wsG) (hfr : 1 ≤ fr) (hlo : (st.map fun v => v.category).sum + 13 ≤ lo) (kk : V G nL w pc' L (.int (jabs x) :: st)) : V G nL w pc L (.int x :: st) := by
  subst hp
  intro H locs ls hP hS hL
  exact va_mabs C.hx C.hb (C.hml.trans hL.1.symm) C.hown (C.hts _ h1) (C.hts _ h2) (C.hts _ h3) (C.hts _ h4) (Nat.le_trans hfr C.hfr) (Nat.le_trans hlo C.hlo) C.hk C.hn d (kk H locs ls hP hS hL)
/-! the row ABOVE -/
theorem v_getsA (C : Cx G own cc nL fr lo) (hl : Cond.fieldLink own idx "KnitStreets$Kinds" "ABOVE" "[I" ∈ wsG) (d : decode cc pc = .ok (.getstatic idx, 3)) (hp : pc + 3 = pc') (kk : V G nL w pc' L (.ref (gX G).1 :: st)) : V G nL w pc L st := by
  subst hp
  intro H locs ls hP hS hL
  exact va_gets C.hx C.hb C.hE.1 hS C.hown (C.hts _ hl) (fun _ h => h) d (kk H locs ls hP hS hL)
theorem v_ialdA (C : Cx G own cc nL fr lo) {i : Int32} (d : decode cc pc = .ok (.iaload, 1)) (hp : pc + 1 = pc') (hin : inb i 6 = true) (kk : V G nL w pc' L (.int (abv i.toNatClampNeg) :: st)) : V G nL w pc L (.int i :: .ref (gX G).1 :: st) := by
  subst hp
  intro H locs ls hP hS hL
  obtain ⟨cell, h1, h2, h3, h4, -, h5, -⟩ := C.hE.2.1.kept hS.2.1
  have hlt := inb_lt hin
  exact W.iald (v := .int (abv i.toNatClampNeg)) C.hx C.hb h1 h2 h3 (by
    intro q
    rcases q with q | q
    · exact inb_in hin (Or.inl q)
    · omega) (h5 _ hlt) rfl rfl d (kk H locs ls hP hS hL)
end VC

