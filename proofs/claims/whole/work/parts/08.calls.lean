/-! calls and contracts over a memory of numbers -/
theorem goodG {ws : List Cond} (h : ∀ w ∈ ws, w ∈ wsG) : GoodIn wsG ws := fun w hw => ⟨h w hw, good_of_word (wsG_good w (h w hw))⟩
def cws (y : MethodName) (bytes : ByteArray) (maxL : Nat) (ret : Option FieldType) : List Cond := Cond.code y bytes maxL ret :: wsG
theorem cws_in {y : MethodName} {bytes : ByteArray} {maxL : Nat} {ret : Option FieldType} (h : Cond.code y bytes maxL ret ∈ wsG) : ∀ w ∈ cws y bytes maxL ret, w ∈ wsG := fun w hw => (List.mem_cons.mp hw).elim (fun e => e ▸ h) id
/-- a method that can be called, of an object -/
def YV (y : MethodName) (bytes : ByteArray) (maxL : Nat) (ret : Option FieldType) (n : Nat) : Prop := (y.cls ≠ "java/lang/invoke/MethodHandle" ∧ y.cls ≠ "java/lang/invoke/VarHandle" ∧ (parseMethodDescriptor y.desc).map (fun d => d.parameters.length) = some n) ∧ Cond.code y bytes maxL ret ∈ wsG ∧ Cond.initialized y.cls ∈ wsG ∧ Cond.instanceMethod y ∈ wsG ∧ Cond.selects y.cls y y ∈ wsG
/-- a static method -/
def YS (y : MethodName) (bytes : ByteArray) (maxL : Nat) (ret : Option FieldType) (n : Nat) : Prop := (y.cls ≠ "java/lang/invoke/MethodHandle" ∧ y.cls ≠ "java/lang/invoke/VarHandle" ∧ (parseMethodDescriptor y.desc).map (fun d => d.parameters.length) = some n) ∧ Cond.code y bytes maxL ret ∈ wsG ∧ Cond.initialized y.cls ∈ wsG ∧ Cond.static y ∈ wsG
abbrev rmOf (fr lo : Nat) : Room := { frames := fr, cells := 0, slots := 0, locals := lo }
def wPre (D : va_G) (cA : FieldType → ClassId) (X : Ex) (w : va_W) (av : List Value) (sz : Nat) : Array Value → State → Prop := va_Pc av (fun U => U.heap.size = sz ∧ va_P D vwCl w U.heap ∧ va_K D vwCl (tysOf cA) U ∧ va_D (fun _ => True) w ∧ exF X (va_A w sz) U U.heap)
def qI (D : va_G) (w' : va_W) (r : Int32) (A : Nat → Prop) : Array Value → State → Outcome → State → Prop := va_Qi (fun (r' : Int32) (_ : Unit) => r' = r) (fun _ t => va_P D vwCl w' t.heap) A
def qV (D : va_G) (w' : va_W) (A : Nat → Prop) : Array Value → State → Outcome → State → Prop := va_Qv (fun (_ : Unit) => True) (fun _ t => va_P D vwCl w' t.heap) A
/-- the contract of a method with an int for an answer: from the world w with these arguments it answers r, and leaves the world w' -/
def MI (l : Launch) (D : va_G) (cA : FieldType → ClassId) (X : Ex) (y : MethodName) (bytes : ByteArray) (maxL : Nat) (ret : Option FieldType) (fr lo : Nat) (av : List Value) (w w' : va_W) (r : Int32) : Prop :=
  ∀ sz, Met l y (cws y bytes maxL ret) (rmOf fr lo) (wPre D cA X w av sz) (qI D w' r (va_A w sz)) 0 0 (va_A w sz)
def MV (l : Launch) (D : va_G) (cA : FieldType → ClassId) (X : Ex) (y : MethodName) (bytes : ByteArray) (maxL : Nat) (fr lo : Nat) (av : List Value) (w w' : va_W) : Prop :=
  ∀ sz, Met l y (cws y bytes maxL none) (rmOf fr lo) (wPre D cA X w av sz) (qV D w' (va_A w sz)) 0 0 (va_A w sz)
theorem wPre_blind {D : va_G} {cA : FieldType → ClassId} {X : Ex} {w : va_W} {av : List Value} {sz : Nat} : FrameBlind (wPre D cA X w av sz) := by
  intro a U g mk h
  obtain ⟨h0, h1, h2, h3, h4, h5⟩ := h
  exact ⟨h0, h1, h2, va_K.moved (u := U) (U := U.calling g mk a) (Vm.Alike.refl U.vm) h3, h4, h5.same (u := U) (U := U.calling g mk a) rfl⟩
/-- the callee's world wc lies in the caller's w; when it has become wc', w has become w' -/
def Sub (A : Nat → Prop) (w w' wc wc' : va_W) : Prop :=
  (∀ D H, va_P D vwCl w H → va_P D vwCl wc H) ∧ va_D (fun _ => True) wc ∧ (∀ (k : Nat) (q : Nat) (e : va_E), wc[k]? = some (q, e) → A q) ∧ (∀ D (H H1 : Heap), va_P D vwCl w H → (∀ q : Nat, q < H.size → ¬ va_A wc H.size q → H1[q]? = H[q]?) → va_P D vwCl wc' H1 → va_P D vwCl w' H1)
theorem Sub.whole {A : Nat → Prop} {cA : FieldType → ClassId} {ad : Nat → Nat} {shs : List Shp} (hD : ∀ K, va_D A (wd cA ad K 0 shs)) (K K' : Mem) : Sub A (wd cA ad K 0 shs) (wd cA ad K' 0 shs) (wd cA ad K 0 shs) (wd cA ad K' 0 shs) :=
  ⟨fun _ _ h => h, (hD K).weaken (fun _ _ _ _ => trivial), fun k q e h => (hD K).2 k (q, e) h, fun _ _ _ _ _ h => h⟩
theorem Sub.none {A : Nat → Prop} {w wc : va_W} (hP : ∀ D H, va_P D vwCl w H → va_P D vwCl wc H) (hD : va_D (fun _ => True) wc) (hA : ∀ (k : Nat) (q : Nat) (e : va_E), wc[k]? = some (q, e) → A q) (hj : ∀ D (H H1 : Heap), va_P D vwCl w H → (∀ q : Nat, q < H.size → ¬ va_A wc H.size q → H1[q]? = H[q]?) → va_P D vwCl wc H1 → va_P D vwCl w H1) : Sub A w w wc wc := ⟨hP, hD, hA, hj⟩
theorem Sub.same {A : Nat → Prop} {w : va_W} (hD : va_D A w) : Sub A w w w w := ⟨fun _ _ h => h, hD.weaken (fun _ _ _ _ => trivial), fun k q e h => hD.2 k (q, e) h, fun _ _ _ _ _ h => h⟩
section VCALL
variable {G : Ctx} {own : String} {cc : ByteArray} {nL fr lo : Nat} {w w' wc wc' : va_W} {pc pc' : Nat} {L : List (Nat × Value)} {st rest : List Value} {y : MethodName} {bytes : ByteArray} {maxL n fy ly idx b ci N : Nat} {ret : Option FieldType} {As : List Value} {r : Int32} {Cn : String} {T : u_T} {fs : List Value}
theorem v_pre (C : Cx G own cc nL fr lo) (S : Sub (gA G) w w' wc wc') {av : List Value} {H : Heap} {locs : List Loc} (hP : va_P (gD G) vwCl w H) (hS : va_S (gA G) (gs G).heap H locs) : ∀ U : State, U.heap = H → (gs G).WarmedH U.vm → wPre (gD G) (gC G) (gX G) wc av H.size av.toArray U := by
  intro U hU hW
  refine ⟨rfl, by rw [hU], by rw [hU]; exact S.1 _ _ hP, va_K.moved hW.alike C.hK, S.2.1, ?_⟩
  rw [hU]
  refine ((C.hE.kept hS.2.1).warm hW).narrow ?_
  rintro q (⟨k, e, h⟩ | h)
  · exact S.2.2.1 k q e h
  · exact C.hA q (Nat.le_trans hS.1 h)
theorem v_fr (C : Cx G own cc nL fr lo) (S : Sub (gA G) w w' wc wc') {H : Heap} {locs : List Loc} (hS : va_S (gA G) (gs G).heap H locs) : ∀ q, va_A wc H.size q → gA G q := by
  rintro q (⟨k, e, h⟩ | h)
  · exact S.2.2.1 k q e h
  · exact C.hA q (Nat.le_trans hS.1 h)
theorem v_cwV (C : Cx G own cc nL fr lo) (Y : YV y bytes maxL ret n) (hl : Cond.methodLink own idx y ∈ wsG) (hR : fy + 1 ≤ fr ∧ 8 + (maxL + 11) + ly ≤ lo) : CallW (gR G) (gs G) (ga G) own y.cls idx y bytes maxL ret (cws y bytes maxL ret) (rmOf fy ly) 0 0 n :=
  cwV n C.hts (goodG (by
    intro x hx
    unfold wsV at hx
    rcases List.mem_append.mp hx with h | h
    · simp only [List.mem_cons, List.not_mem_nil, or_false] at h
      rcases h with rfl | rfl | rfl | rfl
      · exact hl
      · exact Y.2.2.2.1
      · exact Y.2.2.2.2
      · exact Y.2.2.1
    · exact cws_in Y.2.1 x h)) rfl rfl rfl ⟨rfl, Y.1⟩ ⟨Nat.le_trans hR.1 C.hfr, Nat.le_trans hR.2 C.hlo⟩
theorem v_cwS (C : Cx G own cc nL fr lo) (Y : YS y bytes maxL ret n) (hl : Cond.methodLink own idx y ∈ wsG) (hR : fy + 1 ≤ fr ∧ 8 + (maxL + 11) + ly ≤ lo) : CallB (gR G) (gs G) (ga G) own idx y bytes maxL ret (cws y bytes maxL ret) (rmOf fy ly) 0 0 n ∧ (Cond.static y).before (ga G) (gs G) = true :=
  va_cwS n C.hts (goodG (by
    intro x hx
    unfold va_wsS at hx
    rcases List.mem_append.mp hx with h | h
    · simp only [List.mem_cons, List.not_mem_nil, or_false] at h
      rcases h with rfl | rfl | rfl
      · exact hl
      · exact Y.2.2.2
      · exact Y.2.2.1
    · exact cws_in Y.2.1 x h)) rfl rfl rfl Y.1 ⟨Nat.le_trans hR.1 C.hfr, Nat.le_trans hR.2 C.hlo⟩
theorem v_callVi (C : Cx G own cc nL fr lo) (Y : YV y bytes maxL ret n) (hl : Cond.methodLink own idx y ∈ wsG) (hM : MI (gl G) (gD G) (gC G) (gX G) y bytes maxL ret fy ly (.ref b :: As) wc wc' r) (S : Sub (gA G) w w' wc wc') (hr : ∃ (k : Nat) (ci : Nat) (fs : List Value) (T : u_T) (N : Nat), w[k]? = some (b, .inr (ci, fs)) ∧ vwCl[ci]? = some (y.cls, T, N)) (hn : As.length = n) (hst : st = As.reverse ++ .ref b :: rest) (hW : (rest.map fun v => v.category).sum ≤ 8) (hR : fy + 1 ≤ fr ∧ 8 + (maxL + 11) + ly ≤ lo)
    (d : decode cc pc = .ok (.invokevirtual idx, 3)) (hp : pc + 3 = pc') (kk : V G nL w' pc' L (.int r :: rest)) : V G nL w pc L st := by
  subst hp
  subst hst
  intro H locs ls hP hS hL
  obtain ⟨k, ci, fs, T, N, hk, hc⟩ := hr
  refine va_calli (va_runV (As := As) (rest := rest) ⟨C.hx, C.hb, C.hml, C.hown, C.hts⟩ (hM H.size) (v_cwV C Y hl hR) ⟨wPre_blind, va_recv C.hK hP hc hk, v_pre C S hP hS⟩ rfl hn hL.1 rfl (lv_room hW) d ⟨C.hk, C.hn⟩) hS (fun q _ h => v_fr C S hS q h) (v_fr C S hS) (fun r' u t H1 locs1 ht hvm hr' hB hz hk1 hS1 => ?_)
  subst hr'
  rw [ht] at hB
  exact kk H1 locs1 ls (S.2.2.2 _ H H1 hP hk1 hB) hS1 hL
theorem v_callVv (C : Cx G own cc nL fr lo) (Y : YV y bytes maxL none n) (hl : Cond.methodLink own idx y ∈ wsG) (hM : MV (gl G) (gD G) (gC G) (gX G) y bytes maxL fy ly (.ref b :: As) wc wc') (S : Sub (gA G) w w' wc wc') (hr : ∃ (k : Nat) (ci : Nat) (fs : List Value) (T : u_T) (N : Nat), w[k]? = some (b, .inr (ci, fs)) ∧ vwCl[ci]? = some (y.cls, T, N)) (hn : As.length = n) (hst : st = As.reverse ++ .ref b :: rest) (hW : (rest.map fun v => v.category).sum ≤ 8) (hR : fy + 1 ≤ fr ∧ 8 + (maxL + 11) + ly ≤ lo)
    (d : decode cc pc = .ok (.invokevirtual idx, 3)) (hp : pc + 3 = pc') (kk : V G nL w' pc' L rest) : V G nL w pc L st := by
  subst hp
  subst hst
  intro H locs ls hP hS hL
  obtain ⟨k, ci, fs, T, N, hk, hc⟩ := hr
  refine va_callv (va_runV (As := As) (rest := rest) ⟨C.hx, C.hb, C.hml, C.hown, C.hts⟩ (hM H.size) (v_cwV C Y hl hR) ⟨wPre_blind, va_recv C.hK hP hc hk, v_pre C S hP hS⟩ rfl hn hL.1 rfl (lv_room hW) d ⟨C.hk, C.hn⟩) hS (fun q _ h => v_fr C S hS q h) (v_fr C S hS) (fun u t H1 locs1 ht hvm hr' hB hz hk1 hS1 => ?_)
  rw [ht] at hB
  exact kk H1 locs1 ls (S.2.2.2 _ H H1 hP hk1 hB) hS1 hL
theorem v_callSi (C : Cx G own cc nL fr lo) (Y : YS y bytes maxL ret n) (hl : Cond.methodLink own idx y ∈ wsG) (hM : MI (gl G) (gD G) (gC G) (gX G) y bytes maxL ret fy ly As wc wc' r) (S : Sub (gA G) w w' wc wc') (hn : As.length = n) (hst : st = As.reverse ++ rest) (hW : (rest.map fun v => v.category).sum ≤ 8) (hR : fy + 1 ≤ fr ∧ 8 + (maxL + 11) + ly ≤ lo)
    (d : decode cc pc = .ok (.invokestatic idx, 3)) (hp : pc + 3 = pc') (kk : V G nL w' pc' L (.int r :: rest)) : V G nL w pc L st := by
  subst hp
  subst hst
  intro H locs ls hP hS hL
  refine va_calli (va_runS (As := As) (rest := rest) ⟨C.hx, C.hb, C.hml, C.hown, C.hts⟩ (hM H.size) (v_cwS C Y hl hR) ⟨wPre_blind, v_pre C S hP hS⟩ rfl hn hL.1 rfl (lv_room hW) d ⟨C.hk, C.hn⟩) hS (fun q _ h => v_fr C S hS q h) (v_fr C S hS) (fun r' u t H1 locs1 ht hvm hr' hB hz hk1 hS1 => ?_)
  subst hr'
  rw [ht] at hB
  exact kk H1 locs1 ls (S.2.2.2 _ H H1 hP hk1 hB) hS1 hL
theorem v_callSNi (C : Cx G own cc nL fr lo) {host : String} (Y : YS y bytes maxL ret n) (hl : va_Nw (.methodLinkNest own idx y host) (gs G)) (hM : MI (gl G) (gD G) (gC G) (gX G) y bytes maxL ret fy ly As wc wc' r) (S : Sub (gA G) w w' wc wc') (hn : As.length = n) (hst : st = As.reverse ++ rest) (hW : (rest.map fun v => v.category).sum ≤ 8) (hR : fy + 1 ≤ fr ∧ 8 + (maxL + 11) + ly ≤ lo)
    (d : decode cc pc = .ok (.invokestatic idx, 3)) (hp : pc + 3 = pc') (kk : V G nL w' pc' L (.int r :: rest)) : V G nL w pc L st := by
  subst hp
  subst hst
  intro H locs ls hP hS hL
  refine va_calli (va_runSN (As := As) (rest := rest) ⟨C.hx, C.hb, C.hml, C.hown, C.hts⟩ (hM H.size) ⟨va_cnB n C.hts (goodG (cws_in Y.2.1)) rfl rfl rfl hl (C.hts _ Y.2.2.1) Y.1 ⟨Nat.le_trans hR.1 C.hfr, Nat.le_trans hR.2 C.hlo⟩, C.hts _ Y.2.2.2, trivial⟩ ⟨wPre_blind, v_pre C S hP hS⟩ rfl hn hL.1 rfl (lv_room hW) d ⟨C.hk, C.hn⟩) hS (fun q _ h => v_fr C S hS q h) (v_fr C S hS) (fun r' u t H1 locs1 ht hvm hr' hB hz hk1 hS1 => ?_)
  subst hr'
  rw [ht] at hB
  exact kk H1 locs1 ls (S.2.2.2 _ H H1 hP hk1 hB) hS1 hL
end VCALL
/-! a method's end, and its contract out of V from its entry -/
def RI (G : Ctx) (cc : ByteArray) (nL : Nat) (w : va_W) (r : Int32) : Prop := ∀ pc L, decode cc pc = .ok (.ireturn, 1) → V G nL w pc L [.int r]
def RZ (G : Ctx) (cc : ByteArray) (nL : Nat) (w : va_W) (r : Int32) : Prop := ∀ pc L, decode cc pc = .ok (.ireturn, 1) → (r = 0 ∨ r = 1) → V G nL w pc L [.int r]
def RV (G : Ctx) (cc : ByteArray) (nL : Nat) (w : va_W) : Prop := ∀ pc L, decode cc pc = .ok (.return_, 1) → V G nL w pc L []
section VMET
variable {l : Launch} {D : va_G} {cA : FieldType → ClassId} {X : Ex} {y : MethodName} {bytes : ByteArray} {maxL fr lo : Nat} {av : List Value} {w w' : va_W} {r : Int32}
theorem mB {ret : Option FieldType} {Qc : Nat → Array Value → State → Outcome → State → Prop} (hy : plainName y.cls = true) (hlen : (lg_sl av).length ≤ maxL)
    (body : ∀ (G : Ctx), gl G = l → gD G = D → gC G = cA → gX G = X → Cx G y.cls bytes maxL fr lo → gA G = va_A w (gs G).heap.size → (gme G).locks = false → (gme G).sig.returnType = ret → gk G = 0 → gn G = 0 → gQ G = MQ (gb G) (Qc (gs G).heap.size) (ga G) (gs G) 0 0 (va_A w (gs G).heap.size) → va_D (gA G) w → V G maxL w 0 (lv_args 0 av) []) :
    ∀ sz, Met l y (cws y bytes maxL ret) (rmOf fr lo) (wPre D cA X w av sz) (Qc sz) 0 0 (va_A w sz) := by
  intro sz
  refine Met.ofW (cc := bytes) (maxL := maxL) (ret := ret) hy rfl ?_
  intro p e s m args below meth c s₁ B hml hv
  obtain ⟨rfl, hsz, hP, hK, hD0, hE⟩ := hv
  subst hsz
  have hts := atoms_spec (ws := cws y bytes maxL ret) B.pre
  have hown : s.vm.findClass y.cls = some m.cls := findClass_of_methodNamed B.named
  have C : Cx ((p, l, e, (headSpec (cws y bytes maxL ret) (rmOf fr lo)).room), (s, m, av.toArray, below), (meth, c), (D, cA, X), (va_A w s.heap.size, MQ below (Qc s.heap.size) av.toArray s 0 0 (va_A w s.heap.size), 0, 0)) y.cls bytes maxL fr lo :=
    ⟨B.exec, B.bytes, hml, hown, fun x hx => hts x (List.mem_cons_of_mem _ hx), hK, fun q h => Or.inr h, hE, Nat.le_refl _, Nat.le_refl _, Nat.zero_le _, Nat.zero_le _⟩
  have := body _ rfl rfl rfl rfl C rfl B.notSynchronized B.returns rfl rfl rfl hD0.self s.heap [] _ hP va_S.rf (lv_entry av (n := maxL) hlen)
  rw [lg_entry_eq]
  exact this
theorem mI_of (hy : plainName y.cls = true) (hlen : (lg_sl av).length ≤ maxL)
    (body : ∀ (G : Ctx), gl G = l → gD G = D → gC G = cA → gX G = X → Cx G y.cls bytes maxL fr lo → va_D (gA G) w → RI G bytes maxL w' r → V G maxL w 0 (lv_args 0 av) []) : MI l D cA X y bytes maxL (some .int) fr lo av w w' r := by
  refine mB (Qc := fun sz => qI D w' r (va_A w sz)) hy hlen ?_
  intro G h1 h2 h3 h4 C hA hlk hret hk0 hn0 hQ hD
  refine body G h1 h2 h3 h4 C hD ?_
  intro pc L d H locs ls hP hS hL
  rw [hQ, hk0, hn0]
  rw [hA] at hS
  refine W.iret C.hx C.hb hret ?_ hS.2.2 d hlk
  intro t ht hW
  exact ⟨⟨r, (), rfl, rfl, by show va_P D vwCl w' t.heap; rw [ht, ← h2]; exact hP⟩, hS.F ht⟩
theorem mZ_of (hy : plainName y.cls = true) (hlen : (lg_sl av).length ≤ maxL)
    (body : ∀ (G : Ctx), gl G = l → gD G = D → gC G = cA → gX G = X → Cx G y.cls bytes maxL fr lo → va_D (gA G) w → RZ G bytes maxL w' r → V G maxL w 0 (lv_args 0 av) []) : MI l D cA X y bytes maxL (some .boolean) fr lo av w w' r := by
  refine mB (Qc := fun sz => qI D w' r (va_A w sz)) hy hlen ?_
  intro G h1 h2 h3 h4 C hA hlk hret hk0 hn0 hQ hD
  refine body G h1 h2 h3 h4 C hD ?_
  intro pc L d hz H locs ls hP hS hL
  rw [hQ, hk0, hn0]
  rw [hA] at hS
  refine W.zret C.hx C.hb hret (by rcases hz with rfl | rfl <;> decide +kernel) ?_ hS.2.2 d hlk
  intro t ht hW
  exact ⟨⟨r, (), rfl, rfl, by show va_P D vwCl w' t.heap; rw [ht, ← h2]; exact hP⟩, hS.F ht⟩
theorem mV_of (hy : plainName y.cls = true) (hlen : (lg_sl av).length ≤ maxL)
    (body : ∀ (G : Ctx), gl G = l → gD G = D → gC G = cA → gX G = X → Cx G y.cls bytes maxL fr lo → va_D (gA G) w → RV G bytes maxL w' → V G maxL w 0 (lv_args 0 av) []) : MV l D cA X y bytes maxL fr lo av w w' := by
  refine mB (Qc := fun sz => qV D w' (va_A w sz)) hy hlen ?_
  intro G h1 h2 h3 h4 C hA hlk hret hk0 hn0 hQ hD
  refine body G h1 h2 h3 h4 C hD ?_
  intro pc L d H locs ls hP hS hL
  rw [hQ, hk0, hn0]
  rw [hA] at hS
  refine W.vret C.hx C.hb hret ?_ hS.2.2 d hlk
  intro t ht hW
  exact ⟨⟨(), rfl, trivial, by show va_P D vwCl w' t.heap; rw [ht, ← h2]; exact hP⟩, hS.F ht⟩
end VMET
/-! the lifted programs: partial functions of the memory -/
def FU : Nat := 4096
def nm {α β : Type} (v : α) (f : α → Option β) : Option β := f v
def gd {β : Type} (b : Bool) (x : Option β) : Option β := match b with
  | true => x
  | false => none
def bd {α β : Type} (x : Option α) (f : α → Option β) : Option β := match x with
  | some a => f a
  | none => none
def bd2 {α γ β : Type} (x : Option (α × γ)) (f : α → γ → Option β) : Option β := match x with
  | some (a, b) => f a b
  | none => none
theorem nmS {α β : Type} {v : α} {f : α → Option β} {r : β} (h : nm v f = some r) : ∃ x, x = v ∧ f x = some r := ⟨v, rfl, h⟩
theorem gdS {β : Type} {b : Bool} {x : Option β} {r : β} (h : gd b x = some r) : b = true ∧ x = some r := by
  cases b with
  | true => exact ⟨rfl, h⟩
  | false => cases h
theorem bdS {α β : Type} {x : Option α} {f : α → Option β} {r : β} (h : bd x f = some r) : ∃ a, x = some a ∧ f a = some r := by
  cases x with
  | some a => exact ⟨a, rfl, h⟩
  | none => cases h
theorem bd2S {α γ β : Type} {x : Option (α × γ)} {f : α → γ → Option β} {r : β} (h : bd2 x f = some r) : ∃ a b, x = some (a, b) ∧ f a b = some r := by
  cases x with
  | some a => exact ⟨a.1, a.2, rfl, h⟩
  | none => cases h
theorem ifp {c : Prop} {dc : Decidable c} {β : Type} {a b : Option β} {r : β} (hc : c) (h : @ite _ c dc a b = some r) : a = some r := by rwa [if_pos hc] at h
theorem ifn {c : Prop} {dc : Decidable c} {β : Type} {a b : Option β} {r : β} (hc : ¬ c) (h : @ite _ c dc a b = some r) : b = some r := by rwa [if_neg hc] at h
theorem ifpn {c : Prop} {dc : Decidable c} {β : Type} {a b : Option β} {r : β} (h : @ite _ c dc a b = some r) : (c ∧ a = some r) ∨ (¬ c ∧ b = some r) := by
  by_cases hc : c
  · exact Or.inl ⟨hc, by rwa [if_pos hc] at h⟩
  · exact Or.inr ⟨hc, by rwa [if_neg hc] at h⟩
theorem v_nmi {G : Ctx} {nL : Nat} {w : va_W} {pc : Nat} {L : List (Nat × Value)} {st : List Value} {x v : Int32} (e : v = x) (kk : V G nL w pc L (.int v :: st)) : V G nL w pc L (.int x :: st) := e ▸ kk
theorem v_nmr {G : Ctx} {nL : Nat} {w : va_W} {pc : Nat} {L : List (Nat × Value)} {st : List Value} {ad : Nat → Nat} {x v : Nat} (e : v = x) (kk : V G nL w pc L (.ref (ad v) :: st)) : V G nL w pc L (.ref (ad x) :: st) := e ▸ kk
def z01 (r : Int32) : Bool := decide (r = 0) || decide (r = 1)
theorem z01S {r : Int32} (h : z01 r = true) : r = 0 ∨ r = 1 := by simpa [z01] using h
def nz (y : Int32) : Bool := !decide (y = 0)
theorem nzS {y : Int32} (h : nz y = true) : ¬ y = 0 := by simpa [nz] using h

