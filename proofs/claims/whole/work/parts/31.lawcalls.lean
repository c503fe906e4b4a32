/-! the calls of the law, each on both sides -/
def Sim0 (Rel : Mem → Mem → Prop) (f g : Mem → Option (Int32 × Mem)) : Prop := ∀ K R, Rel K R → ∃ r K' R', f K = some (r, K') ∧ g R = some (r, R') ∧ Rel K' R'
def Sim1 (Rel : Mem → Mem → Prop) (f g : Int32 → Mem → Option (Int32 × Mem)) : Prop := ∀ a K R, Rel K R → ∃ r K' R', f a K = some (r, K') ∧ g a R = some (r, R') ∧ Rel K' R'
def Sim2 (Rel : Mem → Mem → Prop) (f g : Int32 → Int32 → Mem → Option (Int32 × Mem)) : Prop := ∀ a b K R, Rel K R → ∃ r K' R', f a b K = some (r, K') ∧ g a b R = some (r, R') ∧ Rel K' R'
def Sim3 (Rel : Mem → Mem → Prop) (f g : Int32 → Int32 → Int32 → Mem → Option (Int32 × Mem)) : Prop := ∀ a b c K R, Rel K R → ∃ r K' R', f a b c K = some (r, K') ∧ g a b c R = some (r, R') ∧ Rel K' R'
def Sim4 (Rel : Mem → Mem → Prop) (f g : Int32 → Int32 → Int32 → Int32 → Mem → Option (Int32 × Mem)) : Prop := ∀ a b c d K R, Rel K R → ∃ r K' R', f a b c d K = some (r, K') ∧ g a b c d R = some (r, R') ∧ Rel K' R'
def Sim5 (Rel : Mem → Mem → Prop) (f g : Int32 → Int32 → Int32 → Int32 → Int32 → Mem → Option (Int32 × Mem)) : Prop := ∀ a b c d e K R, Rel K R → ∃ r K' R', f a b c d e K = some (r, K') ∧ g a b c d e R = some (r, R') ∧ Rel K' R'
theorem map_some {K K' : Mem} {x : Option Int32} {r : Int32} (h : x.map (fun r => (r, K)) = some (r, K')) : x = some r ∧ K' = K := by
  cases x with
  | none => cases h
  | some v =>
    cases h
    exact ⟨rfl, rfl⟩
theorem Sub.left {A : Nat → Prop} {wK wK' wR : va_W} (hD : va_D A (wK ++ wR)) : Sub A (wK ++ wR) (wK' ++ wR) wK wK' := by
  have hX : ∀ (k : Nat) (q : Nat × va_E), wK[k]? = some q → (wK ++ wR)[k]? = some q := fun k q h => by
    rw [List.getElem?_append_left (List.getElem?_eq_some_iff.mp h).1]
    exact h
  have hY : ∀ (k : Nat) (q : Nat × va_E), wR[k]? = some q → (wK ++ wR)[wK.length + k]? = some q := fun k q h => by
    rw [List.getElem?_append_right (by omega)]
    simpa using h
  refine ⟨fun D H h k q hk => h k q (hX k q hk), ⟨fun i j p q hi hj e => hD.1 i j p q (hX i p hi) (hX j q hj) e, fun _ _ _ => trivial⟩, fun k q e h => hD.2 k (q, e) (hX k _ h), fun D H H1 hP hk hP1 => ?_⟩
  refine va_P.app hP1 (fun k q hq => ?_)
  have h0 := hP _ q (hY k q hq)
  refine h0.kept (hk q.1 h0.lt ?_)
  rintro (⟨k2, e, h⟩ | h)
  · have := hD.1 k2 (wK.length + k) (q.1, e) q (hX k2 _ h) (hY k q hq) rfl
    have := (List.getElem?_eq_some_iff.mp h).1
    omega
  · have := h0.lt
    omega
theorem Sub.right {A : Nat → Prop} {wK wR wR' : va_W} (hD : va_D A (wK ++ wR)) : Sub A (wK ++ wR) (wK ++ wR') wR wR' := by
  have hX : ∀ (k : Nat) (q : Nat × va_E), wK[k]? = some q → (wK ++ wR)[k]? = some q := fun k q h => by
    rw [List.getElem?_append_left (List.getElem?_eq_some_iff.mp h).1]
    exact h
  have hY : ∀ (k : Nat) (q : Nat × va_E), wR[k]? = some q → (wK ++ wR)[wK.length + k]? = some q := fun k q h => by
    rw [List.getElem?_append_right (by omega)]
    simpa using h
  refine ⟨fun D H h k q hk => h _ q (hY k q hk), ⟨fun i j p q hi hj e => by have := hD.1 _ _ p q (hY i p hi) (hY j q hj) e; omega, fun _ _ _ => trivial⟩, fun k q e h => hD.2 _ (q, e) (hY k _ h), fun D H H1 hP hk hP1 => ?_⟩
  refine va_P.app (fun k q hq => ?_) hP1
  have h0 := hP _ q (hX k q hq)
  refine h0.kept (hk q.1 h0.lt ?_)
  rintro (⟨k2, e, h⟩ | h)
  · have := hD.1 k (wK.length + k2) q (q.1, e) (hX k q hq) (hY k2 _ h) rfl
    have := (List.getElem?_eq_some_iff.mp hq).1
    omega
  · have := h0.lt
    omega
theorem wd_len {cA : FieldType → ClassId} {ad : Nat → Nat} {K : Mem} : ∀ (shs : List Shp) (i : Nat), (wd cA ad K i shs).length = shs.length
  | [], _ => rfl
  | _ :: r, i => by
    simp only [wd, List.length_cons]
    rw [wd_len r (i + 1)]
theorem wd_left {cA : FieldType → ClassId} {ad : Nat → Nat} {K : Mem} {w : va_W} {x : Nat × va_E} (h : (wd cA ad K 0 shsK)[0]? = some x) : (wd cA ad K 0 shsK ++ w)[0]? = some x := by
  rw [List.getElem?_append_left (by rw [wd_len]; decide)]
  exact h
theorem wd_right {cA cA' : FieldType → ClassId} {ad ad' : Nat → Nat} {K R : Mem} {x : Nat × va_E} (h : (wd cA ad R 0 shsR)[0]? = some x) : (wd cA' ad' K 0 shsK ++ wd cA ad R 0 shsR)[76]? = some x := by
  rw [List.getElem?_append_right (by rw [wd_len]; decide), wd_len]
  exact h
section LAWR
variable {G : Ctx} {own : String} {cc : ByteArray} {nL fr lo : Nat} {w : va_W} {pc pc' : Nat} {L : List (Nat × Value)} {st : List Value} {b N : Nat} {xs : Nat → Int32}
/-- the script -/
def Scr (G : Ctx) (b N : Nat) (xs : Nat → Int32) : Prop := va_X b N xs (gs G) (gs G).heap ∧ b < (gs G).heap.size ∧ (∀ q, gA G q → (gs G).heap.size ≤ q)
theorem v_sld (C : Cx G own cc nL fr lo) (S : Scr G b N xs) {i : Int32} (hin : inb i N = true) (d : decode cc pc = .ok (.iaload, 1)) (hp : pc + 1 = pc') (kk : V G nL w pc' L (.int (xs i.toNatClampNeg) :: st)) : V G nL w pc L (.int i :: .ref b :: st) := by
  subst hp
  intro H locs ls hP hS hL
  exact va_sld C.hx C.hb S.1 S.2.1 (fun h => by have := S.2.2 _ h; have := S.2.1; omega) hS (inb_in hin) d (kk H locs ls hP hS hL)
theorem v_slenx (C : Cx G own cc nL fr lo) (S : Scr G b N xs) (d : decode cc pc = .ok (.arraylength, 1)) (hp : pc + 1 = pc') (kk : V G nL w pc' L (.int (Int32.ofNat N) :: st)) : V G nL w pc L (.ref b :: st) := by
  subst hp
  intro H locs ls hP hS hL
  exact va_slen C.hx C.hb S.1 S.2.1 (fun h => by have := S.2.2 _ h; have := S.2.1; omega) hS d (kk H locs ls hP hS hL)
end LAWR
theorem toInt_small {i : Nat} (h : i < 10000) : (nI i).toInt = (i : Int) := Int32.toInt_ofNat_of_lt (by omega)
theorem inb_nI {i N : Nat} (h : i < N) (hi : i < 10000) : inb (nI i) N = true := by
  simp only [inb, Bool.and_eq_true, decide_eq_true_eq]
  refine ⟨?_, ?_⟩
  · rw [Int32.le_iff_toInt_le, toInt_small hi]
    show (0 : Int) ≤ i
    omega
  · show (nI i).toInt.toNat < N
    rw [toInt_small hi]
    omega
theorem nI_addc (i c : Nat) : nI i + Int32.ofNat c = nI (i + c) := (Int32.ofNat_add i c).symm
theorem law_stop {i N : Nat} (hi : i ≤ N) (hN : N ≤ 3072) : (Int32.ofNat N - 6 < nI i) ↔ N < i + 6 := by
  have h1 : (Int32.ofNat N - 6) = Int32.ofInt ((N : Int) - 6) := by
    rw [Int32.ofInt_sub]
    rfl
  rw [h1, Int32.lt_iff_toInt_lt, toInt_small (by omega), Int32.toInt_ofInt_of_le (by omega) (by omega)]
  omega

def A8_knit (a : Int32) (b : Int32) (K : Mem) : Option (Int32 × Mem) := C_X8_knit a b K
theorem a8_knit {l : Launch} {D : va_G} {cA : FieldType → ClassId} {X : Ex} {ad : Nat → Nat} {a b : Int32} {K : Mem} {r : Int32} {K' : Mem} (h : A8_knit a b K = some (r, K')) : MI l D cA X yX8_knit cX8_knit 3 (some .int) 2 43 [.ref (ad 0), .int a, .int b] (wd cA ad K 0 shsK) (wd cA ad K' 0 shsK) r := c_X8_knit h
def A9_knit (a : Int32) (b : Int32) (K : Mem) : Option (Int32 × Mem) := C_X9_knit a b K
theorem a9_knit {l : Launch} {D : va_G} {cA : FieldType → ClassId} {X : Ex} {ad : Nat → Nat} {a b : Int32} {K : Mem} {r : Int32} {K' : Mem} (h : A9_knit a b K = some (r, K')) : MI l D cA X yX9_knit cX9_knit 3 (some .int) 2 47 [.ref (ad 0), .int a, .int b] (wd cA ad K 0 shsR) (wd cA ad K' 0 shsR) r := c_X9_knit h
def A8_told (a : Int32) (b : Int32) (K : Mem) : Option (Int32 × Mem) := C_X8_told a b K
theorem a8_told {l : Launch} {D : va_G} {cA : FieldType → ClassId} {X : Ex} {ad : Nat → Nat} {a b : Int32} {K : Mem} {r : Int32} {K' : Mem} (h : A8_told a b K = some (r, K')) : MI l D cA X yX8_told cX8_told 3 (some .int) 4 93 [.ref (ad 0), .int a, .int b] (wd cA ad K 0 shsK) (wd cA ad K' 0 shsK) r := c_X8_told h
def A9_told (a : Int32) (b : Int32) (K : Mem) : Option (Int32 × Mem) := C_X9_told a b K
theorem a9_told {l : Launch} {D : va_G} {cA : FieldType → ClassId} {X : Ex} {ad : Nat → Nat} {a b : Int32} {K : Mem} {r : Int32} {K' : Mem} (h : A9_told a b K = some (r, K')) : MI l D cA X yX9_told cX9_told 3 (some .int) 4 91 [.ref (ad 0), .int a, .int b] (wd cA ad K 0 shsR) (wd cA ad K' 0 shsR) r := c_X9_told h
def A8_as (a : Int32) (b : Int32) (K : Mem) : Option (Int32 × Mem) := (C_X8_as K a b).map (fun r => (r, K))
theorem a8_as {l : Launch} {D : va_G} {cA : FieldType → ClassId} {X : Ex} {ad : Nat → Nat} {a b : Int32} {K : Mem} {r : Int32} {K' : Mem} (h : A8_as a b K = some (r, K')) : MI l D cA X yX8_as cX8_as 3 (some .int) 2 43 [.ref (ad 0), .int a, .int b] (wd cA ad K 0 shsK) (wd cA ad K' 0 shsK) r := by
 obtain ⟨h1, rfl⟩ := map_some h
 exact c_X8_as h1
def A9_as (a : Int32) (b : Int32) (K : Mem) : Option (Int32 × Mem) := (C_X9_as K a b).map (fun r => (r, K))
theorem a9_as {l : Launch} {D : va_G} {cA : FieldType → ClassId} {X : Ex} {ad : Nat → Nat} {a b : Int32} {K : Mem} {r : Int32} {K' : Mem} (h : A9_as a b K = some (r, K')) : MI l D cA X yX9_as cX9_as 3 (some .int) 2 46 [.ref (ad 0), .int a, .int b] (wd cA ad K 0 shsR) (wd cA ad K' 0 shsR) r := by
 obtain ⟨h1, rfl⟩ := map_some h
 exact c_X9_as h1
def A8_turns (a : Int32) (b : Int32) (K : Mem) : Option (Int32 × Mem) := C_X8_turns a b K
theorem a8_turns {l : Launch} {D : va_G} {cA : FieldType → ClassId} {X : Ex} {ad : Nat → Nat} {a b : Int32} {K : Mem} {r : Int32} {K' : Mem} (h : A8_turns a b K = some (r, K')) : MI l D cA X yX8_turns cX8_turns 4 (some .int) 1 21 [.ref (ad 0), .int a, .int b] (wd cA ad K 0 shsK) (wd cA ad K' 0 shsK) r := c_X8_turns h
def A9_turns (a : Int32) (b : Int32) (K : Mem) : Option (Int32 × Mem) := C_X9_turns a b K
theorem a9_turns {l : Launch} {D : va_G} {cA : FieldType → ClassId} {X : Ex} {ad : Nat → Nat} {a b : Int32} {K : Mem} {r : Int32} {K' : Mem} (h : A9_turns a b K = some (r, K')) : MI l D cA X yX9_turns cX9_turns 3 (some .int) 2 46 [.ref (ad 0), .int a, .int b] (wd cA ad K 0 shsR) (wd cA ad K' 0 shsR) r := c_X9_turns h
def A8_set (a : Int32) (b : Int32) (c : Int32) (K : Mem) : Option (Int32 × Mem) := C_X8_set a b c K
theorem a8_set {l : Launch} {D : va_G} {cA : FieldType → ClassId} {X : Ex} {ad : Nat → Nat} {a b c : Int32} {K : Mem} {r : Int32} {K' : Mem} (h : A8_set a b c K = some (r, K')) : MI l D cA X yX8_set cX8_set 5 (some .int) 1 21 [.ref (ad 0), .int a, .int b, .int c] (wd cA ad K 0 shsK) (wd cA ad K' 0 shsK) r := c_X8_set h
def A9_set (a : Int32) (b : Int32) (c : Int32) (K : Mem) : Option (Int32 × Mem) := C_X9_set a b c K
theorem a9_set {l : Launch} {D : va_G} {cA : FieldType → ClassId} {X : Ex} {ad : Nat → Nat} {a b c : Int32} {K : Mem} {r : Int32} {K' : Mem} (h : A9_set a b c K = some (r, K')) : MI l D cA X yX9_set cX9_set 4 (some .int) 2 46 [.ref (ad 0), .int a, .int b, .int c] (wd cA ad K 0 shsR) (wd cA ad K' 0 shsR) r := c_X9_set h
def A8_drops (a : Int32) (b : Int32) (K : Mem) : Option (Int32 × Mem) := C_X8_drops a b K
theorem a8_drops {l : Launch} {D : va_G} {cA : FieldType → ClassId} {X : Ex} {ad : Nat → Nat} {a b : Int32} {K : Mem} {r : Int32} {K' : Mem} (h : A8_drops a b K = some (r, K')) : MI l D cA X yX8_drops cX8_drops 5 (some .int) 5 108 [.ref (ad 0), .int a, .int b] (wd cA ad K 0 shsK) (wd cA ad K' 0 shsK) r := c_X8_drops h
def A9_drops (a : Int32) (b : Int32) (K : Mem) : Option (Int32 × Mem) := C_X9_drops a b K
theorem a9_drops {l : Launch} {D : va_G} {cA : FieldType → ClassId} {X : Ex} {ad : Nat → Nat} {a b : Int32} {K : Mem} {r : Int32} {K' : Mem} (h : A9_drops a b K = some (r, K')) : MI l D cA X yX9_drops cX9_drops 4 (some .int) 3 69 [.ref (ad 0), .int a, .int b] (wd cA ad K 0 shsR) (wd cA ad K' 0 shsR) r := c_X9_drops h
def A8_hooks (a : Int32) (b : Int32) (K : Mem) : Option (Int32 × Mem) := C_X8_hooks a b K
theorem a8_hooks {l : Launch} {D : va_G} {cA : FieldType → ClassId} {X : Ex} {ad : Nat → Nat} {a b : Int32} {K : Mem} {r : Int32} {K' : Mem} (h : A8_hooks a b K = some (r, K')) : MI l D cA X yX8_hooks cX8_hooks 5 (some .int) 5 108 [.ref (ad 0), .int a, .int b] (wd cA ad K 0 shsK) (wd cA ad K' 0 shsK) r := c_X8_hooks h
def A9_hooks (a : Int32) (b : Int32) (K : Mem) : Option (Int32 × Mem) := C_X9_hooks a b K
theorem a9_hooks {l : Launch} {D : va_G} {cA : FieldType → ClassId} {X : Ex} {ad : Nat → Nat} {a b : Int32} {K : Mem} {r : Int32} {K' : Mem} (h : A9_hooks a b K = some (r, K')) : MI l D cA X yX9_hooks cX9_hooks 4 (some .int) 3 69 [.ref (ad 0), .int a, .int b] (wd cA ad K 0 shsR) (wd cA ad K' 0 shsR) r := c_X9_hooks h
def A8_rule (a : Int32) (b : Int32) (K : Mem) : Option (Int32 × Mem) := C_X8_rule a b K
theorem a8_rule {l : Launch} {D : va_G} {cA : FieldType → ClassId} {X : Ex} {ad : Nat → Nat} {a b : Int32} {K : Mem} {r : Int32} {K' : Mem} (h : A8_rule a b K = some (r, K')) : MI l D cA X yX8_rule cX8_rule 4 (some .int) 0 0 [.ref (ad 0), .int a, .int b] (wd cA ad K 0 shsK) (wd cA ad K' 0 shsK) r := c_X8_rule h
def A9_rule (a : Int32) (b : Int32) (K : Mem) : Option (Int32 × Mem) := C_X9_rule a b K
theorem a9_rule {l : Launch} {D : va_G} {cA : FieldType → ClassId} {X : Ex} {ad : Nat → Nat} {a b : Int32} {K : Mem} {r : Int32} {K' : Mem} (h : A9_rule a b K = some (r, K')) : MI l D cA X yX9_rule cX9_rule 3 (some .int) 1 25 [.ref (ad 0), .int a, .int b] (wd cA ad K 0 shsR) (wd cA ad K' 0 shsR) r := c_X9_rule h
def A8_deal (a : Int32) (K : Mem) : Option (Int32 × Mem) := C_X8_deal a K
theorem a8_deal {l : Launch} {D : va_G} {cA : FieldType → ClassId} {X : Ex} {ad : Nat → Nat} {a : Int32} {K : Mem} {r : Int32} {K' : Mem} (h : A8_deal a K = some (r, K')) : MI l D cA X yX8_deal cX8_deal 4 (some .int) 3 67 [.ref (ad 0), .int a] (wd cA ad K 0 shsK) (wd cA ad K' 0 shsK) r := c_X8_deal h
def A9_deal (a : Int32) (K : Mem) : Option (Int32 × Mem) := C_X9_deal a K
theorem a9_deal {l : Launch} {D : va_G} {cA : FieldType → ClassId} {X : Ex} {ad : Nat → Nat} {a : Int32} {K : Mem} {r : Int32} {K' : Mem} (h : A9_deal a K = some (r, K')) : MI l D cA X yX9_deal cX9_deal 6 (some .int) 2 47 [.ref (ad 0), .int a] (wd cA ad K 0 shsR) (wd cA ad K' 0 shsR) r := c_X9_deal h
def A8_seed (a : Int32) (K : Mem) : Option (Int32 × Mem) := C_X8_seed a K
theorem a8_seed {l : Launch} {D : va_G} {cA : FieldType → ClassId} {X : Ex} {ad : Nat → Nat} {a : Int32} {K : Mem} {r : Int32} {K' : Mem} (h : A8_seed a K = some (r, K')) : MI l D cA X yX8_seed cX8_seed 3 (some .int) 0 0 [.ref (ad 0), .int a] (wd cA ad K 0 shsK) (wd cA ad K' 0 shsK) r := c_X8_seed h
def A9_seed (a : Int32) (K : Mem) : Option (Int32 × Mem) := C_X9_seed a K
theorem a9_seed {l : Launch} {D : va_G} {cA : FieldType → ClassId} {X : Ex} {ad : Nat → Nat} {a : Int32} {K : Mem} {r : Int32} {K' : Mem} (h : A9_seed a K = some (r, K')) : MI l D cA X yX9_seed cX9_seed 2 (some .int) 1 23 [.ref (ad 0), .int a] (wd cA ad K 0 shsR) (wd cA ad K' 0 shsR) r := c_X9_seed h
def A8_nights (a : Int32) (K : Mem) : Option (Int32 × Mem) := C_X8_nights a K
theorem a8_nights {l : Launch} {D : va_G} {cA : FieldType → ClassId} {X : Ex} {ad : Nat → Nat} {a : Int32} {K : Mem} {r : Int32} {K' : Mem} (h : A8_nights a K = some (r, K')) : MI l D cA X yX8_nights cX8_nights 4 (some .int) 6 137 [.ref (ad 0), .int a] (wd cA ad K 0 shsK) (wd cA ad K' 0 shsK) r := c_X8_nights h
def A9_nights (a : Int32) (K : Mem) : Option (Int32 × Mem) := C_X9_nights a K
theorem a9_nights {l : Launch} {D : va_G} {cA : FieldType → ClassId} {X : Ex} {ad : Nat → Nat} {a : Int32} {K : Mem} {r : Int32} {K' : Mem} (h : A9_nights a K = some (r, K')) : MI l D cA X yX9_nights cX9_nights 4 (some .int) 7 157 [.ref (ad 0), .int a] (wd cA ad K 0 shsR) (wd cA ad K' 0 shsR) r := c_X9_nights h
def A8_town (a : Int32) (K : Mem) : Option (Int32 × Mem) := (C_X8_town K a).map (fun r => (r, K))
theorem a8_town {l : Launch} {D : va_G} {cA : FieldType → ClassId} {X : Ex} {ad : Nat → Nat} {a : Int32} {K : Mem} {r : Int32} {K' : Mem} (h : A8_town a K = some (r, K')) : MI l D cA X yX8_town cX8_town 2 (some .int) 5 108 [.ref (ad 0), .int a] (wd cA ad K 0 shsK) (wd cA ad K' 0 shsK) r := by
 obtain ⟨h1, rfl⟩ := map_some h
 exact c_X8_town h1
def A9_town (a : Int32) (K : Mem) : Option (Int32 × Mem) := C_X9_town a K
theorem a9_town {l : Launch} {D : va_G} {cA : FieldType → ClassId} {X : Ex} {ad : Nat → Nat} {a : Int32} {K : Mem} {r : Int32} {K' : Mem} (h : A9_town a K = some (r, K')) : MI l D cA X yX9_town cX9_town 2 (some .int) 3 69 [.ref (ad 0), .int a] (wd cA ad K 0 shsR) (wd cA ad K' 0 shsR) r := c_X9_town h
def A8_way (a : Int32) (b : Int32) (c : Int32) (d : Int32) (K : Mem) : Option (Int32 × Mem) := C_X8_way a b c d K
theorem a8_way {l : Launch} {D : va_G} {cA : FieldType → ClassId} {X : Ex} {ad : Nat → Nat} {a b c d : Int32} {K : Mem} {r : Int32} {K' : Mem} (h : A8_way a b c d K = some (r, K')) : MI l D cA X yX8_way cX8_way 5 (some .int) 5 115 [.ref (ad 0), .int a, .int b, .int c, .int d] (wd cA ad K 0 shsK) (wd cA ad K' 0 shsK) r := c_X8_way h
def A9_way (a : Int32) (b : Int32) (c : Int32) (d : Int32) (K : Mem) : Option (Int32 × Mem) := C_X9_way a b c d K
theorem a9_way {l : Launch} {D : va_G} {cA : FieldType → ClassId} {X : Ex} {ad : Nat → Nat} {a b c d : Int32} {K : Mem} {r : Int32} {K' : Mem} (h : A9_way a b c d K = some (r, K')) : MI l D cA X yX9_way cX9_way 6 (some .int) 5 118 [.ref (ad 0), .int a, .int b, .int c, .int d] (wd cA ad K 0 shsR) (wd cA ad K' 0 shsR) r := c_X9_way h
def A8_reach (a : Int32) (b : Int32) (K : Mem) : Option (Int32 × Mem) := C_X8_reach a b K
theorem a8_reach {l : Launch} {D : va_G} {cA : FieldType → ClassId} {X : Ex} {ad : Nat → Nat} {a b : Int32} {K : Mem} {r : Int32} {K' : Mem} (h : A8_reach a b K = some (r, K')) : MI l D cA X yX8_reach cX8_reach 3 (some .int) 5 114 [.ref (ad 0), .int a, .int b] (wd cA ad K 0 shsK) (wd cA ad K' 0 shsK) r := c_X8_reach h
def A9_reach (a : Int32) (b : Int32) (K : Mem) : Option (Int32 × Mem) := C_X9_reach a b K
theorem a9_reach {l : Launch} {D : va_G} {cA : FieldType → ClassId} {X : Ex} {ad : Nat → Nat} {a b : Int32} {K : Mem} {r : Int32} {K' : Mem} (h : A9_reach a b K = some (r, K')) : MI l D cA X yX9_reach cX9_reach 3 (some .int) 5 118 [.ref (ad 0), .int a, .int b] (wd cA ad K 0 shsR) (wd cA ad K' 0 shsR) r := c_X9_reach h
def A8_pulled (a : Int32) (b : Int32) (K : Mem) : Option (Int32 × Mem) := (C_X8_pulled K a b).map (fun r => (r, K))
theorem a8_pulled {l : Launch} {D : va_G} {cA : FieldType → ClassId} {X : Ex} {ad : Nat → Nat} {a b : Int32} {K : Mem} {r : Int32} {K' : Mem} (h : A8_pulled a b K = some (r, K')) : MI l D cA X yX8_pulled cX8_pulled 3 (some .int) 5 108 [.ref (ad 0), .int a, .int b] (wd cA ad K 0 shsK) (wd cA ad K' 0 shsK) r := by
 obtain ⟨h1, rfl⟩ := map_some h
 exact c_X8_pulled h1
def A9_pulled (a : Int32) (b : Int32) (K : Mem) : Option (Int32 × Mem) := C_X9_pulled a b K
theorem a9_pulled {l : Launch} {D : va_G} {cA : FieldType → ClassId} {X : Ex} {ad : Nat → Nat} {a b : Int32} {K : Mem} {r : Int32} {K' : Mem} (h : A9_pulled a b K = some (r, K')) : MI l D cA X yX9_pulled cX9_pulled 3 (some .int) 4 93 [.ref (ad 0), .int a, .int b] (wd cA ad K 0 shsR) (wd cA ad K' 0 shsR) r := c_X9_pulled h
def A8_worst (a : Int32) (K : Mem) : Option (Int32 × Mem) := (C_X8_worst K a).map (fun r => (r, K))
theorem a8_worst {l : Launch} {D : va_G} {cA : FieldType → ClassId} {X : Ex} {ad : Nat → Nat} {a : Int32} {K : Mem} {r : Int32} {K' : Mem} (h : A8_worst a K = some (r, K')) : MI l D cA X yX8_worst cX8_worst 9 (some .int) 5 108 [.ref (ad 0), .int a] (wd cA ad K 0 shsK) (wd cA ad K' 0 shsK) r := by
 obtain ⟨h1, rfl⟩ := map_some h
 exact c_X8_worst h1
def A9_worst (a : Int32) (K : Mem) : Option (Int32 × Mem) := C_X9_worst a K
theorem a9_worst {l : Launch} {D : va_G} {cA : FieldType → ClassId} {X : Ex} {ad : Nat → Nat} {a : Int32} {K : Mem} {r : Int32} {K' : Mem} (h : A9_worst a K = some (r, K')) : MI l D cA X yX9_worst cX9_worst 6 (some .int) 4 93 [.ref (ad 0), .int a] (wd cA ad K 0 shsR) (wd cA ad K' 0 shsR) r := c_X9_worst h
def A8_needs (a : Int32) (b : Int32) (K : Mem) : Option (Int32 × Mem) := (C_X8_needs K a b).map (fun r => (r, K))
theorem a8_needs {l : Launch} {D : va_G} {cA : FieldType → ClassId} {X : Ex} {ad : Nat → Nat} {a b : Int32} {K : Mem} {r : Int32} {K' : Mem} (h : A8_needs a b K = some (r, K')) : MI l D cA X yX8_needs cX8_needs 3 (some .int) 3 66 [.ref (ad 0), .int a, .int b] (wd cA ad K 0 shsK) (wd cA ad K' 0 shsK) r := by
 obtain ⟨h1, rfl⟩ := map_some h
 exact c_X8_needs h1
def A9_needs (a : Int32) (b : Int32) (K : Mem) : Option (Int32 × Mem) := (C_X9_needs K a b).map (fun r => (r, K))
theorem a9_needs {l : Launch} {D : va_G} {cA : FieldType → ClassId} {X : Ex} {ad : Nat → Nat} {a b : Int32} {K : Mem} {r : Int32} {K' : Mem} (h : A9_needs a b K = some (r, K')) : MI l D cA X yX9_needs cX9_needs 8 (some .int) 3 66 [.ref (ad 0), .int a, .int b] (wd cA ad K 0 shsR) (wd cA ad K' 0 shsR) r := by
 obtain ⟨h1, rfl⟩ := map_some h
 exact c_X9_needs h1
def A8_behind (a : Int32) (b : Int32) (K : Mem) : Option (Int32 × Mem) := C_X8_behind a b K
theorem a8_behind {l : Launch} {D : va_G} {cA : FieldType → ClassId} {X : Ex} {ad : Nat → Nat} {a b : Int32} {K : Mem} {r : Int32} {K' : Mem} (h : A8_behind a b K = some (r, K')) : MI l D cA X yX8_behind cX8_behind 3 (some .int) 7 159 [.ref (ad 0), .int a, .int b] (wd cA ad K 0 shsK) (wd cA ad K' 0 shsK) r := c_X8_behind h
def A9_behind (a : Int32) (b : Int32) (K : Mem) : Option (Int32 × Mem) := C_X9_behind a b K
theorem a9_behind {l : Launch} {D : va_G} {cA : FieldType → ClassId} {X : Ex} {ad : Nat → Nat} {a b : Int32} {K : Mem} {r : Int32} {K' : Mem} (h : A9_behind a b K = some (r, K')) : MI l D cA X yX9_behind cX9_behind 4 (some .int) 7 157 [.ref (ad 0), .int a, .int b] (wd cA ad K 0 shsR) (wd cA ad K' 0 shsR) r := c_X9_behind h
def A8_gone (a : Int32) (b : Int32) (K : Mem) : Option (Int32 × Mem) := C_X8_gone a b K
theorem a8_gone {l : Launch} {D : va_G} {cA : FieldType → ClassId} {X : Ex} {ad : Nat → Nat} {a b : Int32} {K : Mem} {r : Int32} {K' : Mem} (h : A8_gone a b K = some (r, K')) : MI l D cA X yX8_gone cX8_gone 4 (some .int) 6 137 [.ref (ad 0), .int a, .int b] (wd cA ad K 0 shsK) (wd cA ad K' 0 shsK) r := c_X8_gone h
def A9_gone (a : Int32) (b : Int32) (K : Mem) : Option (Int32 × Mem) := C_X9_gone a b K
theorem a9_gone {l : Launch} {D : va_G} {cA : FieldType → ClassId} {X : Ex} {ad : Nat → Nat} {a b : Int32} {K : Mem} {r : Int32} {K' : Mem} (h : A9_gone a b K = some (r, K')) : MI l D cA X yX9_gone cX9_gone 4 (some .int) 6 135 [.ref (ad 0), .int a, .int b] (wd cA ad K 0 shsR) (wd cA ad K' 0 shsR) r := c_X9_gone h
def A8_thick (a : Int32) (b : Int32) (c : Int32) (K : Mem) : Option (Int32 × Mem) := C_X8_thick a b c K
theorem a8_thick {l : Launch} {D : va_G} {cA : FieldType → ClassId} {X : Ex} {ad : Nat → Nat} {a b c : Int32} {K : Mem} {r : Int32} {K' : Mem} (h : A8_thick a b c K = some (r, K')) : MI l D cA X yX8_thick cX8_thick 8 (some .int) 7 159 [.ref (ad 0), .int a, .int b, .int c] (wd cA ad K 0 shsK) (wd cA ad K' 0 shsK) r := c_X8_thick h
def A9_thick (a : Int32) (b : Int32) (c : Int32) (K : Mem) : Option (Int32 × Mem) := C_X9_thick a b c K
theorem a9_thick {l : Launch} {D : va_G} {cA : FieldType → ClassId} {X : Ex} {ad : Nat → Nat} {a b c : Int32} {K : Mem} {r : Int32} {K' : Mem} (h : A9_thick a b c K = some (r, K')) : MI l D cA X yX9_thick cX9_thick 4 (some .int) 8 186 [.ref (ad 0), .int a, .int b, .int c] (wd cA ad K 0 shsR) (wd cA ad K' 0 shsR) r := c_X9_thick h
def A8_becomes (a : Int32) (b : Int32) (c : Int32) (K : Mem) : Option (Int32 × Mem) := C_X8_becomes a b c K
theorem a8_becomes {l : Launch} {D : va_G} {cA : FieldType → ClassId} {X : Ex} {ad : Nat → Nat} {a b c : Int32} {K : Mem} {r : Int32} {K' : Mem} (h : A8_becomes a b c K = some (r, K')) : MI l D cA X yX8_becomes cX8_becomes 8 (some .int) 7 159 [.ref (ad 0), .int a, .int b, .int c] (wd cA ad K 0 shsK) (wd cA ad K' 0 shsK) r := c_X8_becomes h
def A9_becomes (a : Int32) (b : Int32) (c : Int32) (K : Mem) : Option (Int32 × Mem) := C_X9_becomes a b c K
theorem a9_becomes {l : Launch} {D : va_G} {cA : FieldType → ClassId} {X : Ex} {ad : Nat → Nat} {a b c : Int32} {K : Mem} {r : Int32} {K' : Mem} (h : A9_becomes a b c K = some (r, K')) : MI l D cA X yX9_becomes cX9_becomes 4 (some .int) 8 186 [.ref (ad 0), .int a, .int b, .int c] (wd cA ad K 0 shsR) (wd cA ad K' 0 shsR) r := c_X9_becomes h
def A8_like (a : Int32) (b : Int32) (K : Mem) : Option (Int32 × Mem) := C_X8_like a b K
theorem a8_like {l : Launch} {D : va_G} {cA : FieldType → ClassId} {X : Ex} {ad : Nat → Nat} {a b : Int32} {K : Mem} {r : Int32} {K' : Mem} (h : A8_like a b K = some (r, K')) : MI l D cA X yX8_like cX8_like 8 (some .int) 7 161 [.ref (ad 0), .int a, .int b] (wd cA ad K 0 shsK) (wd cA ad K' 0 shsK) r := c_X8_like h
def A9_like (a : Int32) (b : Int32) (K : Mem) : Option (Int32 × Mem) := C_X9_like a b K
theorem a9_like {l : Launch} {D : va_G} {cA : FieldType → ClassId} {X : Ex} {ad : Nat → Nat} {a b : Int32} {K : Mem} {r : Int32} {K' : Mem} (h : A9_like a b K = some (r, K')) : MI l D cA X yX9_like cX9_like 7 (some .int) 7 160 [.ref (ad 0), .int a, .int b] (wd cA ad K 0 shsR) (wd cA ad K' 0 shsR) r := c_X9_like h
def A8_fee (K : Mem) : Option (Int32 × Mem) := C_X8_fee K
theorem a8_fee {l : Launch} {D : va_G} {cA : FieldType → ClassId} {X : Ex} {ad : Nat → Nat} {K : Mem} {r : Int32} {K' : Mem} (h : A8_fee K = some (r, K')) : MI l D cA X yX8_fee cX8_fee 2 (some .int) 3 70 [.ref (ad 0)] (wd cA ad K 0 shsK) (wd cA ad K' 0 shsK) r := c_X8_fee h
def A9_fee (K : Mem) : Option (Int32 × Mem) := C_X9_fee K
theorem a9_fee {l : Launch} {D : va_G} {cA : FieldType → ClassId} {X : Ex} {ad : Nat → Nat} {K : Mem} {r : Int32} {K' : Mem} (h : A9_fee K = some (r, K')) : MI l D cA X yX9_fee cX9_fee 2 (some .int) 2 47 [.ref (ad 0)] (wd cA ad K 0 shsR) (wd cA ad K' 0 shsR) r := c_X9_fee h
def A8_fine (a : Int32) (K : Mem) : Option (Int32 × Mem) := C_X8_fine a K
theorem a8_fine {l : Launch} {D : va_G} {cA : FieldType → ClassId} {X : Ex} {ad : Nat → Nat} {a : Int32} {K : Mem} {r : Int32} {K' : Mem} (h : A8_fine a K = some (r, K')) : MI l D cA X yX8_fine cX8_fine 3 (some .int) 3 70 [.ref (ad 0), .int a] (wd cA ad K 0 shsK) (wd cA ad K' 0 shsK) r := c_X8_fine h
def A9_fine (a : Int32) (K : Mem) : Option (Int32 × Mem) := C_X9_fine a K
theorem a9_fine {l : Launch} {D : va_G} {cA : FieldType → ClassId} {X : Ex} {ad : Nat → Nat} {a : Int32} {K : Mem} {r : Int32} {K' : Mem} (h : A9_fine a K = some (r, K')) : MI l D cA X yX9_fine cX9_fine 3 (some .int) 2 47 [.ref (ad 0), .int a] (wd cA ad K 0 shsR) (wd cA ad K' 0 shsR) r := c_X9_fine h
def A8_feed (a : Int32) (b : Int32) (c : Int32) (K : Mem) : Option (Int32 × Mem) := C_X8_feed a b c K
theorem a8_feed {l : Launch} {D : va_G} {cA : FieldType → ClassId} {X : Ex} {ad : Nat → Nat} {a b c : Int32} {K : Mem} {r : Int32} {K' : Mem} (h : A8_feed a b c K = some (r, K')) : MI l D cA X yX8_feed cX8_feed 4 (some .int) 1 22 [.ref (ad 0), .int a, .int b, .int c] (wd cA ad K 0 shsK) (wd cA ad K' 0 shsK) r := c_X8_feed h
def A9_feed (a : Int32) (b : Int32) (c : Int32) (K : Mem) : Option (Int32 × Mem) := C_X9_feed a b c K
theorem a9_feed {l : Launch} {D : va_G} {cA : FieldType → ClassId} {X : Ex} {ad : Nat → Nat} {a b c : Int32} {K : Mem} {r : Int32} {K' : Mem} (h : A9_feed a b c K = some (r, K')) : MI l D cA X yX9_feed cX9_feed 6 (some .int) 0 0 [.ref (ad 0), .int a, .int b, .int c] (wd cA ad K 0 shsR) (wd cA ad K' 0 shsR) r := c_X9_feed h
def A8_trim (a : Int32) (K : Mem) : Option (Int32 × Mem) := C_X8_trim a K
theorem a8_trim {l : Launch} {D : va_G} {cA : FieldType → ClassId} {X : Ex} {ad : Nat → Nat} {a : Int32} {K : Mem} {r : Int32} {K' : Mem} (h : A8_trim a K = some (r, K')) : MI l D cA X yX8_trim cX8_trim 2 (some .int) 0 0 [.ref (ad 0), .int a] (wd cA ad K 0 shsK) (wd cA ad K' 0 shsK) r := c_X8_trim h
def A9_trim (a : Int32) (K : Mem) : Option (Int32 × Mem) := C_X9_trim a K
theorem a9_trim {l : Launch} {D : va_G} {cA : FieldType → ClassId} {X : Ex} {ad : Nat → Nat} {a : Int32} {K : Mem} {r : Int32} {K' : Mem} (h : A9_trim a K = some (r, K')) : MI l D cA X yX9_trim cX9_trim 2 (some .int) 1 25 [.ref (ad 0), .int a] (wd cA ad K 0 shsR) (wd cA ad K' 0 shsR) r := c_X9_trim h
def A8_text (K : Mem) : Option (Int32 × Mem) := C_X8_text K
theorem a8_text {l : Launch} {D : va_G} {cA : FieldType → ClassId} {X : Ex} {ad : Nat → Nat} {K : Mem} {r : Int32} {K' : Mem} (h : A8_text K = some (r, K')) : MI l D cA X yX8_text cX8_text 2 (some .int) 134 3460 [.ref (ad 0)] (wd cA ad K 0 shsK) (wd cA ad K' 0 shsK) r := c_X8_text h
def A9_text (K : Mem) : Option (Int32 × Mem) := C_X9_text K
theorem a9_text {l : Launch} {D : va_G} {cA : FieldType → ClassId} {X : Ex} {ad : Nat → Nat} {K : Mem} {r : Int32} {K' : Mem} (h : A9_text K = some (r, K')) : MI l D cA X yX9_text cX9_text 3 (some .int) 133 2927 [.ref (ad 0)] (wd cA ad K 0 shsR) (wd cA ad K' 0 shsR) r := c_X9_text h
def A8_textTold (a : Int32) (b : Int32) (K : Mem) : Option (Int32 × Mem) := (C_X8_textTold K a b).map (fun r => (r, K))
theorem a8_textTold {l : Launch} {D : va_G} {cA : FieldType → ClassId} {X : Ex} {ad : Nat → Nat} {a b : Int32} {K : Mem} {r : Int32} {K' : Mem} (h : A8_textTold a b K = some (r, K')) : MI l D cA X yX8_textTold cX8_textTold 3 (some .int) 0 0 [.ref (ad 0), .int a, .int b] (wd cA ad K 0 shsK) (wd cA ad K' 0 shsK) r := by
 obtain ⟨h1, rfl⟩ := map_some h
 exact c_X8_textTold h1
def A9_textTold (a : Int32) (b : Int32) (K : Mem) : Option (Int32 × Mem) := (C_X9_textTold K a b).map (fun r => (r, K))
theorem a9_textTold {l : Launch} {D : va_G} {cA : FieldType → ClassId} {X : Ex} {ad : Nat → Nat} {a b : Int32} {K : Mem} {r : Int32} {K' : Mem} (h : A9_textTold a b K = some (r, K')) : MI l D cA X yX9_textTold cX9_textTold 3 (some .int) 2 46 [.ref (ad 0), .int a, .int b] (wd cA ad K 0 shsR) (wd cA ad K' 0 shsR) r := by
 obtain ⟨h1, rfl⟩ := map_some h
 exact c_X9_textTold h1
def A8_why (a : Int32) (K : Mem) : Option (Int32 × Mem) := (C_X8_why K a).map (fun r => (r, K))
theorem a8_why {l : Launch} {D : va_G} {cA : FieldType → ClassId} {X : Ex} {ad : Nat → Nat} {a : Int32} {K : Mem} {r : Int32} {K' : Mem} (h : A8_why a K = some (r, K')) : MI l D cA X yX8_why cX8_why 2 (some .int) 0 0 [.ref (ad 0), .int a] (wd cA ad K 0 shsK) (wd cA ad K' 0 shsK) r := by
 obtain ⟨h1, rfl⟩ := map_some h
 exact c_X8_why h1
def A9_why (a : Int32) (K : Mem) : Option (Int32 × Mem) := (C_X9_why K a).map (fun r => (r, K))
theorem a9_why {l : Launch} {D : va_G} {cA : FieldType → ClassId} {X : Ex} {ad : Nat → Nat} {a : Int32} {K : Mem} {r : Int32} {K' : Mem} (h : A9_why a K = some (r, K')) : MI l D cA X yX9_why cX9_why 2 (some .int) 2 44 [.ref (ad 0), .int a] (wd cA ad K 0 shsR) (wd cA ad K' 0 shsR) r := by
 obtain ⟨h1, rfl⟩ := map_some h
 exact c_X9_why h1
def A8_sheet (a : Int32) (b : Int32) (c : Int32) (K : Mem) : Option (Int32 × Mem) := C_X8_sheet a b c K
theorem a8_sheet {l : Launch} {D : va_G} {cA : FieldType → ClassId} {X : Ex} {ad : Nat → Nat} {a b c : Int32} {K : Mem} {r : Int32} {K' : Mem} (h : A8_sheet a b c K = some (r, K')) : MI l D cA X yX8_sheet cX8_sheet 4 (some .int) 1 23 [.ref (ad 0), .int a, .int b, .int c] (wd cA ad K 0 shsK) (wd cA ad K' 0 shsK) r := c_X8_sheet h
def A9_sheet (a : Int32) (b : Int32) (c : Int32) (K : Mem) : Option (Int32 × Mem) := C_X9_sheet a b c K
theorem a9_sheet {l : Launch} {D : va_G} {cA : FieldType → ClassId} {X : Ex} {ad : Nat → Nat} {a b c : Int32} {K : Mem} {r : Int32} {K' : Mem} (h : A9_sheet a b c K = some (r, K')) : MI l D cA X yX9_sheet cX9_sheet 5 (some .int) 2 45 [.ref (ad 0), .int a, .int b, .int c] (wd cA ad K 0 shsR) (wd cA ad K' 0 shsR) r := c_X9_sheet h
def A8_mark (a : Int32) (b : Int32) (c : Int32) (K : Mem) : Option (Int32 × Mem) := C_X8_mark a b c K
theorem a8_mark {l : Launch} {D : va_G} {cA : FieldType → ClassId} {X : Ex} {ad : Nat → Nat} {a b c : Int32} {K : Mem} {r : Int32} {K' : Mem} (h : A8_mark a b c K = some (r, K')) : MI l D cA X yX8_mark cX8_mark 5 (some .int) 1 21 [.ref (ad 0), .int a, .int b, .int c] (wd cA ad K 0 shsK) (wd cA ad K' 0 shsK) r := c_X8_mark h
def A9_mark (a : Int32) (b : Int32) (c : Int32) (K : Mem) : Option (Int32 × Mem) := C_X9_mark a b c K
theorem a9_mark {l : Launch} {D : va_G} {cA : FieldType → ClassId} {X : Ex} {ad : Nat → Nat} {a b c : Int32} {K : Mem} {r : Int32} {K' : Mem} (h : A9_mark a b c K = some (r, K')) : MI l D cA X yX9_mark cX9_mark 4 (some .int) 2 45 [.ref (ad 0), .int a, .int b, .int c] (wd cA ad K 0 shsR) (wd cA ad K' 0 shsR) r := c_X9_mark h
def A8_pour (a : Int32) (K : Mem) : Option (Int32 × Mem) := C_X8_pour a K
theorem a8_pour {l : Launch} {D : va_G} {cA : FieldType → ClassId} {X : Ex} {ad : Nat → Nat} {a : Int32} {K : Mem} {r : Int32} {K' : Mem} (h : A8_pour a K = some (r, K')) : MI l D cA X yX8_pour cX8_pour 6 (some .int) 2 51 [.ref (ad 0), .int a] (wd cA ad K 0 shsK) (wd cA ad K' 0 shsK) r := c_X8_pour h
def A9_pour (a : Int32) (K : Mem) : Option (Int32 × Mem) := C_X9_pour a K
theorem a9_pour {l : Launch} {D : va_G} {cA : FieldType → ClassId} {X : Ex} {ad : Nat → Nat} {a : Int32} {K : Mem} {r : Int32} {K' : Mem} (h : A9_pour a K = some (r, K')) : MI l D cA X yX9_pour cX9_pour 6 (some .int) 2 45 [.ref (ad 0), .int a] (wd cA ad K 0 shsR) (wd cA ad K' 0 shsR) r := c_X9_pour h
def A8_reads (a : Int32) (K : Mem) : Option (Int32 × Mem) := (C_X8_reads K a).map (fun r => (r, K))
theorem a8_reads {l : Launch} {D : va_G} {cA : FieldType → ClassId} {X : Ex} {ad : Nat → Nat} {a : Int32} {K : Mem} {r : Int32} {K' : Mem} (h : A8_reads a K = some (r, K')) : MI l D cA X yX8_reads cX8_reads 4 (some .int) 2 42 [.ref (ad 0), .int a] (wd cA ad K 0 shsK) (wd cA ad K' 0 shsK) r := by
 obtain ⟨h1, rfl⟩ := map_some h
 exact c_X8_reads h1
def A9_reads (a : Int32) (K : Mem) : Option (Int32 × Mem) := (C_X9_reads K a).map (fun r => (r, K))
theorem a9_reads {l : Launch} {D : va_G} {cA : FieldType → ClassId} {X : Ex} {ad : Nat → Nat} {a : Int32} {K : Mem} {r : Int32} {K' : Mem} (h : A9_reads a K = some (r, K')) : MI l D cA X yX9_reads cX9_reads 4 (some .int) 2 45 [.ref (ad 0), .int a] (wd cA ad K 0 shsR) (wd cA ad K' 0 shsR) r := by
 obtain ⟨h1, rfl⟩ := map_some h
 exact c_X9_reads h1
def A8_copy (a : Int32) (b : Int32) (c : Int32) (d : Int32) (e : Int32) (K : Mem) : Option (Int32 × Mem) := C_X8_copy a b c d e K
theorem a8_copy {l : Launch} {D : va_G} {cA : FieldType → ClassId} {X : Ex} {ad : Nat → Nat} {a b c d e : Int32} {K : Mem} {r : Int32} {K' : Mem} (h : A8_copy a b c d e K = some (r, K')) : MI l D cA X yX8_copy cX8_copy 8 (some .int) 1 30 [.ref (ad 0), .int a, .int b, .int c, .int d, .int e] (wd cA ad K 0 shsK) (wd cA ad K' 0 shsK) r := c_X8_copy h
def A9_copy (a : Int32) (b : Int32) (c : Int32) (d : Int32) (e : Int32) (K : Mem) : Option (Int32 × Mem) := C_X9_copy a b c d e K
theorem a9_copy {l : Launch} {D : va_G} {cA : FieldType → ClassId} {X : Ex} {ad : Nat → Nat} {a b c d e : Int32} {K : Mem} {r : Int32} {K' : Mem} (h : A9_copy a b c d e K = some (r, K')) : MI l D cA X yX9_copy cX9_copy 7 (some .int) 2 45 [.ref (ad 0), .int a, .int b, .int c, .int d, .int e] (wd cA ad K 0 shsR) (wd cA ad K' 0 shsR) r := c_X9_copy h
def A8_lay (a : Int32) (b : Int32) (c : Int32) (K : Mem) : Option (Int32 × Mem) := C_X8_lay a b c K
theorem a8_lay {l : Launch} {D : va_G} {cA : FieldType → ClassId} {X : Ex} {ad : Nat → Nat} {a b c : Int32} {K : Mem} {r : Int32} {K' : Mem} (h : A8_lay a b c K = some (r, K')) : MI l D cA X yX8_lay cX8_lay 6 (some .int) 3 72 [.ref (ad 0), .int a, .int b, .int c] (wd cA ad K 0 shsK) (wd cA ad K' 0 shsK) r := c_X8_lay h
def A9_lay (a : Int32) (b : Int32) (c : Int32) (K : Mem) : Option (Int32 × Mem) := C_X9_lay a b c K
theorem a9_lay {l : Launch} {D : va_G} {cA : FieldType → ClassId} {X : Ex} {ad : Nat → Nat} {a b c : Int32} {K : Mem} {r : Int32} {K' : Mem} (h : A9_lay a b c K = some (r, K')) : MI l D cA X yX9_lay cX9_lay 7 (some .int) 2 46 [.ref (ad 0), .int a, .int b, .int c] (wd cA ad K 0 shsR) (wd cA ad K' 0 shsR) r := c_X9_lay h
def A8_ask (a : Int32) (b : Int32) (K : Mem) : Option (Int32 × Mem) := (C_X8_ask K a b).map (fun r => (r, K))
theorem a8_ask {l : Launch} {D : va_G} {cA : FieldType → ClassId} {X : Ex} {ad : Nat → Nat} {a b : Int32} {K : Mem} {r : Int32} {K' : Mem} (h : A8_ask a b K = some (r, K')) : MI l D cA X yX8_ask cX8_ask 4 (some .int) 2 43 [.ref (ad 0), .int a, .int b] (wd cA ad K 0 shsK) (wd cA ad K' 0 shsK) r := by
 obtain ⟨h1, rfl⟩ := map_some h
 exact c_X8_ask h1
def A9_ask (a : Int32) (b : Int32) (K : Mem) : Option (Int32 × Mem) := (C_X9_ask K a b).map (fun r => (r, K))
theorem a9_ask {l : Launch} {D : va_G} {cA : FieldType → ClassId} {X : Ex} {ad : Nat → Nat} {a b : Int32} {K : Mem} {r : Int32} {K' : Mem} (h : A9_ask a b K = some (r, K')) : MI l D cA X yX9_ask cX9_ask 3 (some .int) 2 45 [.ref (ad 0), .int a, .int b] (wd cA ad K 0 shsR) (wd cA ad K' 0 shsR) r := by
 obtain ⟨h1, rfl⟩ := map_some h
 exact c_X9_ask h1
def A8_item (a : Int32) (b : Int32) (K : Mem) : Option (Int32 × Mem) := (C_X8_item K a b).map (fun r => (r, K))
theorem a8_item {l : Launch} {D : va_G} {cA : FieldType → ClassId} {X : Ex} {ad : Nat → Nat} {a b : Int32} {K : Mem} {r : Int32} {K' : Mem} (h : A8_item a b K = some (r, K')) : MI l D cA X yX8_item cX8_item 4 (some .int) 2 42 [.ref (ad 0), .int a, .int b] (wd cA ad K 0 shsK) (wd cA ad K' 0 shsK) r := by
 obtain ⟨h1, rfl⟩ := map_some h
 exact c_X8_item h1
def A9_item (a : Int32) (b : Int32) (K : Mem) : Option (Int32 × Mem) := (C_X9_item K a b).map (fun r => (r, K))
theorem a9_item {l : Launch} {D : va_G} {cA : FieldType → ClassId} {X : Ex} {ad : Nat → Nat} {a b : Int32} {K : Mem} {r : Int32} {K' : Mem} (h : A9_item a b K = some (r, K')) : MI l D cA X yX9_item cX9_item 4 (some .int) 2 45 [.ref (ad 0), .int a, .int b] (wd cA ad K 0 shsR) (wd cA ad K' 0 shsR) r := by
 obtain ⟨h1, rfl⟩ := map_some h
 exact c_X9_item h1
def A8_rest (a : Int32) (b : Int32) (K : Mem) : Option (Int32 × Mem) := (C_X8_rest K a b).map (fun r => (r, K))
theorem a8_rest {l : Launch} {D : va_G} {cA : FieldType → ClassId} {X : Ex} {ad : Nat → Nat} {a b : Int32} {K : Mem} {r : Int32} {K' : Mem} (h : A8_rest a b K = some (r, K')) : MI l D cA X yX8_rest cX8_rest 4 (some .int) 1 21 [.ref (ad 0), .int a, .int b] (wd cA ad K 0 shsK) (wd cA ad K' 0 shsK) r := by
 obtain ⟨h1, rfl⟩ := map_some h
 exact c_X8_rest h1
def A9_rest (a : Int32) (b : Int32) (K : Mem) : Option (Int32 × Mem) := (C_X9_rest K a b).map (fun r => (r, K))
theorem a9_rest {l : Launch} {D : va_G} {cA : FieldType → ClassId} {X : Ex} {ad : Nat → Nat} {a b : Int32} {K : Mem} {r : Int32} {K' : Mem} (h : A9_rest a b K = some (r, K')) : MI l D cA X yX9_rest cX9_rest 3 (some .int) 2 45 [.ref (ad 0), .int a, .int b] (wd cA ad K 0 shsR) (wd cA ad K' 0 shsR) r := by
 obtain ⟨h1, rfl⟩ := map_some h
 exact c_X9_rest h1
def A8_tell (a : Int32) (K : Mem) : Option (Int32 × Mem) := C_X8_tell a K
theorem a8_tell {l : Launch} {D : va_G} {cA : FieldType → ClassId} {X : Ex} {ad : Nat → Nat} {a : Int32} {K : Mem} {r : Int32} {K' : Mem} (h : A8_tell a K = some (r, K')) : MI l D cA X yX8_tell cX8_tell 2 (some .int) 0 0 [.ref (ad 0), .int a] (wd cA ad K 0 shsK) (wd cA ad K' 0 shsK) r := c_X8_tell h
def A9_tell (a : Int32) (K : Mem) : Option (Int32 × Mem) := C_X9_tell a K
theorem a9_tell {l : Launch} {D : va_G} {cA : FieldType → ClassId} {X : Ex} {ad : Nat → Nat} {a : Int32} {K : Mem} {r : Int32} {K' : Mem} (h : A9_tell a K = some (r, K')) : MI l D cA X yX9_tell cX9_tell 2 (some .int) 0 0 [.ref (ad 0), .int a] (wd cA ad K 0 shsR) (wd cA ad K' 0 shsR) r := c_X9_tell h
def A8_check (a : Int32) (K : Mem) : Option (Int32 × Mem) := C_X8_check a K
theorem a8_check {l : Launch} {D : va_G} {cA : FieldType → ClassId} {X : Ex} {ad : Nat → Nat} {a : Int32} {K : Mem} {r : Int32} {K' : Mem} (h : A8_check a K = some (r, K')) : MI l D cA X yX8_check cX8_check 5 (some .int) 6 137 [.ref (ad 0), .int a] (wd cA ad K 0 shsK) (wd cA ad K' 0 shsK) r := c_X8_check h
def A9_check (a : Int32) (K : Mem) : Option (Int32 × Mem) := C_X9_check a K
theorem a9_check {l : Launch} {D : va_G} {cA : FieldType → ClassId} {X : Ex} {ad : Nat → Nat} {a : Int32} {K : Mem} {r : Int32} {K' : Mem} (h : A9_check a K = some (r, K')) : MI l D cA X yX9_check cX9_check 5 (some .int) 6 135 [.ref (ad 0), .int a] (wd cA ad K 0 shsR) (wd cA ad K' 0 shsR) r := c_X9_check h
def A8_keep (K : Mem) : Option (Int32 × Mem) := C_X8_keep K
theorem a8_keep {l : Launch} {D : va_G} {cA : FieldType → ClassId} {X : Ex} {ad : Nat → Nat} {K : Mem} {r : Int32} {K' : Mem} (h : A8_keep K = some (r, K')) : MI l D cA X yX8_keep cX8_keep 1 (some .int) 2 51 [.ref (ad 0)] (wd cA ad K 0 shsK) (wd cA ad K' 0 shsK) r := c_X8_keep h
def A9_keep (K : Mem) : Option (Int32 × Mem) := C_X9_keep K
theorem a9_keep {l : Launch} {D : va_G} {cA : FieldType → ClassId} {X : Ex} {ad : Nat → Nat} {K : Mem} {r : Int32} {K' : Mem} (h : A9_keep K = some (r, K')) : MI l D cA X yX9_keep cX9_keep 1 (some .int) 1 23 [.ref (ad 0)] (wd cA ad K 0 shsR) (wd cA ad K' 0 shsR) r := c_X9_keep h
def A8_back (K : Mem) : Option (Int32 × Mem) := C_X8_back K
theorem a8_back {l : Launch} {D : va_G} {cA : FieldType → ClassId} {X : Ex} {ad : Nat → Nat} {K : Mem} {r : Int32} {K' : Mem} (h : A8_back K = some (r, K')) : MI l D cA X yX8_back cX8_back 1 (some .int) 2 51 [.ref (ad 0)] (wd cA ad K 0 shsK) (wd cA ad K' 0 shsK) r := c_X8_back h
def A9_back (K : Mem) : Option (Int32 × Mem) := C_X9_back K
theorem a9_back {l : Launch} {D : va_G} {cA : FieldType → ClassId} {X : Ex} {ad : Nat → Nat} {K : Mem} {r : Int32} {K' : Mem} (h : A9_back K = some (r, K')) : MI l D cA X yX9_back cX9_back 1 (some .int) 1 23 [.ref (ad 0)] (wd cA ad K 0 shsR) (wd cA ad K' 0 shsR) r := c_X9_back h
def A8_count (a : Int32) (K : Mem) : Option (Int32 × Mem) := (C_X8_count K a).map (fun r => (r, K))
theorem a8_count {l : Launch} {D : va_G} {cA : FieldType → ClassId} {X : Ex} {ad : Nat → Nat} {a : Int32} {K : Mem} {r : Int32} {K' : Mem} (h : A8_count a K = some (r, K')) : MI l D cA X yX8_count cX8_count 2 (some .int) 0 0 [.ref (ad 0), .int a] (wd cA ad K 0 shsK) (wd cA ad K' 0 shsK) r := by
 obtain ⟨h1, rfl⟩ := map_some h
 exact c_X8_count h1
def A9_count (a : Int32) (K : Mem) : Option (Int32 × Mem) := (C_X9_count K a).map (fun r => (r, K))
theorem a9_count {l : Launch} {D : va_G} {cA : FieldType → ClassId} {X : Ex} {ad : Nat → Nat} {a : Int32} {K : Mem} {r : Int32} {K' : Mem} (h : A9_count a K = some (r, K')) : MI l D cA X yX9_count cX9_count 2 (some .int) 0 0 [.ref (ad 0), .int a] (wd cA ad K 0 shsR) (wd cA ad K' 0 shsR) r := by
 obtain ⟨h1, rfl⟩ := map_some h
 exact c_X9_count h1
set_option maxRecDepth 100000 in
set_option maxHeartbeats 4000000 in
theorem lc_knit {G : Ctx} {Rel : Mem → Mem → Prop} {b N i : Nat} {xs : Nat → Int32} {aK aR : Nat → Nat} (C : Cx G RL cL_law 4 136 3501) (S : Scr G b N xs) (hN : N ≤ 3072) (hDD : ∀ K R, va_D (gA G) (wd (gC G) aK K 0 shsK ++ wd (gC G) aR R 0 shsR)) (hsim : Sim2 Rel A8_knit A9_knit) (hi : i + 6 ≤ N) {K R : Mem} (hrel : Rel K R) (kk : ∀ K' R', Rel K' R' → V G 4 (wd (gC G) aK K' 0 shsK ++ wd (gC G) aR R' 0 shsR) 1549 [(0, .ref b), (1, .ref (aK 0)), (2, .ref (aR 0)), (3, .int (nI i))] []) : V G 4 (wd (gC G) aK K 0 shsK ++ wd (gC G) aR R 0 shsR) 220 [(0, .ref b), (1, .ref (aK 0)), (2, .ref (aR 0)), (3, .int (nI i))] [] := by
  obtain ⟨r, K', R', e8, e9, hrel'⟩ := hsim (xs (Int32.toNatClampNeg (nI i + 1))) (xs (Int32.toNatClampNeg (nI i + 2))) K R hrel
  refine v_aload_n C dL_law_220 rfl rfl 1 rfl ?_
  refine v_aload_n C dL_law_221 rfl rfl 0 rfl ?_
  refine v_iload_n C dL_law_222 rfl rfl 3 rfl ?_
  refine v_iconst C dL_law_223 rfl ic_1 ?_
  refine v_iadd C dL_law_224 rfl ?_
  refine v_sld C S (by rw [show nI i + 1 = nI (i + 1) from nI_addc i 1]; exact inb_nI (by omega) (by omega)) dL_law_225 rfl ?_
  refine v_aload_n C dL_law_226 rfl rfl 0 rfl ?_
  refine v_iload_n C dL_law_227 rfl rfl 3 rfl ?_
  refine v_iconst C dL_law_228 rfl ic_2 ?_
  refine v_iadd C dL_law_229 rfl ?_
  refine v_sld C S (by rw [show nI i + 2 = nI (i + 2) from nI_addc i 2]; exact inb_nI (by omega) (by omega)) dL_law_230 rfl ?_
  refine v_callVi C yv_X8_knit m_280 (a8_knit e8) (Sub.left (hDD _ _)) ⟨0, _, _, _, _, wd_left (wd_at sk_0), rfl⟩ (As := [.int (xs (Int32.toNatClampNeg (nI i + 1))), .int (xs (Int32.toNatClampNeg (nI i + 2)))]) rfl rfl (Nat.le_of_ble_eq_true rfl) ⟨Nat.le_of_ble_eq_true rfl, Nat.le_of_ble_eq_true rfl⟩ dL_law_231 rfl ?_
  refine v_aload_n C dL_law_234 rfl rfl 2 rfl ?_
  refine v_aload_n C dL_law_235 rfl rfl 0 rfl ?_
  refine v_iload_n C dL_law_236 rfl rfl 3 rfl ?_
  refine v_iconst C dL_law_237 rfl ic_1 ?_
  refine v_iadd C dL_law_238 rfl ?_
  refine v_sld C S (by rw [show nI i + 1 = nI (i + 1) from nI_addc i 1]; exact inb_nI (by omega) (by omega)) dL_law_239 rfl ?_
  refine v_aload_n C dL_law_240 rfl rfl 0 rfl ?_
  refine v_iload_n C dL_law_241 rfl rfl 3 rfl ?_
  refine v_iconst C dL_law_242 rfl ic_2 ?_
  refine v_iadd C dL_law_243 rfl ?_
  refine v_sld C S (by rw [show nI i + 2 = nI (i + 2) from nI_addc i 2]; exact inb_nI (by omega) (by omega)) dL_law_244 rfl ?_
  refine v_callVi C yv_X9_knit m_944 (a9_knit e9) (Sub.right (hDD _ _)) ⟨76, _, _, _, _, wd_right (wd_at sr_0), rfl⟩ (As := [.int (xs (Int32.toNatClampNeg (nI i + 1))), .int (xs (Int32.toNatClampNeg (nI i + 2)))]) rfl rfl (Nat.le_of_ble_eq_true rfl) ⟨Nat.le_of_ble_eq_true rfl, Nat.le_of_ble_eq_true rfl⟩ dL_law_245 rfl ?_
  exact v_icmp_eq C dL_law_248 (tgt := 1549) (by decide) rfl (fun _ => kk K' R' hrel') (fun c => absurd rfl c)
set_option maxRecDepth 100000 in
set_option maxHeartbeats 4000000 in
theorem lc_told {G : Ctx} {Rel : Mem → Mem → Prop} {b N i : Nat} {xs : Nat → Int32} {aK aR : Nat → Nat} (C : Cx G RL cL_law 4 136 3501) (S : Scr G b N xs) (hN : N ≤ 3072) (hDD : ∀ K R, va_D (gA G) (wd (gC G) aK K 0 shsK ++ wd (gC G) aR R 0 shsR)) (hsim : Sim2 Rel A8_told A9_told) (hi : i + 6 ≤ N) {K R : Mem} (hrel : Rel K R) (kk : ∀ K' R', Rel K' R' → V G 4 (wd (gC G) aK K' 0 shsK ++ wd (gC G) aR R' 0 shsR) 1549 [(0, .ref b), (1, .ref (aK 0)), (2, .ref (aR 0)), (3, .int (nI i))] []) : V G 4 (wd (gC G) aK K 0 shsK ++ wd (gC G) aR R 0 shsR) 253 [(0, .ref b), (1, .ref (aK 0)), (2, .ref (aR 0)), (3, .int (nI i))] [] := by
  obtain ⟨r, K', R', e8, e9, hrel'⟩ := hsim (xs (Int32.toNatClampNeg (nI i + 1))) (xs (Int32.toNatClampNeg (nI i + 2))) K R hrel
  refine v_aload_n C dL_law_253 rfl rfl 1 rfl ?_
  refine v_aload_n C dL_law_254 rfl rfl 0 rfl ?_
  refine v_iload_n C dL_law_255 rfl rfl 3 rfl ?_
  refine v_iconst C dL_law_256 rfl ic_1 ?_
  refine v_iadd C dL_law_257 rfl ?_
  refine v_sld C S (by rw [show nI i + 1 = nI (i + 1) from nI_addc i 1]; exact inb_nI (by omega) (by omega)) dL_law_258 rfl ?_
  refine v_aload_n C dL_law_259 rfl rfl 0 rfl ?_
  refine v_iload_n C dL_law_260 rfl rfl 3 rfl ?_
  refine v_iconst C dL_law_261 rfl ic_2 ?_
  refine v_iadd C dL_law_262 rfl ?_
  refine v_sld C S (by rw [show nI i + 2 = nI (i + 2) from nI_addc i 2]; exact inb_nI (by omega) (by omega)) dL_law_263 rfl ?_
  refine v_callVi C yv_X8_told m_301 (a8_told e8) (Sub.left (hDD _ _)) ⟨0, _, _, _, _, wd_left (wd_at sk_0), rfl⟩ (As := [.int (xs (Int32.toNatClampNeg (nI i + 1))), .int (xs (Int32.toNatClampNeg (nI i + 2)))]) rfl rfl (Nat.le_of_ble_eq_true rfl) ⟨Nat.le_of_ble_eq_true rfl, Nat.le_of_ble_eq_true rfl⟩ dL_law_264 rfl ?_
  refine v_aload_n C dL_law_267 rfl rfl 2 rfl ?_
  refine v_aload_n C dL_law_268 rfl rfl 0 rfl ?_
  refine v_iload_n C dL_law_269 rfl rfl 3 rfl ?_
  refine v_iconst C dL_law_270 rfl ic_1 ?_
  refine v_iadd C dL_law_271 rfl ?_
  refine v_sld C S (by rw [show nI i + 1 = nI (i + 1) from nI_addc i 1]; exact inb_nI (by omega) (by omega)) dL_law_272 rfl ?_
  refine v_aload_n C dL_law_273 rfl rfl 0 rfl ?_
  refine v_iload_n C dL_law_274 rfl rfl 3 rfl ?_
  refine v_iconst C dL_law_275 rfl ic_2 ?_
  refine v_iadd C dL_law_276 rfl ?_
  refine v_sld C S (by rw [show nI i + 2 = nI (i + 2) from nI_addc i 2]; exact inb_nI (by omega) (by omega)) dL_law_277 rfl ?_
  refine v_callVi C yv_X9_told m_963 (a9_told e9) (Sub.right (hDD _ _)) ⟨76, _, _, _, _, wd_right (wd_at sr_0), rfl⟩ (As := [.int (xs (Int32.toNatClampNeg (nI i + 1))), .int (xs (Int32.toNatClampNeg (nI i + 2)))]) rfl rfl (Nat.le_of_ble_eq_true rfl) ⟨Nat.le_of_ble_eq_true rfl, Nat.le_of_ble_eq_true rfl⟩ dL_law_278 rfl ?_
  exact v_icmp_eq C dL_law_281 (tgt := 1549) (by decide) rfl (fun _ => kk K' R' hrel') (fun c => absurd rfl c)
set_option maxRecDepth 100000 in
set_option maxHeartbeats 4000000 in
theorem lc_as {G : Ctx} {Rel : Mem → Mem → Prop} {b N i : Nat} {xs : Nat → Int32} {aK aR : Nat → Nat} (C : Cx G RL cL_law 4 136 3501) (S : Scr G b N xs) (hN : N ≤ 3072) (hDD : ∀ K R, va_D (gA G) (wd (gC G) aK K 0 shsK ++ wd (gC G) aR R 0 shsR)) (hsim : Sim2 Rel A8_as A9_as) (hi : i + 6 ≤ N) {K R : Mem} (hrel : Rel K R) (kk : ∀ K' R', Rel K' R' → V G 4 (wd (gC G) aK K' 0 shsK ++ wd (gC G) aR R' 0 shsR) 1549 [(0, .ref b), (1, .ref (aK 0)), (2, .ref (aR 0)), (3, .int (nI i))] []) : V G 4 (wd (gC G) aK K 0 shsK ++ wd (gC G) aR R 0 shsR) 286 [(0, .ref b), (1, .ref (aK 0)), (2, .ref (aR 0)), (3, .int (nI i))] [] := by
  obtain ⟨r, K', R', e8, e9, hrel'⟩ := hsim (xs (Int32.toNatClampNeg (nI i + 1))) (xs (Int32.toNatClampNeg (nI i + 2))) K R hrel
  refine v_aload_n C dL_law_286 rfl rfl 1 rfl ?_
  refine v_aload_n C dL_law_287 rfl rfl 0 rfl ?_
  refine v_iload_n C dL_law_288 rfl rfl 3 rfl ?_
  refine v_iconst C dL_law_289 rfl ic_1 ?_
  refine v_iadd C dL_law_290 rfl ?_
  refine v_sld C S (by rw [show nI i + 1 = nI (i + 1) from nI_addc i 1]; exact inb_nI (by omega) (by omega)) dL_law_291 rfl ?_
  refine v_aload_n C dL_law_292 rfl rfl 0 rfl ?_
  refine v_iload_n C dL_law_293 rfl rfl 3 rfl ?_
  refine v_iconst C dL_law_294 rfl ic_2 ?_
  refine v_iadd C dL_law_295 rfl ?_
  refine v_sld C S (by rw [show nI i + 2 = nI (i + 2) from nI_addc i 2]; exact inb_nI (by omega) (by omega)) dL_law_296 rfl ?_
  refine v_callVi C yv_X8_as m_373 (a8_as e8) (Sub.left (hDD _ _)) ⟨0, _, _, _, _, wd_left (wd_at sk_0), rfl⟩ (As := [.int (xs (Int32.toNatClampNeg (nI i + 1))), .int (xs (Int32.toNatClampNeg (nI i + 2)))]) rfl rfl (Nat.le_of_ble_eq_true rfl) ⟨Nat.le_of_ble_eq_true rfl, Nat.le_of_ble_eq_true rfl⟩ dL_law_297 rfl ?_
  refine v_aload_n C dL_law_300 rfl rfl 2 rfl ?_
  refine v_aload_n C dL_law_301 rfl rfl 0 rfl ?_
  refine v_iload_n C dL_law_302 rfl rfl 3 rfl ?_
  refine v_iconst C dL_law_303 rfl ic_1 ?_
  refine v_iadd C dL_law_304 rfl ?_
  refine v_sld C S (by rw [show nI i + 1 = nI (i + 1) from nI_addc i 1]; exact inb_nI (by omega) (by omega)) dL_law_305 rfl ?_
  refine v_aload_n C dL_law_306 rfl rfl 0 rfl ?_
  refine v_iload_n C dL_law_307 rfl rfl 3 rfl ?_
  refine v_iconst C dL_law_308 rfl ic_2 ?_
  refine v_iadd C dL_law_309 rfl ?_
  refine v_sld C S (by rw [show nI i + 2 = nI (i + 2) from nI_addc i 2]; exact inb_nI (by omega) (by omega)) dL_law_310 rfl ?_
  refine v_callVi C yv_X9_as m_1025 (a9_as e9) (Sub.right (hDD _ _)) ⟨76, _, _, _, _, wd_right (wd_at sr_0), rfl⟩ (As := [.int (xs (Int32.toNatClampNeg (nI i + 1))), .int (xs (Int32.toNatClampNeg (nI i + 2)))]) rfl rfl (Nat.le_of_ble_eq_true rfl) ⟨Nat.le_of_ble_eq_true rfl, Nat.le_of_ble_eq_true rfl⟩ dL_law_311 rfl ?_
  exact v_icmp_eq C dL_law_314 (tgt := 1549) (by decide) rfl (fun _ => kk K' R' hrel') (fun c => absurd rfl c)
set_option maxRecDepth 100000 in
set_option maxHeartbeats 4000000 in
theorem lc_turns {G : Ctx} {Rel : Mem → Mem → Prop} {b N i : Nat} {xs : Nat → Int32} {aK aR : Nat → Nat} (C : Cx G RL cL_law 4 136 3501) (S : Scr G b N xs) (hN : N ≤ 3072) (hDD : ∀ K R, va_D (gA G) (wd (gC G) aK K 0 shsK ++ wd (gC G) aR R 0 shsR)) (hsim : Sim2 Rel A8_turns A9_turns) (hi : i + 6 ≤ N) {K R : Mem} (hrel : Rel K R) (kk : ∀ K' R', Rel K' R' → V G 4 (wd (gC G) aK K' 0 shsK ++ wd (gC G) aR R' 0 shsR) 1549 [(0, .ref b), (1, .ref (aK 0)), (2, .ref (aR 0)), (3, .int (nI i))] []) : V G 4 (wd (gC G) aK K 0 shsK ++ wd (gC G) aR R 0 shsR) 319 [(0, .ref b), (1, .ref (aK 0)), (2, .ref (aR 0)), (3, .int (nI i))] [] := by
  obtain ⟨r, K', R', e8, e9, hrel'⟩ := hsim (xs (Int32.toNatClampNeg (nI i + 1))) (xs (Int32.toNatClampNeg (nI i + 2))) K R hrel
  refine v_aload_n C dL_law_319 rfl rfl 1 rfl ?_
  refine v_aload_n C dL_law_320 rfl rfl 0 rfl ?_
  refine v_iload_n C dL_law_321 rfl rfl 3 rfl ?_
  refine v_iconst C dL_law_322 rfl ic_1 ?_
  refine v_iadd C dL_law_323 rfl ?_
  refine v_sld C S (by rw [show nI i + 1 = nI (i + 1) from nI_addc i 1]; exact inb_nI (by omega) (by omega)) dL_law_324 rfl ?_
  refine v_aload_n C dL_law_325 rfl rfl 0 rfl ?_
  refine v_iload_n C dL_law_326 rfl rfl 3 rfl ?_
  refine v_iconst C dL_law_327 rfl ic_2 ?_
  refine v_iadd C dL_law_328 rfl ?_
  refine v_sld C S (by rw [show nI i + 2 = nI (i + 2) from nI_addc i 2]; exact inb_nI (by omega) (by omega)) dL_law_329 rfl ?_
  refine v_callVi C yv_X8_turns m_384 (a8_turns e8) (Sub.left (hDD _ _)) ⟨0, _, _, _, _, wd_left (wd_at sk_0), rfl⟩ (As := [.int (xs (Int32.toNatClampNeg (nI i + 1))), .int (xs (Int32.toNatClampNeg (nI i + 2)))]) rfl rfl (Nat.le_of_ble_eq_true rfl) ⟨Nat.le_of_ble_eq_true rfl, Nat.le_of_ble_eq_true rfl⟩ dL_law_330 rfl ?_
  refine v_aload_n C dL_law_333 rfl rfl 2 rfl ?_
  refine v_aload_n C dL_law_334 rfl rfl 0 rfl ?_
  refine v_iload_n C dL_law_335 rfl rfl 3 rfl ?_
  refine v_iconst C dL_law_336 rfl ic_1 ?_
  refine v_iadd C dL_law_337 rfl ?_
  refine v_sld C S (by rw [show nI i + 1 = nI (i + 1) from nI_addc i 1]; exact inb_nI (by omega) (by omega)) dL_law_338 rfl ?_
  refine v_aload_n C dL_law_339 rfl rfl 0 rfl ?_
  refine v_iload_n C dL_law_340 rfl rfl 3 rfl ?_
  refine v_iconst C dL_law_341 rfl ic_2 ?_
  refine v_iadd C dL_law_342 rfl ?_
  refine v_sld C S (by rw [show nI i + 2 = nI (i + 2) from nI_addc i 2]; exact inb_nI (by omega) (by omega)) dL_law_343 rfl ?_
  refine v_callVi C yv_X9_turns m_1033 (a9_turns e9) (Sub.right (hDD _ _)) ⟨76, _, _, _, _, wd_right (wd_at sr_0), rfl⟩ (As := [.int (xs (Int32.toNatClampNeg (nI i + 1))), .int (xs (Int32.toNatClampNeg (nI i + 2)))]) rfl rfl (Nat.le_of_ble_eq_true rfl) ⟨Nat.le_of_ble_eq_true rfl, Nat.le_of_ble_eq_true rfl⟩ dL_law_344 rfl ?_
  exact v_icmp_eq C dL_law_347 (tgt := 1549) (by decide) rfl (fun _ => kk K' R' hrel') (fun c => absurd rfl c)
set_option maxRecDepth 100000 in
set_option maxHeartbeats 4000000 in
theorem lc_set {G : Ctx} {Rel : Mem → Mem → Prop} {b N i : Nat} {xs : Nat → Int32} {aK aR : Nat → Nat} (C : Cx G RL cL_law 4 136 3501) (S : Scr G b N xs) (hN : N ≤ 3072) (hDD : ∀ K R, va_D (gA G) (wd (gC G) aK K 0 shsK ++ wd (gC G) aR R 0 shsR)) (hsim : Sim3 Rel A8_set A9_set) (hi : i + 6 ≤ N) {K R : Mem} (hrel : Rel K R) (kk : ∀ K' R', Rel K' R' → V G 4 (wd (gC G) aK K' 0 shsK ++ wd (gC G) aR R' 0 shsR) 1549 [(0, .ref b), (1, .ref (aK 0)), (2, .ref (aR 0)), (3, .int (nI i))] []) : V G 4 (wd (gC G) aK K 0 shsK ++ wd (gC G) aR R 0 shsR) 352 [(0, .ref b), (1, .ref (aK 0)), (2, .ref (aR 0)), (3, .int (nI i))] [] := by
  obtain ⟨r, K', R', e8, e9, hrel'⟩ := hsim (xs (Int32.toNatClampNeg (nI i + 1))) (xs (Int32.toNatClampNeg (nI i + 2))) (xs (Int32.toNatClampNeg (nI i + 3))) K R hrel
  refine v_aload_n C dL_law_352 rfl rfl 1 rfl ?_
  refine v_aload_n C dL_law_353 rfl rfl 0 rfl ?_
  refine v_iload_n C dL_law_354 rfl rfl 3 rfl ?_
  refine v_iconst C dL_law_355 rfl ic_1 ?_
  refine v_iadd C dL_law_356 rfl ?_
  refine v_sld C S (by rw [show nI i + 1 = nI (i + 1) from nI_addc i 1]; exact inb_nI (by omega) (by omega)) dL_law_357 rfl ?_
  refine v_aload_n C dL_law_358 rfl rfl 0 rfl ?_
  refine v_iload_n C dL_law_359 rfl rfl 3 rfl ?_
  refine v_iconst C dL_law_360 rfl ic_2 ?_
  refine v_iadd C dL_law_361 rfl ?_
  refine v_sld C S (by rw [show nI i + 2 = nI (i + 2) from nI_addc i 2]; exact inb_nI (by omega) (by omega)) dL_law_362 rfl ?_
  refine v_aload_n C dL_law_363 rfl rfl 0 rfl ?_
  refine v_iload_n C dL_law_364 rfl rfl 3 rfl ?_
  refine v_iconst C dL_law_365 rfl ic_3 ?_
  refine v_iadd C dL_law_366 rfl ?_
  refine v_sld C S (by rw [show nI i + 3 = nI (i + 3) from nI_addc i 3]; exact inb_nI (by omega) (by omega)) dL_law_367 rfl ?_
  refine v_callVi C yv_X8_set m_388 (a8_set e8) (Sub.left (hDD _ _)) ⟨0, _, _, _, _, wd_left (wd_at sk_0), rfl⟩ (As := [.int (xs (Int32.toNatClampNeg (nI i + 1))), .int (xs (Int32.toNatClampNeg (nI i + 2))), .int (xs (Int32.toNatClampNeg (nI i + 3)))]) rfl rfl (Nat.le_of_ble_eq_true rfl) ⟨Nat.le_of_ble_eq_true rfl, Nat.le_of_ble_eq_true rfl⟩ dL_law_368 rfl ?_
  refine v_aload_n C dL_law_371 rfl rfl 2 rfl ?_
  refine v_aload_n C dL_law_372 rfl rfl 0 rfl ?_
  refine v_iload_n C dL_law_373 rfl rfl 3 rfl ?_
  refine v_iconst C dL_law_374 rfl ic_1 ?_
  refine v_iadd C dL_law_375 rfl ?_
  refine v_sld C S (by rw [show nI i + 1 = nI (i + 1) from nI_addc i 1]; exact inb_nI (by omega) (by omega)) dL_law_376 rfl ?_
  refine v_aload_n C dL_law_377 rfl rfl 0 rfl ?_
  refine v_iload_n C dL_law_378 rfl rfl 3 rfl ?_
  refine v_iconst C dL_law_379 rfl ic_2 ?_
  refine v_iadd C dL_law_380 rfl ?_
  refine v_sld C S (by rw [show nI i + 2 = nI (i + 2) from nI_addc i 2]; exact inb_nI (by omega) (by omega)) dL_law_381 rfl ?_
  refine v_aload_n C dL_law_382 rfl rfl 0 rfl ?_
  refine v_iload_n C dL_law_383 rfl rfl 3 rfl ?_
  refine v_iconst C dL_law_384 rfl ic_3 ?_
  refine v_iadd C dL_law_385 rfl ?_
  refine v_sld C S (by rw [show nI i + 3 = nI (i + 3) from nI_addc i 3]; exact inb_nI (by omega) (by omega)) dL_law_386 rfl ?_
  refine v_callVi C yv_X9_set m_1041 (a9_set e9) (Sub.right (hDD _ _)) ⟨76, _, _, _, _, wd_right (wd_at sr_0), rfl⟩ (As := [.int (xs (Int32.toNatClampNeg (nI i + 1))), .int (xs (Int32.toNatClampNeg (nI i + 2))), .int (xs (Int32.toNatClampNeg (nI i + 3)))]) rfl rfl (Nat.le_of_ble_eq_true rfl) ⟨Nat.le_of_ble_eq_true rfl, Nat.le_of_ble_eq_true rfl⟩ dL_law_387 rfl ?_
  exact v_icmp_eq C dL_law_390 (tgt := 1549) (by decide) rfl (fun _ => kk K' R' hrel') (fun c => absurd rfl c)
set_option maxRecDepth 100000 in
set_option maxHeartbeats 4000000 in
theorem lc_drops {G : Ctx} {Rel : Mem → Mem → Prop} {b N i : Nat} {xs : Nat → Int32} {aK aR : Nat → Nat} (C : Cx G RL cL_law 4 136 3501) (S : Scr G b N xs) (hN : N ≤ 3072) (hDD : ∀ K R, va_D (gA G) (wd (gC G) aK K 0 shsK ++ wd (gC G) aR R 0 shsR)) (hsim : Sim2 Rel A8_drops A9_drops) (hi : i + 6 ≤ N) {K R : Mem} (hrel : Rel K R) (kk : ∀ K' R', Rel K' R' → V G 4 (wd (gC G) aK K' 0 shsK ++ wd (gC G) aR R' 0 shsR) 1549 [(0, .ref b), (1, .ref (aK 0)), (2, .ref (aR 0)), (3, .int (nI i))] []) : V G 4 (wd (gC G) aK K 0 shsK ++ wd (gC G) aR R 0 shsR) 395 [(0, .ref b), (1, .ref (aK 0)), (2, .ref (aR 0)), (3, .int (nI i))] [] := by
  obtain ⟨r, K', R', e8, e9, hrel'⟩ := hsim (xs (Int32.toNatClampNeg (nI i + 1))) (xs (Int32.toNatClampNeg (nI i + 2))) K R hrel
  refine v_aload_n C dL_law_395 rfl rfl 1 rfl ?_
  refine v_aload_n C dL_law_396 rfl rfl 0 rfl ?_
  refine v_iload_n C dL_law_397 rfl rfl 3 rfl ?_
  refine v_iconst C dL_law_398 rfl ic_1 ?_
  refine v_iadd C dL_law_399 rfl ?_
  refine v_sld C S (by rw [show nI i + 1 = nI (i + 1) from nI_addc i 1]; exact inb_nI (by omega) (by omega)) dL_law_400 rfl ?_
  refine v_aload_n C dL_law_401 rfl rfl 0 rfl ?_
  refine v_iload_n C dL_law_402 rfl rfl 3 rfl ?_
  refine v_iconst C dL_law_403 rfl ic_2 ?_
  refine v_iadd C dL_law_404 rfl ?_
  refine v_sld C S (by rw [show nI i + 2 = nI (i + 2) from nI_addc i 2]; exact inb_nI (by omega) (by omega)) dL_law_405 rfl ?_
  refine v_callVi C yv_X8_drops m_392 (a8_drops e8) (Sub.left (hDD _ _)) ⟨0, _, _, _, _, wd_left (wd_at sk_0), rfl⟩ (As := [.int (xs (Int32.toNatClampNeg (nI i + 1))), .int (xs (Int32.toNatClampNeg (nI i + 2)))]) rfl rfl (Nat.le_of_ble_eq_true rfl) ⟨Nat.le_of_ble_eq_true rfl, Nat.le_of_ble_eq_true rfl⟩ dL_law_406 rfl ?_
  refine v_aload_n C dL_law_409 rfl rfl 2 rfl ?_
  refine v_aload_n C dL_law_410 rfl rfl 0 rfl ?_
  refine v_iload_n C dL_law_411 rfl rfl 3 rfl ?_
  refine v_iconst C dL_law_412 rfl ic_1 ?_
  refine v_iadd C dL_law_413 rfl ?_
  refine v_sld C S (by rw [show nI i + 1 = nI (i + 1) from nI_addc i 1]; exact inb_nI (by omega) (by omega)) dL_law_414 rfl ?_
  refine v_aload_n C dL_law_415 rfl rfl 0 rfl ?_
  refine v_iload_n C dL_law_416 rfl rfl 3 rfl ?_
  refine v_iconst C dL_law_417 rfl ic_2 ?_
  refine v_iadd C dL_law_418 rfl ?_
  refine v_sld C S (by rw [show nI i + 2 = nI (i + 2) from nI_addc i 2]; exact inb_nI (by omega) (by omega)) dL_law_419 rfl ?_
  refine v_callVi C yv_X9_drops m_1047 (a9_drops e9) (Sub.right (hDD _ _)) ⟨76, _, _, _, _, wd_right (wd_at sr_0), rfl⟩ (As := [.int (xs (Int32.toNatClampNeg (nI i + 1))), .int (xs (Int32.toNatClampNeg (nI i + 2)))]) rfl rfl (Nat.le_of_ble_eq_true rfl) ⟨Nat.le_of_ble_eq_true rfl, Nat.le_of_ble_eq_true rfl⟩ dL_law_420 rfl ?_
  exact v_icmp_eq C dL_law_423 (tgt := 1549) (by decide) rfl (fun _ => kk K' R' hrel') (fun c => absurd rfl c)
set_option maxRecDepth 100000 in
set_option maxHeartbeats 4000000 in
theorem lc_hooks {G : Ctx} {Rel : Mem → Mem → Prop} {b N i : Nat} {xs : Nat → Int32} {aK aR : Nat → Nat} (C : Cx G RL cL_law 4 136 3501) (S : Scr G b N xs) (hN : N ≤ 3072) (hDD : ∀ K R, va_D (gA G) (wd (gC G) aK K 0 shsK ++ wd (gC G) aR R 0 shsR)) (hsim : Sim2 Rel A8_hooks A9_hooks) (hi : i + 6 ≤ N) {K R : Mem} (hrel : Rel K R) (kk : ∀ K' R', Rel K' R' → V G 4 (wd (gC G) aK K' 0 shsK ++ wd (gC G) aR R' 0 shsR) 1549 [(0, .ref b), (1, .ref (aK 0)), (2, .ref (aR 0)), (3, .int (nI i))] []) : V G 4 (wd (gC G) aK K 0 shsK ++ wd (gC G) aR R 0 shsR) 428 [(0, .ref b), (1, .ref (aK 0)), (2, .ref (aR 0)), (3, .int (nI i))] [] := by
  obtain ⟨r, K', R', e8, e9, hrel'⟩ := hsim (xs (Int32.toNatClampNeg (nI i + 1))) (xs (Int32.toNatClampNeg (nI i + 2))) K R hrel
  refine v_aload_n C dL_law_428 rfl rfl 1 rfl ?_
  refine v_aload_n C dL_law_429 rfl rfl 0 rfl ?_
  refine v_iload_n C dL_law_430 rfl rfl 3 rfl ?_
  refine v_iconst C dL_law_431 rfl ic_1 ?_
  refine v_iadd C dL_law_432 rfl ?_
  refine v_sld C S (by rw [show nI i + 1 = nI (i + 1) from nI_addc i 1]; exact inb_nI (by omega) (by omega)) dL_law_433 rfl ?_
  refine v_aload_n C dL_law_434 rfl rfl 0 rfl ?_
  refine v_iload_n C dL_law_435 rfl rfl 3 rfl ?_
  refine v_iconst C dL_law_436 rfl ic_2 ?_
  refine v_iadd C dL_law_437 rfl ?_
  refine v_sld C S (by rw [show nI i + 2 = nI (i + 2) from nI_addc i 2]; exact inb_nI (by omega) (by omega)) dL_law_438 rfl ?_
  refine v_callVi C yv_X8_hooks m_415 (a8_hooks e8) (Sub.left (hDD _ _)) ⟨0, _, _, _, _, wd_left (wd_at sk_0), rfl⟩ (As := [.int (xs (Int32.toNatClampNeg (nI i + 1))), .int (xs (Int32.toNatClampNeg (nI i + 2)))]) rfl rfl (Nat.le_of_ble_eq_true rfl) ⟨Nat.le_of_ble_eq_true rfl, Nat.le_of_ble_eq_true rfl⟩ dL_law_439 rfl ?_
  refine v_aload_n C dL_law_442 rfl rfl 2 rfl ?_
  refine v_aload_n C dL_law_443 rfl rfl 0 rfl ?_
  refine v_iload_n C dL_law_444 rfl rfl 3 rfl ?_
  refine v_iconst C dL_law_445 rfl ic_1 ?_
  refine v_iadd C dL_law_446 rfl ?_
  refine v_sld C S (by rw [show nI i + 1 = nI (i + 1) from nI_addc i 1]; exact inb_nI (by omega) (by omega)) dL_law_447 rfl ?_
  refine v_aload_n C dL_law_448 rfl rfl 0 rfl ?_
  refine v_iload_n C dL_law_449 rfl rfl 3 rfl ?_
  refine v_iconst C dL_law_450 rfl ic_2 ?_
  refine v_iadd C dL_law_451 rfl ?_
  refine v_sld C S (by rw [show nI i + 2 = nI (i + 2) from nI_addc i 2]; exact inb_nI (by omega) (by omega)) dL_law_452 rfl ?_
  refine v_callVi C yv_X9_hooks m_1066 (a9_hooks e9) (Sub.right (hDD _ _)) ⟨76, _, _, _, _, wd_right (wd_at sr_0), rfl⟩ (As := [.int (xs (Int32.toNatClampNeg (nI i + 1))), .int (xs (Int32.toNatClampNeg (nI i + 2)))]) rfl rfl (Nat.le_of_ble_eq_true rfl) ⟨Nat.le_of_ble_eq_true rfl, Nat.le_of_ble_eq_true rfl⟩ dL_law_453 rfl ?_
  exact v_icmp_eq C dL_law_456 (tgt := 1549) (by decide) rfl (fun _ => kk K' R' hrel') (fun c => absurd rfl c)
set_option maxRecDepth 100000 in
set_option maxHeartbeats 4000000 in
theorem lc_rule {G : Ctx} {Rel : Mem → Mem → Prop} {b N i : Nat} {xs : Nat → Int32} {aK aR : Nat → Nat} (C : Cx G RL cL_law 4 136 3501) (S : Scr G b N xs) (hN : N ≤ 3072) (hDD : ∀ K R, va_D (gA G) (wd (gC G) aK K 0 shsK ++ wd (gC G) aR R 0 shsR)) (hsim : Sim2 Rel A8_rule A9_rule) (hi : i + 6 ≤ N) {K R : Mem} (hrel : Rel K R) (kk : ∀ K' R', Rel K' R' → V G 4 (wd (gC G) aK K' 0 shsK ++ wd (gC G) aR R' 0 shsR) 1549 [(0, .ref b), (1, .ref (aK 0)), (2, .ref (aR 0)), (3, .int (nI i))] []) : V G 4 (wd (gC G) aK K 0 shsK ++ wd (gC G) aR R 0 shsR) 461 [(0, .ref b), (1, .ref (aK 0)), (2, .ref (aR 0)), (3, .int (nI i))] [] := by
  obtain ⟨r, K', R', e8, e9, hrel'⟩ := hsim (xs (Int32.toNatClampNeg (nI i + 1))) (xs (Int32.toNatClampNeg (nI i + 2))) K R hrel
  refine v_aload_n C dL_law_461 rfl rfl 1 rfl ?_
  refine v_aload_n C dL_law_462 rfl rfl 0 rfl ?_
  refine v_iload_n C dL_law_463 rfl rfl 3 rfl ?_
  refine v_iconst C dL_law_464 rfl ic_1 ?_
  refine v_iadd C dL_law_465 rfl ?_
  refine v_sld C S (by rw [show nI i + 1 = nI (i + 1) from nI_addc i 1]; exact inb_nI (by omega) (by omega)) dL_law_466 rfl ?_
  refine v_aload_n C dL_law_467 rfl rfl 0 rfl ?_
  refine v_iload_n C dL_law_468 rfl rfl 3 rfl ?_
  refine v_iconst C dL_law_469 rfl ic_2 ?_
  refine v_iadd C dL_law_470 rfl ?_
  refine v_sld C S (by rw [show nI i + 2 = nI (i + 2) from nI_addc i 2]; exact inb_nI (by omega) (by omega)) dL_law_471 rfl ?_
  refine v_callVi C yv_X8_rule m_419 (a8_rule e8) (Sub.left (hDD _ _)) ⟨0, _, _, _, _, wd_left (wd_at sk_0), rfl⟩ (As := [.int (xs (Int32.toNatClampNeg (nI i + 1))), .int (xs (Int32.toNatClampNeg (nI i + 2)))]) rfl rfl (Nat.le_of_ble_eq_true rfl) ⟨Nat.le_of_ble_eq_true rfl, Nat.le_of_ble_eq_true rfl⟩ dL_law_472 rfl ?_
  refine v_aload_n C dL_law_475 rfl rfl 2 rfl ?_
  refine v_aload_n C dL_law_476 rfl rfl 0 rfl ?_
  refine v_iload_n C dL_law_477 rfl rfl 3 rfl ?_
  refine v_iconst C dL_law_478 rfl ic_1 ?_
  refine v_iadd C dL_law_479 rfl ?_
  refine v_sld C S (by rw [show nI i + 1 = nI (i + 1) from nI_addc i 1]; exact inb_nI (by omega) (by omega)) dL_law_480 rfl ?_
  refine v_aload_n C dL_law_481 rfl rfl 0 rfl ?_
  refine v_iload_n C dL_law_482 rfl rfl 3 rfl ?_
  refine v_iconst C dL_law_483 rfl ic_2 ?_
  refine v_iadd C dL_law_484 rfl ?_
  refine v_sld C S (by rw [show nI i + 2 = nI (i + 2) from nI_addc i 2]; exact inb_nI (by omega) (by omega)) dL_law_485 rfl ?_
  refine v_callVi C yv_X9_rule m_1070 (a9_rule e9) (Sub.right (hDD _ _)) ⟨76, _, _, _, _, wd_right (wd_at sr_0), rfl⟩ (As := [.int (xs (Int32.toNatClampNeg (nI i + 1))), .int (xs (Int32.toNatClampNeg (nI i + 2)))]) rfl rfl (Nat.le_of_ble_eq_true rfl) ⟨Nat.le_of_ble_eq_true rfl, Nat.le_of_ble_eq_true rfl⟩ dL_law_486 rfl ?_
  exact v_icmp_eq C dL_law_489 (tgt := 1549) (by decide) rfl (fun _ => kk K' R' hrel') (fun c => absurd rfl c)
set_option maxRecDepth 100000 in
set_option maxHeartbeats 4000000 in
theorem lc_deal {G : Ctx} {Rel : Mem → Mem → Prop} {b N i : Nat} {xs : Nat → Int32} {aK aR : Nat → Nat} (C : Cx G RL cL_law 4 136 3501) (S : Scr G b N xs) (hN : N ≤ 3072) (hDD : ∀ K R, va_D (gA G) (wd (gC G) aK K 0 shsK ++ wd (gC G) aR R 0 shsR)) (hsim : Sim1 Rel A8_deal A9_deal) (hi : i + 6 ≤ N) {K R : Mem} (hrel : Rel K R) (kk : ∀ K' R', Rel K' R' → V G 4 (wd (gC G) aK K' 0 shsK ++ wd (gC G) aR R' 0 shsR) 1549 [(0, .ref b), (1, .ref (aK 0)), (2, .ref (aR 0)), (3, .int (nI i))] []) : V G 4 (wd (gC G) aK K 0 shsK ++ wd (gC G) aR R 0 shsR) 494 [(0, .ref b), (1, .ref (aK 0)), (2, .ref (aR 0)), (3, .int (nI i))] [] := by
  obtain ⟨r, K', R', e8, e9, hrel'⟩ := hsim (xs (Int32.toNatClampNeg (nI i + 1))) K R hrel
  refine v_aload_n C dL_law_494 rfl rfl 1 rfl ?_
  refine v_aload_n C dL_law_495 rfl rfl 0 rfl ?_
  refine v_iload_n C dL_law_496 rfl rfl 3 rfl ?_
  refine v_iconst C dL_law_497 rfl ic_1 ?_
  refine v_iadd C dL_law_498 rfl ?_
  refine v_sld C S (by rw [show nI i + 1 = nI (i + 1) from nI_addc i 1]; exact inb_nI (by omega) (by omega)) dL_law_499 rfl ?_
  refine v_callVi C yv_X8_deal m_423 (a8_deal e8) (Sub.left (hDD _ _)) ⟨0, _, _, _, _, wd_left (wd_at sk_0), rfl⟩ (As := [.int (xs (Int32.toNatClampNeg (nI i + 1)))]) rfl rfl (Nat.le_of_ble_eq_true rfl) ⟨Nat.le_of_ble_eq_true rfl, Nat.le_of_ble_eq_true rfl⟩ dL_law_500 rfl ?_
  refine v_aload_n C dL_law_503 rfl rfl 2 rfl ?_
  refine v_aload_n C dL_law_504 rfl rfl 0 rfl ?_
  refine v_iload_n C dL_law_505 rfl rfl 3 rfl ?_
  refine v_iconst C dL_law_506 rfl ic_1 ?_
  refine v_iadd C dL_law_507 rfl ?_
  refine v_sld C S (by rw [show nI i + 1 = nI (i + 1) from nI_addc i 1]; exact inb_nI (by omega) (by omega)) dL_law_508 rfl ?_
  refine v_callVi C yv_X9_deal m_1075 (a9_deal e9) (Sub.right (hDD _ _)) ⟨76, _, _, _, _, wd_right (wd_at sr_0), rfl⟩ (As := [.int (xs (Int32.toNatClampNeg (nI i + 1)))]) rfl rfl (Nat.le_of_ble_eq_true rfl) ⟨Nat.le_of_ble_eq_true rfl, Nat.le_of_ble_eq_true rfl⟩ dL_law_509 rfl ?_
  exact v_icmp_eq C dL_law_512 (tgt := 1549) (by decide) rfl (fun _ => kk K' R' hrel') (fun c => absurd rfl c)
set_option maxRecDepth 100000 in
set_option maxHeartbeats 4000000 in
theorem lc_seed {G : Ctx} {Rel : Mem → Mem → Prop} {b N i : Nat} {xs : Nat → Int32} {aK aR : Nat → Nat} (C : Cx G RL cL_law 4 136 3501) (S : Scr G b N xs) (hN : N ≤ 3072) (hDD : ∀ K R, va_D (gA G) (wd (gC G) aK K 0 shsK ++ wd (gC G) aR R 0 shsR)) (hsim : Sim1 Rel A8_seed A9_seed) (hi : i + 6 ≤ N) {K R : Mem} (hrel : Rel K R) (kk : ∀ K' R', Rel K' R' → V G 4 (wd (gC G) aK K' 0 shsK ++ wd (gC G) aR R' 0 shsR) 1549 [(0, .ref b), (1, .ref (aK 0)), (2, .ref (aR 0)), (3, .int (nI i))] []) : V G 4 (wd (gC G) aK K 0 shsK ++ wd (gC G) aR R 0 shsR) 517 [(0, .ref b), (1, .ref (aK 0)), (2, .ref (aR 0)), (3, .int (nI i))] [] := by
  obtain ⟨r, K', R', e8, e9, hrel'⟩ := hsim (xs (Int32.toNatClampNeg (nI i + 1))) K R hrel
  refine v_aload_n C dL_law_517 rfl rfl 1 rfl ?_
  refine v_aload_n C dL_law_518 rfl rfl 0 rfl ?_
  refine v_iload_n C dL_law_519 rfl rfl 3 rfl ?_
  refine v_iconst C dL_law_520 rfl ic_1 ?_
  refine v_iadd C dL_law_521 rfl ?_
  refine v_sld C S (by rw [show nI i + 1 = nI (i + 1) from nI_addc i 1]; exact inb_nI (by omega) (by omega)) dL_law_522 rfl ?_
  refine v_callVi C yv_X8_seed m_437 (a8_seed e8) (Sub.left (hDD _ _)) ⟨0, _, _, _, _, wd_left (wd_at sk_0), rfl⟩ (As := [.int (xs (Int32.toNatClampNeg (nI i + 1)))]) rfl rfl (Nat.le_of_ble_eq_true rfl) ⟨Nat.le_of_ble_eq_true rfl, Nat.le_of_ble_eq_true rfl⟩ dL_law_523 rfl ?_
  refine v_aload_n C dL_law_526 rfl rfl 2 rfl ?_
  refine v_aload_n C dL_law_527 rfl rfl 0 rfl ?_
  refine v_iload_n C dL_law_528 rfl rfl 3 rfl ?_
  refine v_iconst C dL_law_529 rfl ic_1 ?_
  refine v_iadd C dL_law_530 rfl ?_
  refine v_sld C S (by rw [show nI i + 1 = nI (i + 1) from nI_addc i 1]; exact inb_nI (by omega) (by omega)) dL_law_531 rfl ?_
  refine v_callVi C yv_X9_seed m_1085 (a9_seed e9) (Sub.right (hDD _ _)) ⟨76, _, _, _, _, wd_right (wd_at sr_0), rfl⟩ (As := [.int (xs (Int32.toNatClampNeg (nI i + 1)))]) rfl rfl (Nat.le_of_ble_eq_true rfl) ⟨Nat.le_of_ble_eq_true rfl, Nat.le_of_ble_eq_true rfl⟩ dL_law_532 rfl ?_
  exact v_icmp_eq C dL_law_535 (tgt := 1549) (by decide) rfl (fun _ => kk K' R' hrel') (fun c => absurd rfl c)
set_option maxRecDepth 100000 in
set_option maxHeartbeats 4000000 in
theorem lc_nights {G : Ctx} {Rel : Mem → Mem → Prop} {b N i : Nat} {xs : Nat → Int32} {aK aR : Nat → Nat} (C : Cx G RL cL_law 4 136 3501) (S : Scr G b N xs) (hN : N ≤ 3072) (hDD : ∀ K R, va_D (gA G) (wd (gC G) aK K 0 shsK ++ wd (gC G) aR R 0 shsR)) (hsim : Sim1 Rel A8_nights A9_nights) (hi : i + 6 ≤ N) {K R : Mem} (hrel : Rel K R) (kk : ∀ K' R', Rel K' R' → V G 4 (wd (gC G) aK K' 0 shsK ++ wd (gC G) aR R' 0 shsR) 1549 [(0, .ref b), (1, .ref (aK 0)), (2, .ref (aR 0)), (3, .int (nI i))] []) : V G 4 (wd (gC G) aK K 0 shsK ++ wd (gC G) aR R 0 shsR) 540 [(0, .ref b), (1, .ref (aK 0)), (2, .ref (aR 0)), (3, .int (nI i))] [] := by
  obtain ⟨r, K', R', e8, e9, hrel'⟩ := hsim (xs (Int32.toNatClampNeg (nI i + 1))) K R hrel
  refine v_aload_n C dL_law_540 rfl rfl 1 rfl ?_
  refine v_aload_n C dL_law_541 rfl rfl 0 rfl ?_
  refine v_iload_n C dL_law_542 rfl rfl 3 rfl ?_
  refine v_iconst C dL_law_543 rfl ic_1 ?_
  refine v_iadd C dL_law_544 rfl ?_
  refine v_sld C S (by rw [show nI i + 1 = nI (i + 1) from nI_addc i 1]; exact inb_nI (by omega) (by omega)) dL_law_545 rfl ?_
  refine v_callVi C yv_X8_nights m_441 (a8_nights e8) (Sub.left (hDD _ _)) ⟨0, _, _, _, _, wd_left (wd_at sk_0), rfl⟩ (As := [.int (xs (Int32.toNatClampNeg (nI i + 1)))]) rfl rfl (Nat.le_of_ble_eq_true rfl) ⟨Nat.le_of_ble_eq_true rfl, Nat.le_of_ble_eq_true rfl⟩ dL_law_546 rfl ?_
  refine v_aload_n C dL_law_549 rfl rfl 2 rfl ?_
  refine v_aload_n C dL_law_550 rfl rfl 0 rfl ?_
  refine v_iload_n C dL_law_551 rfl rfl 3 rfl ?_
  refine v_iconst C dL_law_552 rfl ic_1 ?_
  refine v_iadd C dL_law_553 rfl ?_
  refine v_sld C S (by rw [show nI i + 1 = nI (i + 1) from nI_addc i 1]; exact inb_nI (by omega) (by omega)) dL_law_554 rfl ?_
  refine v_callVi C yv_X9_nights m_1089 (a9_nights e9) (Sub.right (hDD _ _)) ⟨76, _, _, _, _, wd_right (wd_at sr_0), rfl⟩ (As := [.int (xs (Int32.toNatClampNeg (nI i + 1)))]) rfl rfl (Nat.le_of_ble_eq_true rfl) ⟨Nat.le_of_ble_eq_true rfl, Nat.le_of_ble_eq_true rfl⟩ dL_law_555 rfl ?_
  exact v_icmp_eq C dL_law_558 (tgt := 1549) (by decide) rfl (fun _ => kk K' R' hrel') (fun c => absurd rfl c)
set_option maxRecDepth 100000 in
set_option maxHeartbeats 4000000 in
theorem lc_town {G : Ctx} {Rel : Mem → Mem → Prop} {b N i : Nat} {xs : Nat → Int32} {aK aR : Nat → Nat} (C : Cx G RL cL_law 4 136 3501) (S : Scr G b N xs) (hN : N ≤ 3072) (hDD : ∀ K R, va_D (gA G) (wd (gC G) aK K 0 shsK ++ wd (gC G) aR R 0 shsR)) (hsim : Sim1 Rel A8_town A9_town) (hi : i + 6 ≤ N) {K R : Mem} (hrel : Rel K R) (kk : ∀ K' R', Rel K' R' → V G 4 (wd (gC G) aK K' 0 shsK ++ wd (gC G) aR R' 0 shsR) 1549 [(0, .ref b), (1, .ref (aK 0)), (2, .ref (aR 0)), (3, .int (nI i))] []) : V G 4 (wd (gC G) aK K 0 shsK ++ wd (gC G) aR R 0 shsR) 563 [(0, .ref b), (1, .ref (aK 0)), (2, .ref (aR 0)), (3, .int (nI i))] [] := by
  obtain ⟨r, K', R', e8, e9, hrel'⟩ := hsim (xs (Int32.toNatClampNeg (nI i + 1))) K R hrel
  refine v_aload_n C dL_law_563 rfl rfl 1 rfl ?_
  refine v_aload_n C dL_law_564 rfl rfl 0 rfl ?_
  refine v_iload_n C dL_law_565 rfl rfl 3 rfl ?_
  refine v_iconst C dL_law_566 rfl ic_1 ?_
  refine v_iadd C dL_law_567 rfl ?_
  refine v_sld C S (by rw [show nI i + 1 = nI (i + 1) from nI_addc i 1]; exact inb_nI (by omega) (by omega)) dL_law_568 rfl ?_
  refine v_callVi C yv_X8_town m_464 (a8_town e8) (Sub.left (hDD _ _)) ⟨0, _, _, _, _, wd_left (wd_at sk_0), rfl⟩ (As := [.int (xs (Int32.toNatClampNeg (nI i + 1)))]) rfl rfl (Nat.le_of_ble_eq_true rfl) ⟨Nat.le_of_ble_eq_true rfl, Nat.le_of_ble_eq_true rfl⟩ dL_law_569 rfl ?_
  refine v_aload_n C dL_law_572 rfl rfl 2 rfl ?_
  refine v_aload_n C dL_law_573 rfl rfl 0 rfl ?_
  refine v_iload_n C dL_law_574 rfl rfl 3 rfl ?_
  refine v_iconst C dL_law_575 rfl ic_1 ?_
  refine v_iadd C dL_law_576 rfl ?_
  refine v_sld C S (by rw [show nI i + 1 = nI (i + 1) from nI_addc i 1]; exact inb_nI (by omega) (by omega)) dL_law_577 rfl ?_
  refine v_callVi C yv_X9_town m_1113 (a9_town e9) (Sub.right (hDD _ _)) ⟨76, _, _, _, _, wd_right (wd_at sr_0), rfl⟩ (As := [.int (xs (Int32.toNatClampNeg (nI i + 1)))]) rfl rfl (Nat.le_of_ble_eq_true rfl) ⟨Nat.le_of_ble_eq_true rfl, Nat.le_of_ble_eq_true rfl⟩ dL_law_578 rfl ?_
  exact v_icmp_eq C dL_law_581 (tgt := 1549) (by decide) rfl (fun _ => kk K' R' hrel') (fun c => absurd rfl c)
set_option maxRecDepth 100000 in
set_option maxHeartbeats 4000000 in
theorem lc_way {G : Ctx} {Rel : Mem → Mem → Prop} {b N i : Nat} {xs : Nat → Int32} {aK aR : Nat → Nat} (C : Cx G RL cL_law 4 136 3501) (S : Scr G b N xs) (hN : N ≤ 3072) (hDD : ∀ K R, va_D (gA G) (wd (gC G) aK K 0 shsK ++ wd (gC G) aR R 0 shsR)) (hsim : Sim4 Rel A8_way A9_way) (hi : i + 6 ≤ N) {K R : Mem} (hrel : Rel K R) (kk : ∀ K' R', Rel K' R' → V G 4 (wd (gC G) aK K' 0 shsK ++ wd (gC G) aR R' 0 shsR) 1549 [(0, .ref b), (1, .ref (aK 0)), (2, .ref (aR 0)), (3, .int (nI i))] []) : V G 4 (wd (gC G) aK K 0 shsK ++ wd (gC G) aR R 0 shsR) 586 [(0, .ref b), (1, .ref (aK 0)), (2, .ref (aR 0)), (3, .int (nI i))] [] := by
  obtain ⟨r, K', R', e8, e9, hrel'⟩ := hsim (xs (Int32.toNatClampNeg (nI i + 1))) (xs (Int32.toNatClampNeg (nI i + 2))) (xs (Int32.toNatClampNeg (nI i + 3))) (xs (Int32.toNatClampNeg (nI i + 4))) K R hrel
  refine v_aload_n C dL_law_586 rfl rfl 1 rfl ?_
  refine v_aload_n C dL_law_587 rfl rfl 0 rfl ?_
  refine v_iload_n C dL_law_588 rfl rfl 3 rfl ?_
  refine v_iconst C dL_law_589 rfl ic_1 ?_
  refine v_iadd C dL_law_590 rfl ?_
  refine v_sld C S (by rw [show nI i + 1 = nI (i + 1) from nI_addc i 1]; exact inb_nI (by omega) (by omega)) dL_law_591 rfl ?_
  refine v_aload_n C dL_law_592 rfl rfl 0 rfl ?_
  refine v_iload_n C dL_law_593 rfl rfl 3 rfl ?_
  refine v_iconst C dL_law_594 rfl ic_2 ?_
  refine v_iadd C dL_law_595 rfl ?_
  refine v_sld C S (by rw [show nI i + 2 = nI (i + 2) from nI_addc i 2]; exact inb_nI (by omega) (by omega)) dL_law_596 rfl ?_
  refine v_aload_n C dL_law_597 rfl rfl 0 rfl ?_
  refine v_iload_n C dL_law_598 rfl rfl 3 rfl ?_
  refine v_iconst C dL_law_599 rfl ic_3 ?_
  refine v_iadd C dL_law_600 rfl ?_
  refine v_sld C S (by rw [show nI i + 3 = nI (i + 3) from nI_addc i 3]; exact inb_nI (by omega) (by omega)) dL_law_601 rfl ?_
  refine v_aload_n C dL_law_602 rfl rfl 0 rfl ?_
  refine v_iload_n C dL_law_603 rfl rfl 3 rfl ?_
  refine v_iconst C dL_law_604 rfl ic_4 ?_
  refine v_iadd C dL_law_605 rfl ?_
  refine v_sld C S (by rw [show nI i + 4 = nI (i + 4) from nI_addc i 4]; exact inb_nI (by omega) (by omega)) dL_law_606 rfl ?_
  refine v_callVi C yv_X8_way m_472 (a8_way e8) (Sub.left (hDD _ _)) ⟨0, _, _, _, _, wd_left (wd_at sk_0), rfl⟩ (As := [.int (xs (Int32.toNatClampNeg (nI i + 1))), .int (xs (Int32.toNatClampNeg (nI i + 2))), .int (xs (Int32.toNatClampNeg (nI i + 3))), .int (xs (Int32.toNatClampNeg (nI i + 4)))]) rfl rfl (Nat.le_of_ble_eq_true rfl) ⟨Nat.le_of_ble_eq_true rfl, Nat.le_of_ble_eq_true rfl⟩ dL_law_607 rfl ?_
  refine v_aload_n C dL_law_610 rfl rfl 2 rfl ?_
  refine v_aload_n C dL_law_611 rfl rfl 0 rfl ?_
  refine v_iload_n C dL_law_612 rfl rfl 3 rfl ?_
  refine v_iconst C dL_law_613 rfl ic_1 ?_
  refine v_iadd C dL_law_614 rfl ?_
  refine v_sld C S (by rw [show nI i + 1 = nI (i + 1) from nI_addc i 1]; exact inb_nI (by omega) (by omega)) dL_law_615 rfl ?_
  refine v_aload_n C dL_law_616 rfl rfl 0 rfl ?_
  refine v_iload_n C dL_law_617 rfl rfl 3 rfl ?_
  refine v_iconst C dL_law_618 rfl ic_2 ?_
  refine v_iadd C dL_law_619 rfl ?_
  refine v_sld C S (by rw [show nI i + 2 = nI (i + 2) from nI_addc i 2]; exact inb_nI (by omega) (by omega)) dL_law_620 rfl ?_
  refine v_aload_n C dL_law_621 rfl rfl 0 rfl ?_
  refine v_iload_n C dL_law_622 rfl rfl 3 rfl ?_
  refine v_iconst C dL_law_623 rfl ic_3 ?_
  refine v_iadd C dL_law_624 rfl ?_
  refine v_sld C S (by rw [show nI i + 3 = nI (i + 3) from nI_addc i 3]; exact inb_nI (by omega) (by omega)) dL_law_625 rfl ?_
  refine v_aload_n C dL_law_626 rfl rfl 0 rfl ?_
  refine v_iload_n C dL_law_627 rfl rfl 3 rfl ?_
  refine v_iconst C dL_law_628 rfl ic_4 ?_
  refine v_iadd C dL_law_629 rfl ?_
  refine v_sld C S (by rw [show nI i + 4 = nI (i + 4) from nI_addc i 4]; exact inb_nI (by omega) (by omega)) dL_law_630 rfl ?_
  refine v_callVi C yv_X9_way m_1125 (a9_way e9) (Sub.right (hDD _ _)) ⟨76, _, _, _, _, wd_right (wd_at sr_0), rfl⟩ (As := [.int (xs (Int32.toNatClampNeg (nI i + 1))), .int (xs (Int32.toNatClampNeg (nI i + 2))), .int (xs (Int32.toNatClampNeg (nI i + 3))), .int (xs (Int32.toNatClampNeg (nI i + 4)))]) rfl rfl (Nat.le_of_ble_eq_true rfl) ⟨Nat.le_of_ble_eq_true rfl, Nat.le_of_ble_eq_true rfl⟩ dL_law_631 rfl ?_
  exact v_icmp_eq C dL_law_634 (tgt := 1549) (by decide) rfl (fun _ => kk K' R' hrel') (fun c => absurd rfl c)
set_option maxRecDepth 100000 in
set_option maxHeartbeats 4000000 in
theorem lc_reach {G : Ctx} {Rel : Mem → Mem → Prop} {b N i : Nat} {xs : Nat → Int32} {aK aR : Nat → Nat} (C : Cx G RL cL_law 4 136 3501) (S : Scr G b N xs) (hN : N ≤ 3072) (hDD : ∀ K R, va_D (gA G) (wd (gC G) aK K 0 shsK ++ wd (gC G) aR R 0 shsR)) (hsim : Sim2 Rel A8_reach A9_reach) (hi : i + 6 ≤ N) {K R : Mem} (hrel : Rel K R) (kk : ∀ K' R', Rel K' R' → V G 4 (wd (gC G) aK K' 0 shsK ++ wd (gC G) aR R' 0 shsR) 1549 [(0, .ref b), (1, .ref (aK 0)), (2, .ref (aR 0)), (3, .int (nI i))] []) : V G 4 (wd (gC G) aK K 0 shsK ++ wd (gC G) aR R 0 shsR) 639 [(0, .ref b), (1, .ref (aK 0)), (2, .ref (aR 0)), (3, .int (nI i))] [] := by
  obtain ⟨r, K', R', e8, e9, hrel'⟩ := hsim (xs (Int32.toNatClampNeg (nI i + 1))) (xs (Int32.toNatClampNeg (nI i + 2))) K R hrel
  refine v_aload_n C dL_law_639 rfl rfl 1 rfl ?_
  refine v_aload_n C dL_law_640 rfl rfl 0 rfl ?_
  refine v_iload_n C dL_law_641 rfl rfl 3 rfl ?_
  refine v_iconst C dL_law_642 rfl ic_1 ?_
  refine v_iadd C dL_law_643 rfl ?_
  refine v_sld C S (by rw [show nI i + 1 = nI (i + 1) from nI_addc i 1]; exact inb_nI (by omega) (by omega)) dL_law_644 rfl ?_
  refine v_aload_n C dL_law_645 rfl rfl 0 rfl ?_
  refine v_iload_n C dL_law_646 rfl rfl 3 rfl ?_
  refine v_iconst C dL_law_647 rfl ic_2 ?_
  refine v_iadd C dL_law_648 rfl ?_
  refine v_sld C S (by rw [show nI i + 2 = nI (i + 2) from nI_addc i 2]; exact inb_nI (by omega) (by omega)) dL_law_649 rfl ?_
  refine v_callVi C yv_X8_reach m_504 (a8_reach e8) (Sub.left (hDD _ _)) ⟨0, _, _, _, _, wd_left (wd_at sk_0), rfl⟩ (As := [.int (xs (Int32.toNatClampNeg (nI i + 1))), .int (xs (Int32.toNatClampNeg (nI i + 2)))]) rfl rfl (Nat.le_of_ble_eq_true rfl) ⟨Nat.le_of_ble_eq_true rfl, Nat.le_of_ble_eq_true rfl⟩ dL_law_650 rfl ?_
  refine v_aload_n C dL_law_653 rfl rfl 2 rfl ?_
  refine v_aload_n C dL_law_654 rfl rfl 0 rfl ?_
  refine v_iload_n C dL_law_655 rfl rfl 3 rfl ?_
  refine v_iconst C dL_law_656 rfl ic_1 ?_
  refine v_iadd C dL_law_657 rfl ?_
  refine v_sld C S (by rw [show nI i + 1 = nI (i + 1) from nI_addc i 1]; exact inb_nI (by omega) (by omega)) dL_law_658 rfl ?_
  refine v_aload_n C dL_law_659 rfl rfl 0 rfl ?_
  refine v_iload_n C dL_law_660 rfl rfl 3 rfl ?_
  refine v_iconst C dL_law_661 rfl ic_2 ?_
  refine v_iadd C dL_law_662 rfl ?_
  refine v_sld C S (by rw [show nI i + 2 = nI (i + 2) from nI_addc i 2]; exact inb_nI (by omega) (by omega)) dL_law_663 rfl ?_
  refine v_callVi C yv_X9_reach m_1149 (a9_reach e9) (Sub.right (hDD _ _)) ⟨76, _, _, _, _, wd_right (wd_at sr_0), rfl⟩ (As := [.int (xs (Int32.toNatClampNeg (nI i + 1))), .int (xs (Int32.toNatClampNeg (nI i + 2)))]) rfl rfl (Nat.le_of_ble_eq_true rfl) ⟨Nat.le_of_ble_eq_true rfl, Nat.le_of_ble_eq_true rfl⟩ dL_law_664 rfl ?_
  exact v_icmp_eq C dL_law_667 (tgt := 1549) (by decide) rfl (fun _ => kk K' R' hrel') (fun c => absurd rfl c)
set_option maxRecDepth 100000 in
set_option maxHeartbeats 4000000 in
theorem lc_pulled {G : Ctx} {Rel : Mem → Mem → Prop} {b N i : Nat} {xs : Nat → Int32} {aK aR : Nat → Nat} (C : Cx G RL cL_law 4 136 3501) (S : Scr G b N xs) (hN : N ≤ 3072) (hDD : ∀ K R, va_D (gA G) (wd (gC G) aK K 0 shsK ++ wd (gC G) aR R 0 shsR)) (hsim : Sim2 Rel A8_pulled A9_pulled) (hi : i + 6 ≤ N) {K R : Mem} (hrel : Rel K R) (kk : ∀ K' R', Rel K' R' → V G 4 (wd (gC G) aK K' 0 shsK ++ wd (gC G) aR R' 0 shsR) 1549 [(0, .ref b), (1, .ref (aK 0)), (2, .ref (aR 0)), (3, .int (nI i))] []) : V G 4 (wd (gC G) aK K 0 shsK ++ wd (gC G) aR R 0 shsR) 672 [(0, .ref b), (1, .ref (aK 0)), (2, .ref (aR 0)), (3, .int (nI i))] [] := by
  obtain ⟨r, K', R', e8, e9, hrel'⟩ := hsim (xs (Int32.toNatClampNeg (nI i + 1))) (xs (Int32.toNatClampNeg (nI i + 2))) K R hrel
  refine v_aload_n C dL_law_672 rfl rfl 1 rfl ?_
  refine v_aload_n C dL_law_673 rfl rfl 0 rfl ?_
  refine v_iload_n C dL_law_674 rfl rfl 3 rfl ?_
  refine v_iconst C dL_law_675 rfl ic_1 ?_
  refine v_iadd C dL_law_676 rfl ?_
  refine v_sld C S (by rw [show nI i + 1 = nI (i + 1) from nI_addc i 1]; exact inb_nI (by omega) (by omega)) dL_law_677 rfl ?_
  refine v_aload_n C dL_law_678 rfl rfl 0 rfl ?_
  refine v_iload_n C dL_law_679 rfl rfl 3 rfl ?_
  refine v_iconst C dL_law_680 rfl ic_2 ?_
  refine v_iadd C dL_law_681 rfl ?_
  refine v_sld C S (by rw [show nI i + 2 = nI (i + 2) from nI_addc i 2]; exact inb_nI (by omega) (by omega)) dL_law_682 rfl ?_
  refine v_callVi C yv_X8_pulled m_512 (a8_pulled e8) (Sub.left (hDD _ _)) ⟨0, _, _, _, _, wd_left (wd_at sk_0), rfl⟩ (As := [.int (xs (Int32.toNatClampNeg (nI i + 1))), .int (xs (Int32.toNatClampNeg (nI i + 2)))]) rfl rfl (Nat.le_of_ble_eq_true rfl) ⟨Nat.le_of_ble_eq_true rfl, Nat.le_of_ble_eq_true rfl⟩ dL_law_683 rfl ?_
  refine v_aload_n C dL_law_686 rfl rfl 2 rfl ?_
  refine v_aload_n C dL_law_687 rfl rfl 0 rfl ?_
  refine v_iload_n C dL_law_688 rfl rfl 3 rfl ?_
  refine v_iconst C dL_law_689 rfl ic_1 ?_
  refine v_iadd C dL_law_690 rfl ?_
  refine v_sld C S (by rw [show nI i + 1 = nI (i + 1) from nI_addc i 1]; exact inb_nI (by omega) (by omega)) dL_law_691 rfl ?_
  refine v_aload_n C dL_law_692 rfl rfl 0 rfl ?_
  refine v_iload_n C dL_law_693 rfl rfl 3 rfl ?_
  refine v_iconst C dL_law_694 rfl ic_2 ?_
  refine v_iadd C dL_law_695 rfl ?_
  refine v_sld C S (by rw [show nI i + 2 = nI (i + 2) from nI_addc i 2]; exact inb_nI (by omega) (by omega)) dL_law_696 rfl ?_
  refine v_callVi C yv_X9_pulled m_1153 (a9_pulled e9) (Sub.right (hDD _ _)) ⟨76, _, _, _, _, wd_right (wd_at sr_0), rfl⟩ (As := [.int (xs (Int32.toNatClampNeg (nI i + 1))), .int (xs (Int32.toNatClampNeg (nI i + 2)))]) rfl rfl (Nat.le_of_ble_eq_true rfl) ⟨Nat.le_of_ble_eq_true rfl, Nat.le_of_ble_eq_true rfl⟩ dL_law_697 rfl ?_
  exact v_icmp_eq C dL_law_700 (tgt := 1549) (by decide) rfl (fun _ => kk K' R' hrel') (fun c => absurd rfl c)
set_option maxRecDepth 100000 in
set_option maxHeartbeats 4000000 in
theorem lc_worst {G : Ctx} {Rel : Mem → Mem → Prop} {b N i : Nat} {xs : Nat → Int32} {aK aR : Nat → Nat} (C : Cx G RL cL_law 4 136 3501) (S : Scr G b N xs) (hN : N ≤ 3072) (hDD : ∀ K R, va_D (gA G) (wd (gC G) aK K 0 shsK ++ wd (gC G) aR R 0 shsR)) (hsim : Sim1 Rel A8_worst A9_worst) (hi : i + 6 ≤ N) {K R : Mem} (hrel : Rel K R) (kk : ∀ K' R', Rel K' R' → V G 4 (wd (gC G) aK K' 0 shsK ++ wd (gC G) aR R' 0 shsR) 1549 [(0, .ref b), (1, .ref (aK 0)), (2, .ref (aR 0)), (3, .int (nI i))] []) : V G 4 (wd (gC G) aK K 0 shsK ++ wd (gC G) aR R 0 shsR) 705 [(0, .ref b), (1, .ref (aK 0)), (2, .ref (aR 0)), (3, .int (nI i))] [] := by
  obtain ⟨r, K', R', e8, e9, hrel'⟩ := hsim (xs (Int32.toNatClampNeg (nI i + 1))) K R hrel
  refine v_aload_n C dL_law_705 rfl rfl 1 rfl ?_
  refine v_aload_n C dL_law_706 rfl rfl 0 rfl ?_
  refine v_iload_n C dL_law_707 rfl rfl 3 rfl ?_
  refine v_iconst C dL_law_708 rfl ic_1 ?_
  refine v_iadd C dL_law_709 rfl ?_
  refine v_sld C S (by rw [show nI i + 1 = nI (i + 1) from nI_addc i 1]; exact inb_nI (by omega) (by omega)) dL_law_710 rfl ?_
  refine v_callVi C yv_X8_worst m_517 (a8_worst e8) (Sub.left (hDD _ _)) ⟨0, _, _, _, _, wd_left (wd_at sk_0), rfl⟩ (As := [.int (xs (Int32.toNatClampNeg (nI i + 1)))]) rfl rfl (Nat.le_of_ble_eq_true rfl) ⟨Nat.le_of_ble_eq_true rfl, Nat.le_of_ble_eq_true rfl⟩ dL_law_711 rfl ?_
  refine v_aload_n C dL_law_714 rfl rfl 2 rfl ?_
  refine v_aload_n C dL_law_715 rfl rfl 0 rfl ?_
  refine v_iload_n C dL_law_716 rfl rfl 3 rfl ?_
  refine v_iconst C dL_law_717 rfl ic_1 ?_
  refine v_iadd C dL_law_718 rfl ?_
  refine v_sld C S (by rw [show nI i + 1 = nI (i + 1) from nI_addc i 1]; exact inb_nI (by omega) (by omega)) dL_law_719 rfl ?_
  refine v_callVi C yv_X9_worst m_1161 (a9_worst e9) (Sub.right (hDD _ _)) ⟨76, _, _, _, _, wd_right (wd_at sr_0), rfl⟩ (As := [.int (xs (Int32.toNatClampNeg (nI i + 1)))]) rfl rfl (Nat.le_of_ble_eq_true rfl) ⟨Nat.le_of_ble_eq_true rfl, Nat.le_of_ble_eq_true rfl⟩ dL_law_720 rfl ?_
  exact v_icmp_eq C dL_law_723 (tgt := 1549) (by decide) rfl (fun _ => kk K' R' hrel') (fun c => absurd rfl c)
set_option maxRecDepth 100000 in
set_option maxHeartbeats 4000000 in
theorem lc_needs {G : Ctx} {Rel : Mem → Mem → Prop} {b N i : Nat} {xs : Nat → Int32} {aK aR : Nat → Nat} (C : Cx G RL cL_law 4 136 3501) (S : Scr G b N xs) (hN : N ≤ 3072) (hDD : ∀ K R, va_D (gA G) (wd (gC G) aK K 0 shsK ++ wd (gC G) aR R 0 shsR)) (hsim : Sim2 Rel A8_needs A9_needs) (hi : i + 6 ≤ N) {K R : Mem} (hrel : Rel K R) (kk : ∀ K' R', Rel K' R' → V G 4 (wd (gC G) aK K' 0 shsK ++ wd (gC G) aR R' 0 shsR) 1549 [(0, .ref b), (1, .ref (aK 0)), (2, .ref (aR 0)), (3, .int (nI i))] []) : V G 4 (wd (gC G) aK K 0 shsK ++ wd (gC G) aR R 0 shsR) 728 [(0, .ref b), (1, .ref (aK 0)), (2, .ref (aR 0)), (3, .int (nI i))] [] := by
  obtain ⟨r, K', R', e8, e9, hrel'⟩ := hsim (xs (Int32.toNatClampNeg (nI i + 1))) (xs (Int32.toNatClampNeg (nI i + 2))) K R hrel
  refine v_aload_n C dL_law_728 rfl rfl 1 rfl ?_
  refine v_aload_n C dL_law_729 rfl rfl 0 rfl ?_
  refine v_iload_n C dL_law_730 rfl rfl 3 rfl ?_
  refine v_iconst C dL_law_731 rfl ic_1 ?_
  refine v_iadd C dL_law_732 rfl ?_
  refine v_sld C S (by rw [show nI i + 1 = nI (i + 1) from nI_addc i 1]; exact inb_nI (by omega) (by omega)) dL_law_733 rfl ?_
  refine v_aload_n C dL_law_734 rfl rfl 0 rfl ?_
  refine v_iload_n C dL_law_735 rfl rfl 3 rfl ?_
  refine v_iconst C dL_law_736 rfl ic_2 ?_
  refine v_iadd C dL_law_737 rfl ?_
  refine v_sld C S (by rw [show nI i + 2 = nI (i + 2) from nI_addc i 2]; exact inb_nI (by omega) (by omega)) dL_law_738 rfl ?_
  refine v_callVi C yv_X8_needs m_522 (a8_needs e8) (Sub.left (hDD _ _)) ⟨0, _, _, _, _, wd_left (wd_at sk_0), rfl⟩ (As := [.int (xs (Int32.toNatClampNeg (nI i + 1))), .int (xs (Int32.toNatClampNeg (nI i + 2)))]) rfl rfl (Nat.le_of_ble_eq_true rfl) ⟨Nat.le_of_ble_eq_true rfl, Nat.le_of_ble_eq_true rfl⟩ dL_law_739 rfl ?_
  refine v_aload_n C dL_law_742 rfl rfl 2 rfl ?_
  refine v_aload_n C dL_law_743 rfl rfl 0 rfl ?_
  refine v_iload_n C dL_law_744 rfl rfl 3 rfl ?_
  refine v_iconst C dL_law_745 rfl ic_1 ?_
  refine v_iadd C dL_law_746 rfl ?_
  refine v_sld C S (by rw [show nI i + 1 = nI (i + 1) from nI_addc i 1]; exact inb_nI (by omega) (by omega)) dL_law_747 rfl ?_
  refine v_aload_n C dL_law_748 rfl rfl 0 rfl ?_
  refine v_iload_n C dL_law_749 rfl rfl 3 rfl ?_
  refine v_iconst C dL_law_750 rfl ic_2 ?_
  refine v_iadd C dL_law_751 rfl ?_
  refine v_sld C S (by rw [show nI i + 2 = nI (i + 2) from nI_addc i 2]; exact inb_nI (by omega) (by omega)) dL_law_752 rfl ?_
  refine v_callVi C yv_X9_needs m_1165 (a9_needs e9) (Sub.right (hDD _ _)) ⟨76, _, _, _, _, wd_right (wd_at sr_0), rfl⟩ (As := [.int (xs (Int32.toNatClampNeg (nI i + 1))), .int (xs (Int32.toNatClampNeg (nI i + 2)))]) rfl rfl (Nat.le_of_ble_eq_true rfl) ⟨Nat.le_of_ble_eq_true rfl, Nat.le_of_ble_eq_true rfl⟩ dL_law_753 rfl ?_
  exact v_icmp_eq C dL_law_756 (tgt := 1549) (by decide) rfl (fun _ => kk K' R' hrel') (fun c => absurd rfl c)
set_option maxRecDepth 100000 in
set_option maxHeartbeats 4000000 in
theorem lc_behind {G : Ctx} {Rel : Mem → Mem → Prop} {b N i : Nat} {xs : Nat → Int32} {aK aR : Nat → Nat} (C : Cx G RL cL_law 4 136 3501) (S : Scr G b N xs) (hN : N ≤ 3072) (hDD : ∀ K R, va_D (gA G) (wd (gC G) aK K 0 shsK ++ wd (gC G) aR R 0 shsR)) (hsim : Sim2 Rel A8_behind A9_behind) (hi : i + 6 ≤ N) {K R : Mem} (hrel : Rel K R) (kk : ∀ K' R', Rel K' R' → V G 4 (wd (gC G) aK K' 0 shsK ++ wd (gC G) aR R' 0 shsR) 1549 [(0, .ref b), (1, .ref (aK 0)), (2, .ref (aR 0)), (3, .int (nI i))] []) : V G 4 (wd (gC G) aK K 0 shsK ++ wd (gC G) aR R 0 shsR) 761 [(0, .ref b), (1, .ref (aK 0)), (2, .ref (aR 0)), (3, .int (nI i))] [] := by
  obtain ⟨r, K', R', e8, e9, hrel'⟩ := hsim (xs (Int32.toNatClampNeg (nI i + 1))) (xs (Int32.toNatClampNeg (nI i + 2))) K R hrel
  refine v_aload_n C dL_law_761 rfl rfl 1 rfl ?_
  refine v_aload_n C dL_law_762 rfl rfl 0 rfl ?_
  refine v_iload_n C dL_law_763 rfl rfl 3 rfl ?_
  refine v_iconst C dL_law_764 rfl ic_1 ?_
  refine v_iadd C dL_law_765 rfl ?_
  refine v_sld C S (by rw [show nI i + 1 = nI (i + 1) from nI_addc i 1]; exact inb_nI (by omega) (by omega)) dL_law_766 rfl ?_
  refine v_aload_n C dL_law_767 rfl rfl 0 rfl ?_
  refine v_iload_n C dL_law_768 rfl rfl 3 rfl ?_
  refine v_iconst C dL_law_769 rfl ic_2 ?_
  refine v_iadd C dL_law_770 rfl ?_
  refine v_sld C S (by rw [show nI i + 2 = nI (i + 2) from nI_addc i 2]; exact inb_nI (by omega) (by omega)) dL_law_771 rfl ?_
  refine v_callVi C yv_X8_behind m_531 (a8_behind e8) (Sub.left (hDD _ _)) ⟨0, _, _, _, _, wd_left (wd_at sk_0), rfl⟩ (As := [.int (xs (Int32.toNatClampNeg (nI i + 1))), .int (xs (Int32.toNatClampNeg (nI i + 2)))]) rfl rfl (Nat.le_of_ble_eq_true rfl) ⟨Nat.le_of_ble_eq_true rfl, Nat.le_of_ble_eq_true rfl⟩ dL_law_772 rfl ?_
  refine v_aload_n C dL_law_775 rfl rfl 2 rfl ?_
  refine v_aload_n C dL_law_776 rfl rfl 0 rfl ?_
  refine v_iload_n C dL_law_777 rfl rfl 3 rfl ?_
  refine v_iconst C dL_law_778 rfl ic_1 ?_
  refine v_iadd C dL_law_779 rfl ?_
  refine v_sld C S (by rw [show nI i + 1 = nI (i + 1) from nI_addc i 1]; exact inb_nI (by omega) (by omega)) dL_law_780 rfl ?_
  refine v_aload_n C dL_law_781 rfl rfl 0 rfl ?_
  refine v_iload_n C dL_law_782 rfl rfl 3 rfl ?_
  refine v_iconst C dL_law_783 rfl ic_2 ?_
  refine v_iadd C dL_law_784 rfl ?_
  refine v_sld C S (by rw [show nI i + 2 = nI (i + 2) from nI_addc i 2]; exact inb_nI (by omega) (by omega)) dL_law_785 rfl ?_
  refine v_callVi C yv_X9_behind m_1169 (a9_behind e9) (Sub.right (hDD _ _)) ⟨76, _, _, _, _, wd_right (wd_at sr_0), rfl⟩ (As := [.int (xs (Int32.toNatClampNeg (nI i + 1))), .int (xs (Int32.toNatClampNeg (nI i + 2)))]) rfl rfl (Nat.le_of_ble_eq_true rfl) ⟨Nat.le_of_ble_eq_true rfl, Nat.le_of_ble_eq_true rfl⟩ dL_law_786 rfl ?_
  exact v_icmp_eq C dL_law_789 (tgt := 1549) (by decide) rfl (fun _ => kk K' R' hrel') (fun c => absurd rfl c)
set_option maxRecDepth 100000 in
set_option maxHeartbeats 4000000 in
theorem lc_gone {G : Ctx} {Rel : Mem → Mem → Prop} {b N i : Nat} {xs : Nat → Int32} {aK aR : Nat → Nat} (C : Cx G RL cL_law 4 136 3501) (S : Scr G b N xs) (hN : N ≤ 3072) (hDD : ∀ K R, va_D (gA G) (wd (gC G) aK K 0 shsK ++ wd (gC G) aR R 0 shsR)) (hsim : Sim2 Rel A8_gone A9_gone) (hi : i + 6 ≤ N) {K R : Mem} (hrel : Rel K R) (kk : ∀ K' R', Rel K' R' → V G 4 (wd (gC G) aK K' 0 shsK ++ wd (gC G) aR R' 0 shsR) 1549 [(0, .ref b), (1, .ref (aK 0)), (2, .ref (aR 0)), (3, .int (nI i))] []) : V G 4 (wd (gC G) aK K 0 shsK ++ wd (gC G) aR R 0 shsR) 794 [(0, .ref b), (1, .ref (aK 0)), (2, .ref (aR 0)), (3, .int (nI i))] [] := by
  obtain ⟨r, K', R', e8, e9, hrel'⟩ := hsim (xs (Int32.toNatClampNeg (nI i + 1))) (xs (Int32.toNatClampNeg (nI i + 2))) K R hrel
  refine v_aload_n C dL_law_794 rfl rfl 1 rfl ?_
  refine v_aload_n C dL_law_795 rfl rfl 0 rfl ?_
  refine v_iload_n C dL_law_796 rfl rfl 3 rfl ?_
  refine v_iconst C dL_law_797 rfl ic_1 ?_
  refine v_iadd C dL_law_798 rfl ?_
  refine v_sld C S (by rw [show nI i + 1 = nI (i + 1) from nI_addc i 1]; exact inb_nI (by omega) (by omega)) dL_law_799 rfl ?_
  refine v_aload_n C dL_law_800 rfl rfl 0 rfl ?_
  refine v_iload_n C dL_law_801 rfl rfl 3 rfl ?_
  refine v_iconst C dL_law_802 rfl ic_2 ?_
  refine v_iadd C dL_law_803 rfl ?_
  refine v_sld C S (by rw [show nI i + 2 = nI (i + 2) from nI_addc i 2]; exact inb_nI (by omega) (by omega)) dL_law_804 rfl ?_
  refine v_callVi C yv_X8_gone m_547 (a8_gone e8) (Sub.left (hDD _ _)) ⟨0, _, _, _, _, wd_left (wd_at sk_0), rfl⟩ (As := [.int (xs (Int32.toNatClampNeg (nI i + 1))), .int (xs (Int32.toNatClampNeg (nI i + 2)))]) rfl rfl (Nat.le_of_ble_eq_true rfl) ⟨Nat.le_of_ble_eq_true rfl, Nat.le_of_ble_eq_true rfl⟩ dL_law_805 rfl ?_
  refine v_aload_n C dL_law_808 rfl rfl 2 rfl ?_
  refine v_aload_n C dL_law_809 rfl rfl 0 rfl ?_
  refine v_iload_n C dL_law_810 rfl rfl 3 rfl ?_
  refine v_iconst C dL_law_811 rfl ic_1 ?_
  refine v_iadd C dL_law_812 rfl ?_
  refine v_sld C S (by rw [show nI i + 1 = nI (i + 1) from nI_addc i 1]; exact inb_nI (by omega) (by omega)) dL_law_813 rfl ?_
  refine v_aload_n C dL_law_814 rfl rfl 0 rfl ?_
  refine v_iload_n C dL_law_815 rfl rfl 3 rfl ?_
  refine v_iconst C dL_law_816 rfl ic_2 ?_
  refine v_iadd C dL_law_817 rfl ?_
  refine v_sld C S (by rw [show nI i + 2 = nI (i + 2) from nI_addc i 2]; exact inb_nI (by omega) (by omega)) dL_law_818 rfl ?_
  refine v_callVi C yv_X9_gone m_1181 (a9_gone e9) (Sub.right (hDD _ _)) ⟨76, _, _, _, _, wd_right (wd_at sr_0), rfl⟩ (As := [.int (xs (Int32.toNatClampNeg (nI i + 1))), .int (xs (Int32.toNatClampNeg (nI i + 2)))]) rfl rfl (Nat.le_of_ble_eq_true rfl) ⟨Nat.le_of_ble_eq_true rfl, Nat.le_of_ble_eq_true rfl⟩ dL_law_819 rfl ?_
  exact v_icmp_eq C dL_law_822 (tgt := 1549) (by decide) rfl (fun _ => kk K' R' hrel') (fun c => absurd rfl c)
set_option maxRecDepth 100000 in
set_option maxHeartbeats 4000000 in
theorem lc_thick {G : Ctx} {Rel : Mem → Mem → Prop} {b N i : Nat} {xs : Nat → Int32} {aK aR : Nat → Nat} (C : Cx G RL cL_law 4 136 3501) (S : Scr G b N xs) (hN : N ≤ 3072) (hDD : ∀ K R, va_D (gA G) (wd (gC G) aK K 0 shsK ++ wd (gC G) aR R 0 shsR)) (hsim : Sim3 Rel A8_thick A9_thick) (hi : i + 6 ≤ N) {K R : Mem} (hrel : Rel K R) (kk : ∀ K' R', Rel K' R' → V G 4 (wd (gC G) aK K' 0 shsK ++ wd (gC G) aR R' 0 shsR) 1549 [(0, .ref b), (1, .ref (aK 0)), (2, .ref (aR 0)), (3, .int (nI i))] []) : V G 4 (wd (gC G) aK K 0 shsK ++ wd (gC G) aR R 0 shsR) 827 [(0, .ref b), (1, .ref (aK 0)), (2, .ref (aR 0)), (3, .int (nI i))] [] := by
  obtain ⟨r, K', R', e8, e9, hrel'⟩ := hsim (xs (Int32.toNatClampNeg (nI i + 1))) (xs (Int32.toNatClampNeg (nI i + 2))) (xs (Int32.toNatClampNeg (nI i + 3))) K R hrel
  refine v_aload_n C dL_law_827 rfl rfl 1 rfl ?_
  refine v_aload_n C dL_law_828 rfl rfl 0 rfl ?_
  refine v_iload_n C dL_law_829 rfl rfl 3 rfl ?_
  refine v_iconst C dL_law_830 rfl ic_1 ?_
  refine v_iadd C dL_law_831 rfl ?_
  refine v_sld C S (by rw [show nI i + 1 = nI (i + 1) from nI_addc i 1]; exact inb_nI (by omega) (by omega)) dL_law_832 rfl ?_
  refine v_aload_n C dL_law_833 rfl rfl 0 rfl ?_
  refine v_iload_n C dL_law_834 rfl rfl 3 rfl ?_
  refine v_iconst C dL_law_835 rfl ic_2 ?_
  refine v_iadd C dL_law_836 rfl ?_
  refine v_sld C S (by rw [show nI i + 2 = nI (i + 2) from nI_addc i 2]; exact inb_nI (by omega) (by omega)) dL_law_837 rfl ?_
  refine v_aload_n C dL_law_838 rfl rfl 0 rfl ?_
  refine v_iload_n C dL_law_839 rfl rfl 3 rfl ?_
  refine v_iconst C dL_law_840 rfl ic_3 ?_
  refine v_iadd C dL_law_841 rfl ?_
  refine v_sld C S (by rw [show nI i + 3 = nI (i + 3) from nI_addc i 3]; exact inb_nI (by omega) (by omega)) dL_law_842 rfl ?_
  refine v_callVi C yv_X8_thick m_551 (a8_thick e8) (Sub.left (hDD _ _)) ⟨0, _, _, _, _, wd_left (wd_at sk_0), rfl⟩ (As := [.int (xs (Int32.toNatClampNeg (nI i + 1))), .int (xs (Int32.toNatClampNeg (nI i + 2))), .int (xs (Int32.toNatClampNeg (nI i + 3)))]) rfl rfl (Nat.le_of_ble_eq_true rfl) ⟨Nat.le_of_ble_eq_true rfl, Nat.le_of_ble_eq_true rfl⟩ dL_law_843 rfl ?_
  refine v_aload_n C dL_law_846 rfl rfl 2 rfl ?_
  refine v_aload_n C dL_law_847 rfl rfl 0 rfl ?_
  refine v_iload_n C dL_law_848 rfl rfl 3 rfl ?_
  refine v_iconst C dL_law_849 rfl ic_1 ?_
  refine v_iadd C dL_law_850 rfl ?_
  refine v_sld C S (by rw [show nI i + 1 = nI (i + 1) from nI_addc i 1]; exact inb_nI (by omega) (by omega)) dL_law_851 rfl ?_
  refine v_aload_n C dL_law_852 rfl rfl 0 rfl ?_
  refine v_iload_n C dL_law_853 rfl rfl 3 rfl ?_
  refine v_iconst C dL_law_854 rfl ic_2 ?_
  refine v_iadd C dL_law_855 rfl ?_
  refine v_sld C S (by rw [show nI i + 2 = nI (i + 2) from nI_addc i 2]; exact inb_nI (by omega) (by omega)) dL_law_856 rfl ?_
  refine v_aload_n C dL_law_857 rfl rfl 0 rfl ?_
  refine v_iload_n C dL_law_858 rfl rfl 3 rfl ?_
  refine v_iconst C dL_law_859 rfl ic_3 ?_
  refine v_iadd C dL_law_860 rfl ?_
  refine v_sld C S (by rw [show nI i + 3 = nI (i + 3) from nI_addc i 3]; exact inb_nI (by omega) (by omega)) dL_law_861 rfl ?_
  refine v_callVi C yv_X9_thick m_1185 (a9_thick e9) (Sub.right (hDD _ _)) ⟨76, _, _, _, _, wd_right (wd_at sr_0), rfl⟩ (As := [.int (xs (Int32.toNatClampNeg (nI i + 1))), .int (xs (Int32.toNatClampNeg (nI i + 2))), .int (xs (Int32.toNatClampNeg (nI i + 3)))]) rfl rfl (Nat.le_of_ble_eq_true rfl) ⟨Nat.le_of_ble_eq_true rfl, Nat.le_of_ble_eq_true rfl⟩ dL_law_862 rfl ?_
  exact v_icmp_eq C dL_law_865 (tgt := 1549) (by decide) rfl (fun _ => kk K' R' hrel') (fun c => absurd rfl c)
set_option maxRecDepth 100000 in
set_option maxHeartbeats 4000000 in
theorem lc_becomes {G : Ctx} {Rel : Mem → Mem → Prop} {b N i : Nat} {xs : Nat → Int32} {aK aR : Nat → Nat} (C : Cx G RL cL_law 4 136 3501) (S : Scr G b N xs) (hN : N ≤ 3072) (hDD : ∀ K R, va_D (gA G) (wd (gC G) aK K 0 shsK ++ wd (gC G) aR R 0 shsR)) (hsim : Sim3 Rel A8_becomes A9_becomes) (hi : i + 6 ≤ N) {K R : Mem} (hrel : Rel K R) (kk : ∀ K' R', Rel K' R' → V G 4 (wd (gC G) aK K' 0 shsK ++ wd (gC G) aR R' 0 shsR) 1549 [(0, .ref b), (1, .ref (aK 0)), (2, .ref (aR 0)), (3, .int (nI i))] []) : V G 4 (wd (gC G) aK K 0 shsK ++ wd (gC G) aR R 0 shsR) 870 [(0, .ref b), (1, .ref (aK 0)), (2, .ref (aR 0)), (3, .int (nI i))] [] := by
  obtain ⟨r, K', R', e8, e9, hrel'⟩ := hsim (xs (Int32.toNatClampNeg (nI i + 1))) (xs (Int32.toNatClampNeg (nI i + 2))) (xs (Int32.toNatClampNeg (nI i + 3))) K R hrel
  refine v_aload_n C dL_law_870 rfl rfl 1 rfl ?_
  refine v_aload_n C dL_law_871 rfl rfl 0 rfl ?_
  refine v_iload_n C dL_law_872 rfl rfl 3 rfl ?_
  refine v_iconst C dL_law_873 rfl ic_1 ?_
  refine v_iadd C dL_law_874 rfl ?_
  refine v_sld C S (by rw [show nI i + 1 = nI (i + 1) from nI_addc i 1]; exact inb_nI (by omega) (by omega)) dL_law_875 rfl ?_
  refine v_aload_n C dL_law_876 rfl rfl 0 rfl ?_
  refine v_iload_n C dL_law_877 rfl rfl 3 rfl ?_
  refine v_iconst C dL_law_878 rfl ic_2 ?_
  refine v_iadd C dL_law_879 rfl ?_
  refine v_sld C S (by rw [show nI i + 2 = nI (i + 2) from nI_addc i 2]; exact inb_nI (by omega) (by omega)) dL_law_880 rfl ?_
  refine v_aload_n C dL_law_881 rfl rfl 0 rfl ?_
  refine v_iload_n C dL_law_882 rfl rfl 3 rfl ?_
  refine v_iconst C dL_law_883 rfl ic_3 ?_
  refine v_iadd C dL_law_884 rfl ?_
  refine v_sld C S (by rw [show nI i + 3 = nI (i + 3) from nI_addc i 3]; exact inb_nI (by omega) (by omega)) dL_law_885 rfl ?_
  refine v_callVi C yv_X8_becomes m_558 (a8_becomes e8) (Sub.left (hDD _ _)) ⟨0, _, _, _, _, wd_left (wd_at sk_0), rfl⟩ (As := [.int (xs (Int32.toNatClampNeg (nI i + 1))), .int (xs (Int32.toNatClampNeg (nI i + 2))), .int (xs (Int32.toNatClampNeg (nI i + 3)))]) rfl rfl (Nat.le_of_ble_eq_true rfl) ⟨Nat.le_of_ble_eq_true rfl, Nat.le_of_ble_eq_true rfl⟩ dL_law_886 rfl ?_
  refine v_aload_n C dL_law_889 rfl rfl 2 rfl ?_
  refine v_aload_n C dL_law_890 rfl rfl 0 rfl ?_
  refine v_iload_n C dL_law_891 rfl rfl 3 rfl ?_
  refine v_iconst C dL_law_892 rfl ic_1 ?_
  refine v_iadd C dL_law_893 rfl ?_
  refine v_sld C S (by rw [show nI i + 1 = nI (i + 1) from nI_addc i 1]; exact inb_nI (by omega) (by omega)) dL_law_894 rfl ?_
  refine v_aload_n C dL_law_895 rfl rfl 0 rfl ?_
  refine v_iload_n C dL_law_896 rfl rfl 3 rfl ?_
  refine v_iconst C dL_law_897 rfl ic_2 ?_
  refine v_iadd C dL_law_898 rfl ?_
  refine v_sld C S (by rw [show nI i + 2 = nI (i + 2) from nI_addc i 2]; exact inb_nI (by omega) (by omega)) dL_law_899 rfl ?_
  refine v_aload_n C dL_law_900 rfl rfl 0 rfl ?_
  refine v_iload_n C dL_law_901 rfl rfl 3 rfl ?_
  refine v_iconst C dL_law_902 rfl ic_3 ?_
  refine v_iadd C dL_law_903 rfl ?_
  refine v_sld C S (by rw [show nI i + 3 = nI (i + 3) from nI_addc i 3]; exact inb_nI (by omega) (by omega)) dL_law_904 rfl ?_
  refine v_callVi C yv_X9_becomes m_1197 (a9_becomes e9) (Sub.right (hDD _ _)) ⟨76, _, _, _, _, wd_right (wd_at sr_0), rfl⟩ (As := [.int (xs (Int32.toNatClampNeg (nI i + 1))), .int (xs (Int32.toNatClampNeg (nI i + 2))), .int (xs (Int32.toNatClampNeg (nI i + 3)))]) rfl rfl (Nat.le_of_ble_eq_true rfl) ⟨Nat.le_of_ble_eq_true rfl, Nat.le_of_ble_eq_true rfl⟩ dL_law_905 rfl ?_
  exact v_icmp_eq C dL_law_908 (tgt := 1549) (by decide) rfl (fun _ => kk K' R' hrel') (fun c => absurd rfl c)
set_option maxRecDepth 100000 in
set_option maxHeartbeats 4000000 in
theorem lc_like {G : Ctx} {Rel : Mem → Mem → Prop} {b N i : Nat} {xs : Nat → Int32} {aK aR : Nat → Nat} (C : Cx G RL cL_law 4 136 3501) (S : Scr G b N xs) (hN : N ≤ 3072) (hDD : ∀ K R, va_D (gA G) (wd (gC G) aK K 0 shsK ++ wd (gC G) aR R 0 shsR)) (hsim : Sim2 Rel A8_like A9_like) (hi : i + 6 ≤ N) {K R : Mem} (hrel : Rel K R) (kk : ∀ K' R', Rel K' R' → V G 4 (wd (gC G) aK K' 0 shsK ++ wd (gC G) aR R' 0 shsR) 1549 [(0, .ref b), (1, .ref (aK 0)), (2, .ref (aR 0)), (3, .int (nI i))] []) : V G 4 (wd (gC G) aK K 0 shsK ++ wd (gC G) aR R 0 shsR) 913 [(0, .ref b), (1, .ref (aK 0)), (2, .ref (aR 0)), (3, .int (nI i))] [] := by
  obtain ⟨r, K', R', e8, e9, hrel'⟩ := hsim (xs (Int32.toNatClampNeg (nI i + 1))) (xs (Int32.toNatClampNeg (nI i + 2))) K R hrel
  refine v_aload_n C dL_law_913 rfl rfl 1 rfl ?_
  refine v_aload_n C dL_law_914 rfl rfl 0 rfl ?_
  refine v_iload_n C dL_law_915 rfl rfl 3 rfl ?_
  refine v_iconst C dL_law_916 rfl ic_1 ?_
  refine v_iadd C dL_law_917 rfl ?_
  refine v_sld C S (by rw [show nI i + 1 = nI (i + 1) from nI_addc i 1]; exact inb_nI (by omega) (by omega)) dL_law_918 rfl ?_
  refine v_aload_n C dL_law_919 rfl rfl 0 rfl ?_
  refine v_iload_n C dL_law_920 rfl rfl 3 rfl ?_
  refine v_iconst C dL_law_921 rfl ic_2 ?_
  refine v_iadd C dL_law_922 rfl ?_
  refine v_sld C S (by rw [show nI i + 2 = nI (i + 2) from nI_addc i 2]; exact inb_nI (by omega) (by omega)) dL_law_923 rfl ?_
  refine v_callVi C yv_X8_like m_562 (a8_like e8) (Sub.left (hDD _ _)) ⟨0, _, _, _, _, wd_left (wd_at sk_0), rfl⟩ (As := [.int (xs (Int32.toNatClampNeg (nI i + 1))), .int (xs (Int32.toNatClampNeg (nI i + 2)))]) rfl rfl (Nat.le_of_ble_eq_true rfl) ⟨Nat.le_of_ble_eq_true rfl, Nat.le_of_ble_eq_true rfl⟩ dL_law_924 rfl ?_
  refine v_aload_n C dL_law_927 rfl rfl 2 rfl ?_
  refine v_aload_n C dL_law_928 rfl rfl 0 rfl ?_
  refine v_iload_n C dL_law_929 rfl rfl 3 rfl ?_
  refine v_iconst C dL_law_930 rfl ic_1 ?_
  refine v_iadd C dL_law_931 rfl ?_
  refine v_sld C S (by rw [show nI i + 1 = nI (i + 1) from nI_addc i 1]; exact inb_nI (by omega) (by omega)) dL_law_932 rfl ?_
  refine v_aload_n C dL_law_933 rfl rfl 0 rfl ?_
  refine v_iload_n C dL_law_934 rfl rfl 3 rfl ?_
  refine v_iconst C dL_law_935 rfl ic_2 ?_
  refine v_iadd C dL_law_936 rfl ?_
  refine v_sld C S (by rw [show nI i + 2 = nI (i + 2) from nI_addc i 2]; exact inb_nI (by omega) (by omega)) dL_law_937 rfl ?_
  refine v_callVi C yv_X9_like m_1322 (a9_like e9) (Sub.right (hDD _ _)) ⟨76, _, _, _, _, wd_right (wd_at sr_0), rfl⟩ (As := [.int (xs (Int32.toNatClampNeg (nI i + 1))), .int (xs (Int32.toNatClampNeg (nI i + 2)))]) rfl rfl (Nat.le_of_ble_eq_true rfl) ⟨Nat.le_of_ble_eq_true rfl, Nat.le_of_ble_eq_true rfl⟩ dL_law_938 rfl ?_
  exact v_icmp_eq C dL_law_941 (tgt := 1549) (by decide) rfl (fun _ => kk K' R' hrel') (fun c => absurd rfl c)
set_option maxRecDepth 100000 in
set_option maxHeartbeats 4000000 in
theorem lc_fee {G : Ctx} {Rel : Mem → Mem → Prop} {b N i : Nat} {xs : Nat → Int32} {aK aR : Nat → Nat} (C : Cx G RL cL_law 4 136 3501) (S : Scr G b N xs) (hN : N ≤ 3072) (hDD : ∀ K R, va_D (gA G) (wd (gC G) aK K 0 shsK ++ wd (gC G) aR R 0 shsR)) (hsim : Sim0 Rel A8_fee A9_fee) (hi : i + 6 ≤ N) {K R : Mem} (hrel : Rel K R) (kk : ∀ K' R', Rel K' R' → V G 4 (wd (gC G) aK K' 0 shsK ++ wd (gC G) aR R' 0 shsR) 1549 [(0, .ref b), (1, .ref (aK 0)), (2, .ref (aR 0)), (3, .int (nI i))] []) : V G 4 (wd (gC G) aK K 0 shsK ++ wd (gC G) aR R 0 shsR) 946 [(0, .ref b), (1, .ref (aK 0)), (2, .ref (aR 0)), (3, .int (nI i))] [] := by
  obtain ⟨r, K', R', e8, e9, hrel'⟩ := hsim  K R hrel
  refine v_aload_n C dL_law_946 rfl rfl 1 rfl ?_
  refine v_callVi C yv_X8_fee m_591 (a8_fee e8) (Sub.left (hDD _ _)) ⟨0, _, _, _, _, wd_left (wd_at sk_0), rfl⟩ (As := []) rfl rfl (Nat.le_of_ble_eq_true rfl) ⟨Nat.le_of_ble_eq_true rfl, Nat.le_of_ble_eq_true rfl⟩ dL_law_947 rfl ?_
  refine v_aload_n C dL_law_950 rfl rfl 2 rfl ?_
  refine v_callVi C yv_X9_fee m_1201 (a9_fee e9) (Sub.right (hDD _ _)) ⟨76, _, _, _, _, wd_right (wd_at sr_0), rfl⟩ (As := []) rfl rfl (Nat.le_of_ble_eq_true rfl) ⟨Nat.le_of_ble_eq_true rfl, Nat.le_of_ble_eq_true rfl⟩ dL_law_951 rfl ?_
  exact v_icmp_eq C dL_law_954 (tgt := 1549) (by decide) rfl (fun _ => kk K' R' hrel') (fun c => absurd rfl c)
set_option maxRecDepth 100000 in
set_option maxHeartbeats 4000000 in
theorem lc_fine {G : Ctx} {Rel : Mem → Mem → Prop} {b N i : Nat} {xs : Nat → Int32} {aK aR : Nat → Nat} (C : Cx G RL cL_law 4 136 3501) (S : Scr G b N xs) (hN : N ≤ 3072) (hDD : ∀ K R, va_D (gA G) (wd (gC G) aK K 0 shsK ++ wd (gC G) aR R 0 shsR)) (hsim : Sim1 Rel A8_fine A9_fine) (hi : i + 6 ≤ N) {K R : Mem} (hrel : Rel K R) (kk : ∀ K' R', Rel K' R' → V G 4 (wd (gC G) aK K' 0 shsK ++ wd (gC G) aR R' 0 shsR) 1549 [(0, .ref b), (1, .ref (aK 0)), (2, .ref (aR 0)), (3, .int (nI i))] []) : V G 4 (wd (gC G) aK K 0 shsK ++ wd (gC G) aR R 0 shsR) 959 [(0, .ref b), (1, .ref (aK 0)), (2, .ref (aR 0)), (3, .int (nI i))] [] := by
  obtain ⟨r, K', R', e8, e9, hrel'⟩ := hsim (xs (Int32.toNatClampNeg (nI i + 1))) K R hrel
  refine v_aload_n C dL_law_959 rfl rfl 1 rfl ?_
  refine v_aload_n C dL_law_960 rfl rfl 0 rfl ?_
  refine v_iload_n C dL_law_961 rfl rfl 3 rfl ?_
  refine v_iconst C dL_law_962 rfl ic_1 ?_
  refine v_iadd C dL_law_963 rfl ?_
  refine v_sld C S (by rw [show nI i + 1 = nI (i + 1) from nI_addc i 1]; exact inb_nI (by omega) (by omega)) dL_law_964 rfl ?_
  refine v_callVi C yv_X8_fine m_596 (a8_fine e8) (Sub.left (hDD _ _)) ⟨0, _, _, _, _, wd_left (wd_at sk_0), rfl⟩ (As := [.int (xs (Int32.toNatClampNeg (nI i + 1)))]) rfl rfl (Nat.le_of_ble_eq_true rfl) ⟨Nat.le_of_ble_eq_true rfl, Nat.le_of_ble_eq_true rfl⟩ dL_law_965 rfl ?_
  refine v_aload_n C dL_law_968 rfl rfl 2 rfl ?_
  refine v_aload_n C dL_law_969 rfl rfl 0 rfl ?_
  refine v_iload_n C dL_law_970 rfl rfl 3 rfl ?_
  refine v_iconst C dL_law_971 rfl ic_1 ?_
  refine v_iadd C dL_law_972 rfl ?_
  refine v_sld C S (by rw [show nI i + 1 = nI (i + 1) from nI_addc i 1]; exact inb_nI (by omega) (by omega)) dL_law_973 rfl ?_
  refine v_callVi C yv_X9_fine m_1205 (a9_fine e9) (Sub.right (hDD _ _)) ⟨76, _, _, _, _, wd_right (wd_at sr_0), rfl⟩ (As := [.int (xs (Int32.toNatClampNeg (nI i + 1)))]) rfl rfl (Nat.le_of_ble_eq_true rfl) ⟨Nat.le_of_ble_eq_true rfl, Nat.le_of_ble_eq_true rfl⟩ dL_law_974 rfl ?_
  exact v_icmp_eq C dL_law_977 (tgt := 1549) (by decide) rfl (fun _ => kk K' R' hrel') (fun c => absurd rfl c)
set_option maxRecDepth 100000 in
set_option maxHeartbeats 4000000 in
theorem lc_feed {G : Ctx} {Rel : Mem → Mem → Prop} {b N i : Nat} {xs : Nat → Int32} {aK aR : Nat → Nat} (C : Cx G RL cL_law 4 136 3501) (S : Scr G b N xs) (hN : N ≤ 3072) (hDD : ∀ K R, va_D (gA G) (wd (gC G) aK K 0 shsK ++ wd (gC G) aR R 0 shsR)) (hsim : Sim3 Rel A8_feed A9_feed) (hi : i + 6 ≤ N) {K R : Mem} (hrel : Rel K R) (kk : ∀ K' R', Rel K' R' → V G 4 (wd (gC G) aK K' 0 shsK ++ wd (gC G) aR R' 0 shsR) 1549 [(0, .ref b), (1, .ref (aK 0)), (2, .ref (aR 0)), (3, .int (nI i))] []) : V G 4 (wd (gC G) aK K 0 shsK ++ wd (gC G) aR R 0 shsR) 982 [(0, .ref b), (1, .ref (aK 0)), (2, .ref (aR 0)), (3, .int (nI i))] [] := by
  obtain ⟨r, K', R', e8, e9, hrel'⟩ := hsim (xs (Int32.toNatClampNeg (nI i + 1))) (xs (Int32.toNatClampNeg (nI i + 2))) (xs (Int32.toNatClampNeg (nI i + 3))) K R hrel
  refine v_aload_n C dL_law_982 rfl rfl 1 rfl ?_
  refine v_aload_n C dL_law_983 rfl rfl 0 rfl ?_
  refine v_iload_n C dL_law_984 rfl rfl 3 rfl ?_
  refine v_iconst C dL_law_985 rfl ic_1 ?_
  refine v_iadd C dL_law_986 rfl ?_
  refine v_sld C S (by rw [show nI i + 1 = nI (i + 1) from nI_addc i 1]; exact inb_nI (by omega) (by omega)) dL_law_987 rfl ?_
  refine v_aload_n C dL_law_988 rfl rfl 0 rfl ?_
  refine v_iload_n C dL_law_989 rfl rfl 3 rfl ?_
  refine v_iconst C dL_law_990 rfl ic_2 ?_
  refine v_iadd C dL_law_991 rfl ?_
  refine v_sld C S (by rw [show nI i + 2 = nI (i + 2) from nI_addc i 2]; exact inb_nI (by omega) (by omega)) dL_law_992 rfl ?_
  refine v_aload_n C dL_law_993 rfl rfl 0 rfl ?_
  refine v_iload_n C dL_law_994 rfl rfl 3 rfl ?_
  refine v_iconst C dL_law_995 rfl ic_3 ?_
  refine v_iadd C dL_law_996 rfl ?_
  refine v_sld C S (by rw [show nI i + 3 = nI (i + 3) from nI_addc i 3]; exact inb_nI (by omega) (by omega)) dL_law_997 rfl ?_
  refine v_callVi C yv_X8_feed m_600 (a8_feed e8) (Sub.left (hDD _ _)) ⟨0, _, _, _, _, wd_left (wd_at sk_0), rfl⟩ (As := [.int (xs (Int32.toNatClampNeg (nI i + 1))), .int (xs (Int32.toNatClampNeg (nI i + 2))), .int (xs (Int32.toNatClampNeg (nI i + 3)))]) rfl rfl (Nat.le_of_ble_eq_true rfl) ⟨Nat.le_of_ble_eq_true rfl, Nat.le_of_ble_eq_true rfl⟩ dL_law_998 rfl ?_
  refine v_aload_n C dL_law_1001 rfl rfl 2 rfl ?_
  refine v_aload_n C dL_law_1002 rfl rfl 0 rfl ?_
  refine v_iload_n C dL_law_1003 rfl rfl 3 rfl ?_
  refine v_iconst C dL_law_1004 rfl ic_1 ?_
  refine v_iadd C dL_law_1005 rfl ?_
  refine v_sld C S (by rw [show nI i + 1 = nI (i + 1) from nI_addc i 1]; exact inb_nI (by omega) (by omega)) dL_law_1006 rfl ?_
  refine v_aload_n C dL_law_1007 rfl rfl 0 rfl ?_
  refine v_iload_n C dL_law_1008 rfl rfl 3 rfl ?_
  refine v_iconst C dL_law_1009 rfl ic_2 ?_
  refine v_iadd C dL_law_1010 rfl ?_
  refine v_sld C S (by rw [show nI i + 2 = nI (i + 2) from nI_addc i 2]; exact inb_nI (by omega) (by omega)) dL_law_1011 rfl ?_
  refine v_aload_n C dL_law_1012 rfl rfl 0 rfl ?_
  refine v_iload_n C dL_law_1013 rfl rfl 3 rfl ?_
  refine v_iconst C dL_law_1014 rfl ic_3 ?_
  refine v_iadd C dL_law_1015 rfl ?_
  refine v_sld C S (by rw [show nI i + 3 = nI (i + 3) from nI_addc i 3]; exact inb_nI (by omega) (by omega)) dL_law_1016 rfl ?_
  refine v_callVi C yv_X9_feed m_1209 (a9_feed e9) (Sub.right (hDD _ _)) ⟨76, _, _, _, _, wd_right (wd_at sr_0), rfl⟩ (As := [.int (xs (Int32.toNatClampNeg (nI i + 1))), .int (xs (Int32.toNatClampNeg (nI i + 2))), .int (xs (Int32.toNatClampNeg (nI i + 3)))]) rfl rfl (Nat.le_of_ble_eq_true rfl) ⟨Nat.le_of_ble_eq_true rfl, Nat.le_of_ble_eq_true rfl⟩ dL_law_1017 rfl ?_
  exact v_icmp_eq C dL_law_1020 (tgt := 1549) (by decide) rfl (fun _ => kk K' R' hrel') (fun c => absurd rfl c)
set_option maxRecDepth 100000 in
set_option maxHeartbeats 4000000 in
theorem lc_trim {G : Ctx} {Rel : Mem → Mem → Prop} {b N i : Nat} {xs : Nat → Int32} {aK aR : Nat → Nat} (C : Cx G RL cL_law 4 136 3501) (S : Scr G b N xs) (hN : N ≤ 3072) (hDD : ∀ K R, va_D (gA G) (wd (gC G) aK K 0 shsK ++ wd (gC G) aR R 0 shsR)) (hsim : Sim1 Rel A8_trim A9_trim) (hi : i + 6 ≤ N) {K R : Mem} (hrel : Rel K R) (kk : ∀ K' R', Rel K' R' → V G 4 (wd (gC G) aK K' 0 shsK ++ wd (gC G) aR R' 0 shsR) 1549 [(0, .ref b), (1, .ref (aK 0)), (2, .ref (aR 0)), (3, .int (nI i))] []) : V G 4 (wd (gC G) aK K 0 shsK ++ wd (gC G) aR R 0 shsR) 1025 [(0, .ref b), (1, .ref (aK 0)), (2, .ref (aR 0)), (3, .int (nI i))] [] := by
  obtain ⟨r, K', R', e8, e9, hrel'⟩ := hsim (xs (Int32.toNatClampNeg (nI i + 1))) K R hrel
  refine v_aload_n C dL_law_1025 rfl rfl 1 rfl ?_
  refine v_aload_n C dL_law_1026 rfl rfl 0 rfl ?_
  refine v_iload_n C dL_law_1027 rfl rfl 3 rfl ?_
  refine v_iconst C dL_law_1028 rfl ic_1 ?_
  refine v_iadd C dL_law_1029 rfl ?_
  refine v_sld C S (by rw [show nI i + 1 = nI (i + 1) from nI_addc i 1]; exact inb_nI (by omega) (by omega)) dL_law_1030 rfl ?_
  refine v_callVi C yv_X8_trim m_608 (a8_trim e8) (Sub.left (hDD _ _)) ⟨0, _, _, _, _, wd_left (wd_at sk_0), rfl⟩ (As := [.int (xs (Int32.toNatClampNeg (nI i + 1)))]) rfl rfl (Nat.le_of_ble_eq_true rfl) ⟨Nat.le_of_ble_eq_true rfl, Nat.le_of_ble_eq_true rfl⟩ dL_law_1031 rfl ?_
  refine v_aload_n C dL_law_1034 rfl rfl 2 rfl ?_
  refine v_aload_n C dL_law_1035 rfl rfl 0 rfl ?_
  refine v_iload_n C dL_law_1036 rfl rfl 3 rfl ?_
  refine v_iconst C dL_law_1037 rfl ic_1 ?_
  refine v_iadd C dL_law_1038 rfl ?_
  refine v_sld C S (by rw [show nI i + 1 = nI (i + 1) from nI_addc i 1]; exact inb_nI (by omega) (by omega)) dL_law_1039 rfl ?_
  refine v_callVi C yv_X9_trim m_1213 (a9_trim e9) (Sub.right (hDD _ _)) ⟨76, _, _, _, _, wd_right (wd_at sr_0), rfl⟩ (As := [.int (xs (Int32.toNatClampNeg (nI i + 1)))]) rfl rfl (Nat.le_of_ble_eq_true rfl) ⟨Nat.le_of_ble_eq_true rfl, Nat.le_of_ble_eq_true rfl⟩ dL_law_1040 rfl ?_
  exact v_icmp_eq C dL_law_1043 (tgt := 1549) (by decide) rfl (fun _ => kk K' R' hrel') (fun c => absurd rfl c)
set_option maxRecDepth 100000 in
set_option maxHeartbeats 4000000 in
theorem lc_text {G : Ctx} {Rel : Mem → Mem → Prop} {b N i : Nat} {xs : Nat → Int32} {aK aR : Nat → Nat} (C : Cx G RL cL_law 4 136 3501) (S : Scr G b N xs) (hN : N ≤ 3072) (hDD : ∀ K R, va_D (gA G) (wd (gC G) aK K 0 shsK ++ wd (gC G) aR R 0 shsR)) (hsim : Sim0 Rel A8_text A9_text) (hi : i + 6 ≤ N) {K R : Mem} (hrel : Rel K R) (kk : ∀ K' R', Rel K' R' → V G 4 (wd (gC G) aK K' 0 shsK ++ wd (gC G) aR R' 0 shsR) 1549 [(0, .ref b), (1, .ref (aK 0)), (2, .ref (aR 0)), (3, .int (nI i))] []) : V G 4 (wd (gC G) aK K 0 shsK ++ wd (gC G) aR R 0 shsR) 1048 [(0, .ref b), (1, .ref (aK 0)), (2, .ref (aR 0)), (3, .int (nI i))] [] := by
  obtain ⟨r, K', R', e8, e9, hrel'⟩ := hsim  K R hrel
  refine v_aload_n C dL_law_1048 rfl rfl 1 rfl ?_
  refine v_callVi C yv_X8_text m_612 (a8_text e8) (Sub.left (hDD _ _)) ⟨0, _, _, _, _, wd_left (wd_at sk_0), rfl⟩ (As := []) rfl rfl (Nat.le_of_ble_eq_true rfl) ⟨Nat.le_of_ble_eq_true rfl, Nat.le_of_ble_eq_true rfl⟩ dL_law_1049 rfl ?_
  refine v_aload_n C dL_law_1052 rfl rfl 2 rfl ?_
  refine v_callVi C yv_X9_text m_1217 (a9_text e9) (Sub.right (hDD _ _)) ⟨76, _, _, _, _, wd_right (wd_at sr_0), rfl⟩ (As := []) rfl rfl (Nat.le_of_ble_eq_true rfl) ⟨Nat.le_of_ble_eq_true rfl, Nat.le_of_ble_eq_true rfl⟩ dL_law_1053 rfl ?_
  exact v_icmp_eq C dL_law_1056 (tgt := 1549) (by decide) rfl (fun _ => kk K' R' hrel') (fun c => absurd rfl c)
set_option maxRecDepth 100000 in
set_option maxHeartbeats 4000000 in
theorem lc_textTold {G : Ctx} {Rel : Mem → Mem → Prop} {b N i : Nat} {xs : Nat → Int32} {aK aR : Nat → Nat} (C : Cx G RL cL_law 4 136 3501) (S : Scr G b N xs) (hN : N ≤ 3072) (hDD : ∀ K R, va_D (gA G) (wd (gC G) aK K 0 shsK ++ wd (gC G) aR R 0 shsR)) (hsim : Sim2 Rel A8_textTold A9_textTold) (hi : i + 6 ≤ N) {K R : Mem} (hrel : Rel K R) (kk : ∀ K' R', Rel K' R' → V G 4 (wd (gC G) aK K' 0 shsK ++ wd (gC G) aR R' 0 shsR) 1549 [(0, .ref b), (1, .ref (aK 0)), (2, .ref (aR 0)), (3, .int (nI i))] []) : V G 4 (wd (gC G) aK K 0 shsK ++ wd (gC G) aR R 0 shsR) 1061 [(0, .ref b), (1, .ref (aK 0)), (2, .ref (aR 0)), (3, .int (nI i))] [] := by
  obtain ⟨r, K', R', e8, e9, hrel'⟩ := hsim (xs (Int32.toNatClampNeg (nI i + 1))) (xs (Int32.toNatClampNeg (nI i + 2))) K R hrel
  refine v_aload_n C dL_law_1061 rfl rfl 1 rfl ?_
  refine v_aload_n C dL_law_1062 rfl rfl 0 rfl ?_
  refine v_iload_n C dL_law_1063 rfl rfl 3 rfl ?_
  refine v_iconst C dL_law_1064 rfl ic_1 ?_
  refine v_iadd C dL_law_1065 rfl ?_
  refine v_sld C S (by rw [show nI i + 1 = nI (i + 1) from nI_addc i 1]; exact inb_nI (by omega) (by omega)) dL_law_1066 rfl ?_
  refine v_aload_n C dL_law_1067 rfl rfl 0 rfl ?_
  refine v_iload_n C dL_law_1068 rfl rfl 3 rfl ?_
  refine v_iconst C dL_law_1069 rfl ic_2 ?_
  refine v_iadd C dL_law_1070 rfl ?_
  refine v_sld C S (by rw [show nI i + 2 = nI (i + 2) from nI_addc i 2]; exact inb_nI (by omega) (by omega)) dL_law_1071 rfl ?_
  refine v_callVi C yv_X8_textTold m_734 (a8_textTold e8) (Sub.left (hDD _ _)) ⟨0, _, _, _, _, wd_left (wd_at sk_0), rfl⟩ (As := [.int (xs (Int32.toNatClampNeg (nI i + 1))), .int (xs (Int32.toNatClampNeg (nI i + 2)))]) rfl rfl (Nat.le_of_ble_eq_true rfl) ⟨Nat.le_of_ble_eq_true rfl, Nat.le_of_ble_eq_true rfl⟩ dL_law_1072 rfl ?_
  refine v_aload_n C dL_law_1075 rfl rfl 2 rfl ?_
  refine v_aload_n C dL_law_1076 rfl rfl 0 rfl ?_
  refine v_iload_n C dL_law_1077 rfl rfl 3 rfl ?_
  refine v_iconst C dL_law_1078 rfl ic_1 ?_
  refine v_iadd C dL_law_1079 rfl ?_
  refine v_sld C S (by rw [show nI i + 1 = nI (i + 1) from nI_addc i 1]; exact inb_nI (by omega) (by omega)) dL_law_1080 rfl ?_
  refine v_aload_n C dL_law_1081 rfl rfl 0 rfl ?_
  refine v_iload_n C dL_law_1082 rfl rfl 3 rfl ?_
  refine v_iconst C dL_law_1083 rfl ic_2 ?_
  refine v_iadd C dL_law_1084 rfl ?_
  refine v_sld C S (by rw [show nI i + 2 = nI (i + 2) from nI_addc i 2]; exact inb_nI (by omega) (by omega)) dL_law_1085 rfl ?_
  refine v_callVi C yv_X9_textTold m_1284 (a9_textTold e9) (Sub.right (hDD _ _)) ⟨76, _, _, _, _, wd_right (wd_at sr_0), rfl⟩ (As := [.int (xs (Int32.toNatClampNeg (nI i + 1))), .int (xs (Int32.toNatClampNeg (nI i + 2)))]) rfl rfl (Nat.le_of_ble_eq_true rfl) ⟨Nat.le_of_ble_eq_true rfl, Nat.le_of_ble_eq_true rfl⟩ dL_law_1086 rfl ?_
  exact v_icmp_eq C dL_law_1089 (tgt := 1549) (by decide) rfl (fun _ => kk K' R' hrel') (fun c => absurd rfl c)
set_option maxRecDepth 100000 in
set_option maxHeartbeats 4000000 in
theorem lc_why {G : Ctx} {Rel : Mem → Mem → Prop} {b N i : Nat} {xs : Nat → Int32} {aK aR : Nat → Nat} (C : Cx G RL cL_law 4 136 3501) (S : Scr G b N xs) (hN : N ≤ 3072) (hDD : ∀ K R, va_D (gA G) (wd (gC G) aK K 0 shsK ++ wd (gC G) aR R 0 shsR)) (hsim : Sim1 Rel A8_why A9_why) (hi : i + 6 ≤ N) {K R : Mem} (hrel : Rel K R) (kk : ∀ K' R', Rel K' R' → V G 4 (wd (gC G) aK K' 0 shsK ++ wd (gC G) aR R' 0 shsR) 1549 [(0, .ref b), (1, .ref (aK 0)), (2, .ref (aR 0)), (3, .int (nI i))] []) : V G 4 (wd (gC G) aK K 0 shsK ++ wd (gC G) aR R 0 shsR) 1094 [(0, .ref b), (1, .ref (aK 0)), (2, .ref (aR 0)), (3, .int (nI i))] [] := by
  obtain ⟨r, K', R', e8, e9, hrel'⟩ := hsim (xs (Int32.toNatClampNeg (nI i + 1))) K R hrel
  refine v_aload_n C dL_law_1094 rfl rfl 1 rfl ?_
  refine v_aload_n C dL_law_1095 rfl rfl 0 rfl ?_
  refine v_iload_n C dL_law_1096 rfl rfl 3 rfl ?_
  refine v_iconst C dL_law_1097 rfl ic_1 ?_
  refine v_iadd C dL_law_1098 rfl ?_
  refine v_sld C S (by rw [show nI i + 1 = nI (i + 1) from nI_addc i 1]; exact inb_nI (by omega) (by omega)) dL_law_1099 rfl ?_
  refine v_callVi C yv_X8_why m_738 (a8_why e8) (Sub.left (hDD _ _)) ⟨0, _, _, _, _, wd_left (wd_at sk_0), rfl⟩ (As := [.int (xs (Int32.toNatClampNeg (nI i + 1)))]) rfl rfl (Nat.le_of_ble_eq_true rfl) ⟨Nat.le_of_ble_eq_true rfl, Nat.le_of_ble_eq_true rfl⟩ dL_law_1100 rfl ?_
  refine v_aload_n C dL_law_1103 rfl rfl 2 rfl ?_
  refine v_aload_n C dL_law_1104 rfl rfl 0 rfl ?_
  refine v_iload_n C dL_law_1105 rfl rfl 3 rfl ?_
  refine v_iconst C dL_law_1106 rfl ic_1 ?_
  refine v_iadd C dL_law_1107 rfl ?_
  refine v_sld C S (by rw [show nI i + 1 = nI (i + 1) from nI_addc i 1]; exact inb_nI (by omega) (by omega)) dL_law_1108 rfl ?_
  refine v_callVi C yv_X9_why m_1292 (a9_why e9) (Sub.right (hDD _ _)) ⟨76, _, _, _, _, wd_right (wd_at sr_0), rfl⟩ (As := [.int (xs (Int32.toNatClampNeg (nI i + 1)))]) rfl rfl (Nat.le_of_ble_eq_true rfl) ⟨Nat.le_of_ble_eq_true rfl, Nat.le_of_ble_eq_true rfl⟩ dL_law_1109 rfl ?_
  exact v_icmp_eq C dL_law_1112 (tgt := 1549) (by decide) rfl (fun _ => kk K' R' hrel') (fun c => absurd rfl c)
set_option maxRecDepth 100000 in
set_option maxHeartbeats 4000000 in
theorem lc_sheet {G : Ctx} {Rel : Mem → Mem → Prop} {b N i : Nat} {xs : Nat → Int32} {aK aR : Nat → Nat} (C : Cx G RL cL_law 4 136 3501) (S : Scr G b N xs) (hN : N ≤ 3072) (hDD : ∀ K R, va_D (gA G) (wd (gC G) aK K 0 shsK ++ wd (gC G) aR R 0 shsR)) (hsim : Sim3 Rel A8_sheet A9_sheet) (hi : i + 6 ≤ N) {K R : Mem} (hrel : Rel K R) (kk : ∀ K' R', Rel K' R' → V G 4 (wd (gC G) aK K' 0 shsK ++ wd (gC G) aR R' 0 shsR) 1549 [(0, .ref b), (1, .ref (aK 0)), (2, .ref (aR 0)), (3, .int (nI i))] []) : V G 4 (wd (gC G) aK K 0 shsK ++ wd (gC G) aR R 0 shsR) 1117 [(0, .ref b), (1, .ref (aK 0)), (2, .ref (aR 0)), (3, .int (nI i))] [] := by
  obtain ⟨r, K', R', e8, e9, hrel'⟩ := hsim (xs (Int32.toNatClampNeg (nI i + 1))) (xs (Int32.toNatClampNeg (nI i + 2))) (xs (Int32.toNatClampNeg (nI i + 3))) K R hrel
  refine v_aload_n C dL_law_1117 rfl rfl 1 rfl ?_
  refine v_aload_n C dL_law_1118 rfl rfl 0 rfl ?_
  refine v_iload_n C dL_law_1119 rfl rfl 3 rfl ?_
  refine v_iconst C dL_law_1120 rfl ic_1 ?_
  refine v_iadd C dL_law_1121 rfl ?_
  refine v_sld C S (by rw [show nI i + 1 = nI (i + 1) from nI_addc i 1]; exact inb_nI (by omega) (by omega)) dL_law_1122 rfl ?_
  refine v_aload_n C dL_law_1123 rfl rfl 0 rfl ?_
  refine v_iload_n C dL_law_1124 rfl rfl 3 rfl ?_
  refine v_iconst C dL_law_1125 rfl ic_2 ?_
  refine v_iadd C dL_law_1126 rfl ?_
  refine v_sld C S (by rw [show nI i + 2 = nI (i + 2) from nI_addc i 2]; exact inb_nI (by omega) (by omega)) dL_law_1127 rfl ?_
  refine v_aload_n C dL_law_1128 rfl rfl 0 rfl ?_
  refine v_iload_n C dL_law_1129 rfl rfl 3 rfl ?_
  refine v_iconst C dL_law_1130 rfl ic_3 ?_
  refine v_iadd C dL_law_1131 rfl ?_
  refine v_sld C S (by rw [show nI i + 3 = nI (i + 3) from nI_addc i 3]; exact inb_nI (by omega) (by omega)) dL_law_1132 rfl ?_
  refine v_callVi C yv_X8_sheet m_742 (a8_sheet e8) (Sub.left (hDD _ _)) ⟨0, _, _, _, _, wd_left (wd_at sk_0), rfl⟩ (As := [.int (xs (Int32.toNatClampNeg (nI i + 1))), .int (xs (Int32.toNatClampNeg (nI i + 2))), .int (xs (Int32.toNatClampNeg (nI i + 3)))]) rfl rfl (Nat.le_of_ble_eq_true rfl) ⟨Nat.le_of_ble_eq_true rfl, Nat.le_of_ble_eq_true rfl⟩ dL_law_1133 rfl ?_
  refine v_aload_n C dL_law_1136 rfl rfl 2 rfl ?_
  refine v_aload_n C dL_law_1137 rfl rfl 0 rfl ?_
  refine v_iload_n C dL_law_1138 rfl rfl 3 rfl ?_
  refine v_iconst C dL_law_1139 rfl ic_1 ?_
  refine v_iadd C dL_law_1140 rfl ?_
  refine v_sld C S (by rw [show nI i + 1 = nI (i + 1) from nI_addc i 1]; exact inb_nI (by omega) (by omega)) dL_law_1141 rfl ?_
  refine v_aload_n C dL_law_1142 rfl rfl 0 rfl ?_
  refine v_iload_n C dL_law_1143 rfl rfl 3 rfl ?_
  refine v_iconst C dL_law_1144 rfl ic_2 ?_
  refine v_iadd C dL_law_1145 rfl ?_
  refine v_sld C S (by rw [show nI i + 2 = nI (i + 2) from nI_addc i 2]; exact inb_nI (by omega) (by omega)) dL_law_1146 rfl ?_
  refine v_aload_n C dL_law_1147 rfl rfl 0 rfl ?_
  refine v_iload_n C dL_law_1148 rfl rfl 3 rfl ?_
  refine v_iconst C dL_law_1149 rfl ic_3 ?_
  refine v_iadd C dL_law_1150 rfl ?_
  refine v_sld C S (by rw [show nI i + 3 = nI (i + 3) from nI_addc i 3]; exact inb_nI (by omega) (by omega)) dL_law_1151 rfl ?_
  refine v_callVi C yv_X9_sheet m_1296 (a9_sheet e9) (Sub.right (hDD _ _)) ⟨76, _, _, _, _, wd_right (wd_at sr_0), rfl⟩ (As := [.int (xs (Int32.toNatClampNeg (nI i + 1))), .int (xs (Int32.toNatClampNeg (nI i + 2))), .int (xs (Int32.toNatClampNeg (nI i + 3)))]) rfl rfl (Nat.le_of_ble_eq_true rfl) ⟨Nat.le_of_ble_eq_true rfl, Nat.le_of_ble_eq_true rfl⟩ dL_law_1152 rfl ?_
  exact v_icmp_eq C dL_law_1155 (tgt := 1549) (by decide) rfl (fun _ => kk K' R' hrel') (fun c => absurd rfl c)
set_option maxRecDepth 100000 in
set_option maxHeartbeats 4000000 in
theorem lc_mark {G : Ctx} {Rel : Mem → Mem → Prop} {b N i : Nat} {xs : Nat → Int32} {aK aR : Nat → Nat} (C : Cx G RL cL_law 4 136 3501) (S : Scr G b N xs) (hN : N ≤ 3072) (hDD : ∀ K R, va_D (gA G) (wd (gC G) aK K 0 shsK ++ wd (gC G) aR R 0 shsR)) (hsim : Sim3 Rel A8_mark A9_mark) (hi : i + 6 ≤ N) {K R : Mem} (hrel : Rel K R) (kk : ∀ K' R', Rel K' R' → V G 4 (wd (gC G) aK K' 0 shsK ++ wd (gC G) aR R' 0 shsR) 1549 [(0, .ref b), (1, .ref (aK 0)), (2, .ref (aR 0)), (3, .int (nI i))] []) : V G 4 (wd (gC G) aK K 0 shsK ++ wd (gC G) aR R 0 shsR) 1160 [(0, .ref b), (1, .ref (aK 0)), (2, .ref (aR 0)), (3, .int (nI i))] [] := by
  obtain ⟨r, K', R', e8, e9, hrel'⟩ := hsim (xs (Int32.toNatClampNeg (nI i + 1))) (xs (Int32.toNatClampNeg (nI i + 2))) (xs (Int32.toNatClampNeg (nI i + 3))) K R hrel
  refine v_aload_n C dL_law_1160 rfl rfl 1 rfl ?_
  refine v_aload_n C dL_law_1161 rfl rfl 0 rfl ?_
  refine v_iload_n C dL_law_1162 rfl rfl 3 rfl ?_
  refine v_iconst C dL_law_1163 rfl ic_1 ?_
  refine v_iadd C dL_law_1164 rfl ?_
  refine v_sld C S (by rw [show nI i + 1 = nI (i + 1) from nI_addc i 1]; exact inb_nI (by omega) (by omega)) dL_law_1165 rfl ?_
  refine v_aload_n C dL_law_1166 rfl rfl 0 rfl ?_
  refine v_iload_n C dL_law_1167 rfl rfl 3 rfl ?_
  refine v_iconst C dL_law_1168 rfl ic_2 ?_
  refine v_iadd C dL_law_1169 rfl ?_
  refine v_sld C S (by rw [show nI i + 2 = nI (i + 2) from nI_addc i 2]; exact inb_nI (by omega) (by omega)) dL_law_1170 rfl ?_
  refine v_aload_n C dL_law_1171 rfl rfl 0 rfl ?_
  refine v_iload_n C dL_law_1172 rfl rfl 3 rfl ?_
  refine v_iconst C dL_law_1173 rfl ic_3 ?_
  refine v_iadd C dL_law_1174 rfl ?_
  refine v_sld C S (by rw [show nI i + 3 = nI (i + 3) from nI_addc i 3]; exact inb_nI (by omega) (by omega)) dL_law_1175 rfl ?_
  refine v_callVi C yv_X8_mark m_751 (a8_mark e8) (Sub.left (hDD _ _)) ⟨0, _, _, _, _, wd_left (wd_at sk_0), rfl⟩ (As := [.int (xs (Int32.toNatClampNeg (nI i + 1))), .int (xs (Int32.toNatClampNeg (nI i + 2))), .int (xs (Int32.toNatClampNeg (nI i + 3)))]) rfl rfl (Nat.le_of_ble_eq_true rfl) ⟨Nat.le_of_ble_eq_true rfl, Nat.le_of_ble_eq_true rfl⟩ dL_law_1176 rfl ?_
  refine v_aload_n C dL_law_1179 rfl rfl 2 rfl ?_
  refine v_aload_n C dL_law_1180 rfl rfl 0 rfl ?_
  refine v_iload_n C dL_law_1181 rfl rfl 3 rfl ?_
  refine v_iconst C dL_law_1182 rfl ic_1 ?_
  refine v_iadd C dL_law_1183 rfl ?_
  refine v_sld C S (by rw [show nI i + 1 = nI (i + 1) from nI_addc i 1]; exact inb_nI (by omega) (by omega)) dL_law_1184 rfl ?_
  refine v_aload_n C dL_law_1185 rfl rfl 0 rfl ?_
  refine v_iload_n C dL_law_1186 rfl rfl 3 rfl ?_
  refine v_iconst C dL_law_1187 rfl ic_2 ?_
  refine v_iadd C dL_law_1188 rfl ?_
  refine v_sld C S (by rw [show nI i + 2 = nI (i + 2) from nI_addc i 2]; exact inb_nI (by omega) (by omega)) dL_law_1189 rfl ?_
  refine v_aload_n C dL_law_1190 rfl rfl 0 rfl ?_
  refine v_iload_n C dL_law_1191 rfl rfl 3 rfl ?_
  refine v_iconst C dL_law_1192 rfl ic_3 ?_
  refine v_iadd C dL_law_1193 rfl ?_
  refine v_sld C S (by rw [show nI i + 3 = nI (i + 3) from nI_addc i 3]; exact inb_nI (by omega) (by omega)) dL_law_1194 rfl ?_
  refine v_callVi C yv_X9_mark m_1306 (a9_mark e9) (Sub.right (hDD _ _)) ⟨76, _, _, _, _, wd_right (wd_at sr_0), rfl⟩ (As := [.int (xs (Int32.toNatClampNeg (nI i + 1))), .int (xs (Int32.toNatClampNeg (nI i + 2))), .int (xs (Int32.toNatClampNeg (nI i + 3)))]) rfl rfl (Nat.le_of_ble_eq_true rfl) ⟨Nat.le_of_ble_eq_true rfl, Nat.le_of_ble_eq_true rfl⟩ dL_law_1195 rfl ?_
  exact v_icmp_eq C dL_law_1198 (tgt := 1549) (by decide) rfl (fun _ => kk K' R' hrel') (fun c => absurd rfl c)
set_option maxRecDepth 100000 in
set_option maxHeartbeats 4000000 in
theorem lc_pour {G : Ctx} {Rel : Mem → Mem → Prop} {b N i : Nat} {xs : Nat → Int32} {aK aR : Nat → Nat} (C : Cx G RL cL_law 4 136 3501) (S : Scr G b N xs) (hN : N ≤ 3072) (hDD : ∀ K R, va_D (gA G) (wd (gC G) aK K 0 shsK ++ wd (gC G) aR R 0 shsR)) (hsim : Sim1 Rel A8_pour A9_pour) (hi : i + 6 ≤ N) {K R : Mem} (hrel : Rel K R) (kk : ∀ K' R', Rel K' R' → V G 4 (wd (gC G) aK K' 0 shsK ++ wd (gC G) aR R' 0 shsR) 1549 [(0, .ref b), (1, .ref (aK 0)), (2, .ref (aR 0)), (3, .int (nI i))] []) : V G 4 (wd (gC G) aK K 0 shsK ++ wd (gC G) aR R 0 shsR) 1203 [(0, .ref b), (1, .ref (aK 0)), (2, .ref (aR 0)), (3, .int (nI i))] [] := by
  obtain ⟨r, K', R', e8, e9, hrel'⟩ := hsim (xs (Int32.toNatClampNeg (nI i + 1))) K R hrel
  refine v_aload_n C dL_law_1203 rfl rfl 1 rfl ?_
  refine v_aload_n C dL_law_1204 rfl rfl 0 rfl ?_
  refine v_iload_n C dL_law_1205 rfl rfl 3 rfl ?_
  refine v_iconst C dL_law_1206 rfl ic_1 ?_
  refine v_iadd C dL_law_1207 rfl ?_
  refine v_sld C S (by rw [show nI i + 1 = nI (i + 1) from nI_addc i 1]; exact inb_nI (by omega) (by omega)) dL_law_1208 rfl ?_
  refine v_callVi C yv_X8_pour m_759 (a8_pour e8) (Sub.left (hDD _ _)) ⟨0, _, _, _, _, wd_left (wd_at sk_0), rfl⟩ (As := [.int (xs (Int32.toNatClampNeg (nI i + 1)))]) rfl rfl (Nat.le_of_ble_eq_true rfl) ⟨Nat.le_of_ble_eq_true rfl, Nat.le_of_ble_eq_true rfl⟩ dL_law_1209 rfl ?_
  refine v_aload_n C dL_law_1212 rfl rfl 2 rfl ?_
  refine v_aload_n C dL_law_1213 rfl rfl 0 rfl ?_
  refine v_iload_n C dL_law_1214 rfl rfl 3 rfl ?_
  refine v_iconst C dL_law_1215 rfl ic_1 ?_
  refine v_iadd C dL_law_1216 rfl ?_
  refine v_sld C S (by rw [show nI i + 1 = nI (i + 1) from nI_addc i 1]; exact inb_nI (by omega) (by omega)) dL_law_1217 rfl ?_
  refine v_callVi C yv_X9_pour m_1314 (a9_pour e9) (Sub.right (hDD _ _)) ⟨76, _, _, _, _, wd_right (wd_at sr_0), rfl⟩ (As := [.int (xs (Int32.toNatClampNeg (nI i + 1)))]) rfl rfl (Nat.le_of_ble_eq_true rfl) ⟨Nat.le_of_ble_eq_true rfl, Nat.le_of_ble_eq_true rfl⟩ dL_law_1218 rfl ?_
  exact v_icmp_eq C dL_law_1221 (tgt := 1549) (by decide) rfl (fun _ => kk K' R' hrel') (fun c => absurd rfl c)
set_option maxRecDepth 100000 in
set_option maxHeartbeats 4000000 in
theorem lc_reads {G : Ctx} {Rel : Mem → Mem → Prop} {b N i : Nat} {xs : Nat → Int32} {aK aR : Nat → Nat} (C : Cx G RL cL_law 4 136 3501) (S : Scr G b N xs) (hN : N ≤ 3072) (hDD : ∀ K R, va_D (gA G) (wd (gC G) aK K 0 shsK ++ wd (gC G) aR R 0 shsR)) (hsim : Sim1 Rel A8_reads A9_reads) (hi : i + 6 ≤ N) {K R : Mem} (hrel : Rel K R) (kk : ∀ K' R', Rel K' R' → V G 4 (wd (gC G) aK K' 0 shsK ++ wd (gC G) aR R' 0 shsR) 1549 [(0, .ref b), (1, .ref (aK 0)), (2, .ref (aR 0)), (3, .int (nI i))] []) : V G 4 (wd (gC G) aK K 0 shsK ++ wd (gC G) aR R 0 shsR) 1226 [(0, .ref b), (1, .ref (aK 0)), (2, .ref (aR 0)), (3, .int (nI i))] [] := by
  obtain ⟨r, K', R', e8, e9, hrel'⟩ := hsim (xs (Int32.toNatClampNeg (nI i + 1))) K R hrel
  refine v_aload_n C dL_law_1226 rfl rfl 1 rfl ?_
  refine v_aload_n C dL_law_1227 rfl rfl 0 rfl ?_
  refine v_iload_n C dL_law_1228 rfl rfl 3 rfl ?_
  refine v_iconst C dL_law_1229 rfl ic_1 ?_
  refine v_iadd C dL_law_1230 rfl ?_
  refine v_sld C S (by rw [show nI i + 1 = nI (i + 1) from nI_addc i 1]; exact inb_nI (by omega) (by omega)) dL_law_1231 rfl ?_
  refine v_callVi C yv_X8_reads m_764 (a8_reads e8) (Sub.left (hDD _ _)) ⟨0, _, _, _, _, wd_left (wd_at sk_0), rfl⟩ (As := [.int (xs (Int32.toNatClampNeg (nI i + 1)))]) rfl rfl (Nat.le_of_ble_eq_true rfl) ⟨Nat.le_of_ble_eq_true rfl, Nat.le_of_ble_eq_true rfl⟩ dL_law_1232 rfl ?_
  refine v_aload_n C dL_law_1235 rfl rfl 2 rfl ?_
  refine v_aload_n C dL_law_1236 rfl rfl 0 rfl ?_
  refine v_iload_n C dL_law_1237 rfl rfl 3 rfl ?_
  refine v_iconst C dL_law_1238 rfl ic_1 ?_
  refine v_iadd C dL_law_1239 rfl ?_
  refine v_sld C S (by rw [show nI i + 1 = nI (i + 1) from nI_addc i 1]; exact inb_nI (by omega) (by omega)) dL_law_1240 rfl ?_
  refine v_callVi C yv_X9_reads m_1318 (a9_reads e9) (Sub.right (hDD _ _)) ⟨76, _, _, _, _, wd_right (wd_at sr_0), rfl⟩ (As := [.int (xs (Int32.toNatClampNeg (nI i + 1)))]) rfl rfl (Nat.le_of_ble_eq_true rfl) ⟨Nat.le_of_ble_eq_true rfl, Nat.le_of_ble_eq_true rfl⟩ dL_law_1241 rfl ?_
  exact v_icmp_eq C dL_law_1244 (tgt := 1549) (by decide) rfl (fun _ => kk K' R' hrel') (fun c => absurd rfl c)
set_option maxRecDepth 100000 in
set_option maxHeartbeats 4000000 in
theorem lc_copy {G : Ctx} {Rel : Mem → Mem → Prop} {b N i : Nat} {xs : Nat → Int32} {aK aR : Nat → Nat} (C : Cx G RL cL_law 4 136 3501) (S : Scr G b N xs) (hN : N ≤ 3072) (hDD : ∀ K R, va_D (gA G) (wd (gC G) aK K 0 shsK ++ wd (gC G) aR R 0 shsR)) (hsim : Sim5 Rel A8_copy A9_copy) (hi : i + 6 ≤ N) {K R : Mem} (hrel : Rel K R) (kk : ∀ K' R', Rel K' R' → V G 4 (wd (gC G) aK K' 0 shsK ++ wd (gC G) aR R' 0 shsR) 1549 [(0, .ref b), (1, .ref (aK 0)), (2, .ref (aR 0)), (3, .int (nI i))] []) : V G 4 (wd (gC G) aK K 0 shsK ++ wd (gC G) aR R 0 shsR) 1249 [(0, .ref b), (1, .ref (aK 0)), (2, .ref (aR 0)), (3, .int (nI i))] [] := by
  obtain ⟨r, K', R', e8, e9, hrel'⟩ := hsim (xs (Int32.toNatClampNeg (nI i + 1))) (xs (Int32.toNatClampNeg (nI i + 2))) (xs (Int32.toNatClampNeg (nI i + 3))) (xs (Int32.toNatClampNeg (nI i + 4))) (xs (Int32.toNatClampNeg (nI i + 5))) K R hrel
  refine v_aload_n C dL_law_1249 rfl rfl 1 rfl ?_
  refine v_aload_n C dL_law_1250 rfl rfl 0 rfl ?_
  refine v_iload_n C dL_law_1251 rfl rfl 3 rfl ?_
  refine v_iconst C dL_law_1252 rfl ic_1 ?_
  refine v_iadd C dL_law_1253 rfl ?_
  refine v_sld C S (by rw [show nI i + 1 = nI (i + 1) from nI_addc i 1]; exact inb_nI (by omega) (by omega)) dL_law_1254 rfl ?_
  refine v_aload_n C dL_law_1255 rfl rfl 0 rfl ?_
  refine v_iload_n C dL_law_1256 rfl rfl 3 rfl ?_
  refine v_iconst C dL_law_1257 rfl ic_2 ?_
  refine v_iadd C dL_law_1258 rfl ?_
  refine v_sld C S (by rw [show nI i + 2 = nI (i + 2) from nI_addc i 2]; exact inb_nI (by omega) (by omega)) dL_law_1259 rfl ?_
  refine v_aload_n C dL_law_1260 rfl rfl 0 rfl ?_
  refine v_iload_n C dL_law_1261 rfl rfl 3 rfl ?_
  refine v_iconst C dL_law_1262 rfl ic_3 ?_
  refine v_iadd C dL_law_1263 rfl ?_
  refine v_sld C S (by rw [show nI i + 3 = nI (i + 3) from nI_addc i 3]; exact inb_nI (by omega) (by omega)) dL_law_1264 rfl ?_
  refine v_aload_n C dL_law_1265 rfl rfl 0 rfl ?_
  refine v_iload_n C dL_law_1266 rfl rfl 3 rfl ?_
  refine v_iconst C dL_law_1267 rfl ic_4 ?_
  refine v_iadd C dL_law_1268 rfl ?_
  refine v_sld C S (by rw [show nI i + 4 = nI (i + 4) from nI_addc i 4]; exact inb_nI (by omega) (by omega)) dL_law_1269 rfl ?_
  refine v_aload_n C dL_law_1270 rfl rfl 0 rfl ?_
  refine v_iload_n C dL_law_1271 rfl rfl 3 rfl ?_
  refine v_iconst C dL_law_1272 rfl ic_5 ?_
  refine v_iadd C dL_law_1273 rfl ?_
  refine v_sld C S (by rw [show nI i + 5 = nI (i + 5) from nI_addc i 5]; exact inb_nI (by omega) (by omega)) dL_law_1274 rfl ?_
  refine v_callVi C yv_X8_copy m_768 (a8_copy e8) (Sub.left (hDD _ _)) ⟨0, _, _, _, _, wd_left (wd_at sk_0), rfl⟩ (As := [.int (xs (Int32.toNatClampNeg (nI i + 1))), .int (xs (Int32.toNatClampNeg (nI i + 2))), .int (xs (Int32.toNatClampNeg (nI i + 3))), .int (xs (Int32.toNatClampNeg (nI i + 4))), .int (xs (Int32.toNatClampNeg (nI i + 5)))]) rfl rfl (Nat.le_of_ble_eq_true rfl) ⟨Nat.le_of_ble_eq_true rfl, Nat.le_of_ble_eq_true rfl⟩ dL_law_1275 rfl ?_
  refine v_aload_n C dL_law_1278 rfl rfl 2 rfl ?_
  refine v_aload_n C dL_law_1279 rfl rfl 0 rfl ?_
  refine v_iload_n C dL_law_1280 rfl rfl 3 rfl ?_
  refine v_iconst C dL_law_1281 rfl ic_1 ?_
  refine v_iadd C dL_law_1282 rfl ?_
  refine v_sld C S (by rw [show nI i + 1 = nI (i + 1) from nI_addc i 1]; exact inb_nI (by omega) (by omega)) dL_law_1283 rfl ?_
  refine v_aload_n C dL_law_1284 rfl rfl 0 rfl ?_
  refine v_iload_n C dL_law_1285 rfl rfl 3 rfl ?_
  refine v_iconst C dL_law_1286 rfl ic_2 ?_
  refine v_iadd C dL_law_1287 rfl ?_
  refine v_sld C S (by rw [show nI i + 2 = nI (i + 2) from nI_addc i 2]; exact inb_nI (by omega) (by omega)) dL_law_1288 rfl ?_
  refine v_aload_n C dL_law_1289 rfl rfl 0 rfl ?_
  refine v_iload_n C dL_law_1290 rfl rfl 3 rfl ?_
  refine v_iconst C dL_law_1291 rfl ic_3 ?_
  refine v_iadd C dL_law_1292 rfl ?_
  refine v_sld C S (by rw [show nI i + 3 = nI (i + 3) from nI_addc i 3]; exact inb_nI (by omega) (by omega)) dL_law_1293 rfl ?_
  refine v_aload_n C dL_law_1294 rfl rfl 0 rfl ?_
  refine v_iload_n C dL_law_1295 rfl rfl 3 rfl ?_
  refine v_iconst C dL_law_1296 rfl ic_4 ?_
  refine v_iadd C dL_law_1297 rfl ?_
  refine v_sld C S (by rw [show nI i + 4 = nI (i + 4) from nI_addc i 4]; exact inb_nI (by omega) (by omega)) dL_law_1298 rfl ?_
  refine v_aload_n C dL_law_1299 rfl rfl 0 rfl ?_
  refine v_iload_n C dL_law_1300 rfl rfl 3 rfl ?_
  refine v_iconst C dL_law_1301 rfl ic_5 ?_
  refine v_iadd C dL_law_1302 rfl ?_
  refine v_sld C S (by rw [show nI i + 5 = nI (i + 5) from nI_addc i 5]; exact inb_nI (by omega) (by omega)) dL_law_1303 rfl ?_
  refine v_callVi C yv_X9_copy m_1333 (a9_copy e9) (Sub.right (hDD _ _)) ⟨76, _, _, _, _, wd_right (wd_at sr_0), rfl⟩ (As := [.int (xs (Int32.toNatClampNeg (nI i + 1))), .int (xs (Int32.toNatClampNeg (nI i + 2))), .int (xs (Int32.toNatClampNeg (nI i + 3))), .int (xs (Int32.toNatClampNeg (nI i + 4))), .int (xs (Int32.toNatClampNeg (nI i + 5)))]) rfl rfl (Nat.le_of_ble_eq_true rfl) ⟨Nat.le_of_ble_eq_true rfl, Nat.le_of_ble_eq_true rfl⟩ dL_law_1304 rfl ?_
  exact v_icmp_eq C dL_law_1307 (tgt := 1549) (by decide) rfl (fun _ => kk K' R' hrel') (fun c => absurd rfl c)
set_option maxRecDepth 100000 in
set_option maxHeartbeats 4000000 in
theorem lc_lay {G : Ctx} {Rel : Mem → Mem → Prop} {b N i : Nat} {xs : Nat → Int32} {aK aR : Nat → Nat} (C : Cx G RL cL_law 4 136 3501) (S : Scr G b N xs) (hN : N ≤ 3072) (hDD : ∀ K R, va_D (gA G) (wd (gC G) aK K 0 shsK ++ wd (gC G) aR R 0 shsR)) (hsim : Sim3 Rel A8_lay A9_lay) (hi : i + 6 ≤ N) {K R : Mem} (hrel : Rel K R) (kk : ∀ K' R', Rel K' R' → V G 4 (wd (gC G) aK K' 0 shsK ++ wd (gC G) aR R' 0 shsR) 1549 [(0, .ref b), (1, .ref (aK 0)), (2, .ref (aR 0)), (3, .int (nI i))] []) : V G 4 (wd (gC G) aK K 0 shsK ++ wd (gC G) aR R 0 shsR) 1312 [(0, .ref b), (1, .ref (aK 0)), (2, .ref (aR 0)), (3, .int (nI i))] [] := by
  obtain ⟨r, K', R', e8, e9, hrel'⟩ := hsim (xs (Int32.toNatClampNeg (nI i + 1))) (xs (Int32.toNatClampNeg (nI i + 2))) (xs (Int32.toNatClampNeg (nI i + 3))) K R hrel
  refine v_aload_n C dL_law_1312 rfl rfl 1 rfl ?_
  refine v_aload_n C dL_law_1313 rfl rfl 0 rfl ?_
  refine v_iload_n C dL_law_1314 rfl rfl 3 rfl ?_
  refine v_iconst C dL_law_1315 rfl ic_1 ?_
  refine v_iadd C dL_law_1316 rfl ?_
  refine v_sld C S (by rw [show nI i + 1 = nI (i + 1) from nI_addc i 1]; exact inb_nI (by omega) (by omega)) dL_law_1317 rfl ?_
  refine v_aload_n C dL_law_1318 rfl rfl 0 rfl ?_
  refine v_iload_n C dL_law_1319 rfl rfl 3 rfl ?_
  refine v_iconst C dL_law_1320 rfl ic_2 ?_
  refine v_iadd C dL_law_1321 rfl ?_
  refine v_sld C S (by rw [show nI i + 2 = nI (i + 2) from nI_addc i 2]; exact inb_nI (by omega) (by omega)) dL_law_1322 rfl ?_
  refine v_aload_n C dL_law_1323 rfl rfl 0 rfl ?_
  refine v_iload_n C dL_law_1324 rfl rfl 3 rfl ?_
  refine v_iconst C dL_law_1325 rfl ic_3 ?_
  refine v_iadd C dL_law_1326 rfl ?_
  refine v_sld C S (by rw [show nI i + 3 = nI (i + 3) from nI_addc i 3]; exact inb_nI (by omega) (by omega)) dL_law_1327 rfl ?_
  refine v_callVi C yv_X8_lay m_777 (a8_lay e8) (Sub.left (hDD _ _)) ⟨0, _, _, _, _, wd_left (wd_at sk_0), rfl⟩ (As := [.int (xs (Int32.toNatClampNeg (nI i + 1))), .int (xs (Int32.toNatClampNeg (nI i + 2))), .int (xs (Int32.toNatClampNeg (nI i + 3)))]) rfl rfl (Nat.le_of_ble_eq_true rfl) ⟨Nat.le_of_ble_eq_true rfl, Nat.le_of_ble_eq_true rfl⟩ dL_law_1328 rfl ?_
  refine v_aload_n C dL_law_1331 rfl rfl 2 rfl ?_
  refine v_aload_n C dL_law_1332 rfl rfl 0 rfl ?_
  refine v_iload_n C dL_law_1333 rfl rfl 3 rfl ?_
  refine v_iconst C dL_law_1334 rfl ic_1 ?_
  refine v_iadd C dL_law_1335 rfl ?_
  refine v_sld C S (by rw [show nI i + 1 = nI (i + 1) from nI_addc i 1]; exact inb_nI (by omega) (by omega)) dL_law_1336 rfl ?_
  refine v_aload_n C dL_law_1337 rfl rfl 0 rfl ?_
  refine v_iload_n C dL_law_1338 rfl rfl 3 rfl ?_
  refine v_iconst C dL_law_1339 rfl ic_2 ?_
  refine v_iadd C dL_law_1340 rfl ?_
  refine v_sld C S (by rw [show nI i + 2 = nI (i + 2) from nI_addc i 2]; exact inb_nI (by omega) (by omega)) dL_law_1341 rfl ?_
  refine v_aload_n C dL_law_1342 rfl rfl 0 rfl ?_
  refine v_iload_n C dL_law_1343 rfl rfl 3 rfl ?_
  refine v_iconst C dL_law_1344 rfl ic_3 ?_
  refine v_iadd C dL_law_1345 rfl ?_
  refine v_sld C S (by rw [show nI i + 3 = nI (i + 3) from nI_addc i 3]; exact inb_nI (by omega) (by omega)) dL_law_1346 rfl ?_
  refine v_callVi C yv_X9_lay m_1337 (a9_lay e9) (Sub.right (hDD _ _)) ⟨76, _, _, _, _, wd_right (wd_at sr_0), rfl⟩ (As := [.int (xs (Int32.toNatClampNeg (nI i + 1))), .int (xs (Int32.toNatClampNeg (nI i + 2))), .int (xs (Int32.toNatClampNeg (nI i + 3)))]) rfl rfl (Nat.le_of_ble_eq_true rfl) ⟨Nat.le_of_ble_eq_true rfl, Nat.le_of_ble_eq_true rfl⟩ dL_law_1347 rfl ?_
  exact v_icmp_eq C dL_law_1350 (tgt := 1549) (by decide) rfl (fun _ => kk K' R' hrel') (fun c => absurd rfl c)
set_option maxRecDepth 100000 in
set_option maxHeartbeats 4000000 in
theorem lc_ask {G : Ctx} {Rel : Mem → Mem → Prop} {b N i : Nat} {xs : Nat → Int32} {aK aR : Nat → Nat} (C : Cx G RL cL_law 4 136 3501) (S : Scr G b N xs) (hN : N ≤ 3072) (hDD : ∀ K R, va_D (gA G) (wd (gC G) aK K 0 shsK ++ wd (gC G) aR R 0 shsR)) (hsim : Sim2 Rel A8_ask A9_ask) (hi : i + 6 ≤ N) {K R : Mem} (hrel : Rel K R) (kk : ∀ K' R', Rel K' R' → V G 4 (wd (gC G) aK K' 0 shsK ++ wd (gC G) aR R' 0 shsR) 1549 [(0, .ref b), (1, .ref (aK 0)), (2, .ref (aR 0)), (3, .int (nI i))] []) : V G 4 (wd (gC G) aK K 0 shsK ++ wd (gC G) aR R 0 shsR) 1355 [(0, .ref b), (1, .ref (aK 0)), (2, .ref (aR 0)), (3, .int (nI i))] [] := by
  obtain ⟨r, K', R', e8, e9, hrel'⟩ := hsim (xs (Int32.toNatClampNeg (nI i + 1))) (xs (Int32.toNatClampNeg (nI i + 2))) K R hrel
  refine v_aload_n C dL_law_1355 rfl rfl 1 rfl ?_
  refine v_aload_n C dL_law_1356 rfl rfl 0 rfl ?_
  refine v_iload_n C dL_law_1357 rfl rfl 3 rfl ?_
  refine v_iconst C dL_law_1358 rfl ic_1 ?_
  refine v_iadd C dL_law_1359 rfl ?_
  refine v_sld C S (by rw [show nI i + 1 = nI (i + 1) from nI_addc i 1]; exact inb_nI (by omega) (by omega)) dL_law_1360 rfl ?_
  refine v_aload_n C dL_law_1361 rfl rfl 0 rfl ?_
  refine v_iload_n C dL_law_1362 rfl rfl 3 rfl ?_
  refine v_iconst C dL_law_1363 rfl ic_2 ?_
  refine v_iadd C dL_law_1364 rfl ?_
  refine v_sld C S (by rw [show nI i + 2 = nI (i + 2) from nI_addc i 2]; exact inb_nI (by omega) (by omega)) dL_law_1365 rfl ?_
  refine v_callVi C yv_X8_ask m_802 (a8_ask e8) (Sub.left (hDD _ _)) ⟨0, _, _, _, _, wd_left (wd_at sk_0), rfl⟩ (As := [.int (xs (Int32.toNatClampNeg (nI i + 1))), .int (xs (Int32.toNatClampNeg (nI i + 2)))]) rfl rfl (Nat.le_of_ble_eq_true rfl) ⟨Nat.le_of_ble_eq_true rfl, Nat.le_of_ble_eq_true rfl⟩ dL_law_1366 rfl ?_
  refine v_aload_n C dL_law_1369 rfl rfl 2 rfl ?_
  refine v_aload_n C dL_law_1370 rfl rfl 0 rfl ?_
  refine v_iload_n C dL_law_1371 rfl rfl 3 rfl ?_
  refine v_iconst C dL_law_1372 rfl ic_1 ?_
  refine v_iadd C dL_law_1373 rfl ?_
  refine v_sld C S (by rw [show nI i + 1 = nI (i + 1) from nI_addc i 1]; exact inb_nI (by omega) (by omega)) dL_law_1374 rfl ?_
  refine v_aload_n C dL_law_1375 rfl rfl 0 rfl ?_
  refine v_iload_n C dL_law_1376 rfl rfl 3 rfl ?_
  refine v_iconst C dL_law_1377 rfl ic_2 ?_
  refine v_iadd C dL_law_1378 rfl ?_
  refine v_sld C S (by rw [show nI i + 2 = nI (i + 2) from nI_addc i 2]; exact inb_nI (by omega) (by omega)) dL_law_1379 rfl ?_
  refine v_callVi C yv_X9_ask m_1344 (a9_ask e9) (Sub.right (hDD _ _)) ⟨76, _, _, _, _, wd_right (wd_at sr_0), rfl⟩ (As := [.int (xs (Int32.toNatClampNeg (nI i + 1))), .int (xs (Int32.toNatClampNeg (nI i + 2)))]) rfl rfl (Nat.le_of_ble_eq_true rfl) ⟨Nat.le_of_ble_eq_true rfl, Nat.le_of_ble_eq_true rfl⟩ dL_law_1380 rfl ?_
  exact v_icmp_eq C dL_law_1383 (tgt := 1549) (by decide) rfl (fun _ => kk K' R' hrel') (fun c => absurd rfl c)
set_option maxRecDepth 100000 in
set_option maxHeartbeats 4000000 in
theorem lc_item {G : Ctx} {Rel : Mem → Mem → Prop} {b N i : Nat} {xs : Nat → Int32} {aK aR : Nat → Nat} (C : Cx G RL cL_law 4 136 3501) (S : Scr G b N xs) (hN : N ≤ 3072) (hDD : ∀ K R, va_D (gA G) (wd (gC G) aK K 0 shsK ++ wd (gC G) aR R 0 shsR)) (hsim : Sim2 Rel A8_item A9_item) (hi : i + 6 ≤ N) {K R : Mem} (hrel : Rel K R) (kk : ∀ K' R', Rel K' R' → V G 4 (wd (gC G) aK K' 0 shsK ++ wd (gC G) aR R' 0 shsR) 1549 [(0, .ref b), (1, .ref (aK 0)), (2, .ref (aR 0)), (3, .int (nI i))] []) : V G 4 (wd (gC G) aK K 0 shsK ++ wd (gC G) aR R 0 shsR) 1388 [(0, .ref b), (1, .ref (aK 0)), (2, .ref (aR 0)), (3, .int (nI i))] [] := by
  obtain ⟨r, K', R', e8, e9, hrel'⟩ := hsim (xs (Int32.toNatClampNeg (nI i + 1))) (xs (Int32.toNatClampNeg (nI i + 2))) K R hrel
  refine v_aload_n C dL_law_1388 rfl rfl 1 rfl ?_
  refine v_aload_n C dL_law_1389 rfl rfl 0 rfl ?_
  refine v_iload_n C dL_law_1390 rfl rfl 3 rfl ?_
  refine v_iconst C dL_law_1391 rfl ic_1 ?_
  refine v_iadd C dL_law_1392 rfl ?_
  refine v_sld C S (by rw [show nI i + 1 = nI (i + 1) from nI_addc i 1]; exact inb_nI (by omega) (by omega)) dL_law_1393 rfl ?_
  refine v_aload_n C dL_law_1394 rfl rfl 0 rfl ?_
  refine v_iload_n C dL_law_1395 rfl rfl 3 rfl ?_
  refine v_iconst C dL_law_1396 rfl ic_2 ?_
  refine v_iadd C dL_law_1397 rfl ?_
  refine v_sld C S (by rw [show nI i + 2 = nI (i + 2) from nI_addc i 2]; exact inb_nI (by omega) (by omega)) dL_law_1398 rfl ?_
  refine v_callVi C yv_X8_item m_806 (a8_item e8) (Sub.left (hDD _ _)) ⟨0, _, _, _, _, wd_left (wd_at sk_0), rfl⟩ (As := [.int (xs (Int32.toNatClampNeg (nI i + 1))), .int (xs (Int32.toNatClampNeg (nI i + 2)))]) rfl rfl (Nat.le_of_ble_eq_true rfl) ⟨Nat.le_of_ble_eq_true rfl, Nat.le_of_ble_eq_true rfl⟩ dL_law_1399 rfl ?_
  refine v_aload_n C dL_law_1402 rfl rfl 2 rfl ?_
  refine v_aload_n C dL_law_1403 rfl rfl 0 rfl ?_
  refine v_iload_n C dL_law_1404 rfl rfl 3 rfl ?_
  refine v_iconst C dL_law_1405 rfl ic_1 ?_
  refine v_iadd C dL_law_1406 rfl ?_
  refine v_sld C S (by rw [show nI i + 1 = nI (i + 1) from nI_addc i 1]; exact inb_nI (by omega) (by omega)) dL_law_1407 rfl ?_
  refine v_aload_n C dL_law_1408 rfl rfl 0 rfl ?_
  refine v_iload_n C dL_law_1409 rfl rfl 3 rfl ?_
  refine v_iconst C dL_law_1410 rfl ic_2 ?_
  refine v_iadd C dL_law_1411 rfl ?_
  refine v_sld C S (by rw [show nI i + 2 = nI (i + 2) from nI_addc i 2]; exact inb_nI (by omega) (by omega)) dL_law_1412 rfl ?_
  refine v_callVi C yv_X9_item m_1348 (a9_item e9) (Sub.right (hDD _ _)) ⟨76, _, _, _, _, wd_right (wd_at sr_0), rfl⟩ (As := [.int (xs (Int32.toNatClampNeg (nI i + 1))), .int (xs (Int32.toNatClampNeg (nI i + 2)))]) rfl rfl (Nat.le_of_ble_eq_true rfl) ⟨Nat.le_of_ble_eq_true rfl, Nat.le_of_ble_eq_true rfl⟩ dL_law_1413 rfl ?_
  exact v_icmp_eq C dL_law_1416 (tgt := 1549) (by decide) rfl (fun _ => kk K' R' hrel') (fun c => absurd rfl c)
set_option maxRecDepth 100000 in
set_option maxHeartbeats 4000000 in
theorem lc_rest {G : Ctx} {Rel : Mem → Mem → Prop} {b N i : Nat} {xs : Nat → Int32} {aK aR : Nat → Nat} (C : Cx G RL cL_law 4 136 3501) (S : Scr G b N xs) (hN : N ≤ 3072) (hDD : ∀ K R, va_D (gA G) (wd (gC G) aK K 0 shsK ++ wd (gC G) aR R 0 shsR)) (hsim : Sim2 Rel A8_rest A9_rest) (hi : i + 6 ≤ N) {K R : Mem} (hrel : Rel K R) (kk : ∀ K' R', Rel K' R' → V G 4 (wd (gC G) aK K' 0 shsK ++ wd (gC G) aR R' 0 shsR) 1549 [(0, .ref b), (1, .ref (aK 0)), (2, .ref (aR 0)), (3, .int (nI i))] []) : V G 4 (wd (gC G) aK K 0 shsK ++ wd (gC G) aR R 0 shsR) 1421 [(0, .ref b), (1, .ref (aK 0)), (2, .ref (aR 0)), (3, .int (nI i))] [] := by
  obtain ⟨r, K', R', e8, e9, hrel'⟩ := hsim (xs (Int32.toNatClampNeg (nI i + 1))) (xs (Int32.toNatClampNeg (nI i + 2))) K R hrel
  refine v_aload_n C dL_law_1421 rfl rfl 1 rfl ?_
  refine v_aload_n C dL_law_1422 rfl rfl 0 rfl ?_
  refine v_iload_n C dL_law_1423 rfl rfl 3 rfl ?_
  refine v_iconst C dL_law_1424 rfl ic_1 ?_
  refine v_iadd C dL_law_1425 rfl ?_
  refine v_sld C S (by rw [show nI i + 1 = nI (i + 1) from nI_addc i 1]; exact inb_nI (by omega) (by omega)) dL_law_1426 rfl ?_
  refine v_aload_n C dL_law_1427 rfl rfl 0 rfl ?_
  refine v_iload_n C dL_law_1428 rfl rfl 3 rfl ?_
  refine v_iconst C dL_law_1429 rfl ic_2 ?_
  refine v_iadd C dL_law_1430 rfl ?_
  refine v_sld C S (by rw [show nI i + 2 = nI (i + 2) from nI_addc i 2]; exact inb_nI (by omega) (by omega)) dL_law_1431 rfl ?_
  refine v_callVi C yv_X8_rest m_810 (a8_rest e8) (Sub.left (hDD _ _)) ⟨0, _, _, _, _, wd_left (wd_at sk_0), rfl⟩ (As := [.int (xs (Int32.toNatClampNeg (nI i + 1))), .int (xs (Int32.toNatClampNeg (nI i + 2)))]) rfl rfl (Nat.le_of_ble_eq_true rfl) ⟨Nat.le_of_ble_eq_true rfl, Nat.le_of_ble_eq_true rfl⟩ dL_law_1432 rfl ?_
  refine v_aload_n C dL_law_1435 rfl rfl 2 rfl ?_
  refine v_aload_n C dL_law_1436 rfl rfl 0 rfl ?_
  refine v_iload_n C dL_law_1437 rfl rfl 3 rfl ?_
  refine v_iconst C dL_law_1438 rfl ic_1 ?_
  refine v_iadd C dL_law_1439 rfl ?_
  refine v_sld C S (by rw [show nI i + 1 = nI (i + 1) from nI_addc i 1]; exact inb_nI (by omega) (by omega)) dL_law_1440 rfl ?_
  refine v_aload_n C dL_law_1441 rfl rfl 0 rfl ?_
  refine v_iload_n C dL_law_1442 rfl rfl 3 rfl ?_
  refine v_iconst C dL_law_1443 rfl ic_2 ?_
  refine v_iadd C dL_law_1444 rfl ?_
  refine v_sld C S (by rw [show nI i + 2 = nI (i + 2) from nI_addc i 2]; exact inb_nI (by omega) (by omega)) dL_law_1445 rfl ?_
  refine v_callVi C yv_X9_rest m_1352 (a9_rest e9) (Sub.right (hDD _ _)) ⟨76, _, _, _, _, wd_right (wd_at sr_0), rfl⟩ (As := [.int (xs (Int32.toNatClampNeg (nI i + 1))), .int (xs (Int32.toNatClampNeg (nI i + 2)))]) rfl rfl (Nat.le_of_ble_eq_true rfl) ⟨Nat.le_of_ble_eq_true rfl, Nat.le_of_ble_eq_true rfl⟩ dL_law_1446 rfl ?_
  exact v_icmp_eq C dL_law_1449 (tgt := 1549) (by decide) rfl (fun _ => kk K' R' hrel') (fun c => absurd rfl c)
set_option maxRecDepth 100000 in
set_option maxHeartbeats 4000000 in
theorem lc_tell {G : Ctx} {Rel : Mem → Mem → Prop} {b N i : Nat} {xs : Nat → Int32} {aK aR : Nat → Nat} (C : Cx G RL cL_law 4 136 3501) (S : Scr G b N xs) (hN : N ≤ 3072) (hDD : ∀ K R, va_D (gA G) (wd (gC G) aK K 0 shsK ++ wd (gC G) aR R 0 shsR)) (hsim : Sim1 Rel A8_tell A9_tell) (hi : i + 6 ≤ N) {K R : Mem} (hrel : Rel K R) (kk : ∀ K' R', Rel K' R' → V G 4 (wd (gC G) aK K' 0 shsK ++ wd (gC G) aR R' 0 shsR) 1549 [(0, .ref b), (1, .ref (aK 0)), (2, .ref (aR 0)), (3, .int (nI i))] []) : V G 4 (wd (gC G) aK K 0 shsK ++ wd (gC G) aR R 0 shsR) 1454 [(0, .ref b), (1, .ref (aK 0)), (2, .ref (aR 0)), (3, .int (nI i))] [] := by
  obtain ⟨r, K', R', e8, e9, hrel'⟩ := hsim (xs (Int32.toNatClampNeg (nI i + 1))) K R hrel
  refine v_aload_n C dL_law_1454 rfl rfl 1 rfl ?_
  refine v_aload_n C dL_law_1455 rfl rfl 0 rfl ?_
  refine v_iload_n C dL_law_1456 rfl rfl 3 rfl ?_
  refine v_iconst C dL_law_1457 rfl ic_1 ?_
  refine v_iadd C dL_law_1458 rfl ?_
  refine v_sld C S (by rw [show nI i + 1 = nI (i + 1) from nI_addc i 1]; exact inb_nI (by omega) (by omega)) dL_law_1459 rfl ?_
  refine v_callVi C yv_X8_tell m_814 (a8_tell e8) (Sub.left (hDD _ _)) ⟨0, _, _, _, _, wd_left (wd_at sk_0), rfl⟩ (As := [.int (xs (Int32.toNatClampNeg (nI i + 1)))]) rfl rfl (Nat.le_of_ble_eq_true rfl) ⟨Nat.le_of_ble_eq_true rfl, Nat.le_of_ble_eq_true rfl⟩ dL_law_1460 rfl ?_
  refine v_aload_n C dL_law_1463 rfl rfl 2 rfl ?_
  refine v_aload_n C dL_law_1464 rfl rfl 0 rfl ?_
  refine v_iload_n C dL_law_1465 rfl rfl 3 rfl ?_
  refine v_iconst C dL_law_1466 rfl ic_1 ?_
  refine v_iadd C dL_law_1467 rfl ?_
  refine v_sld C S (by rw [show nI i + 1 = nI (i + 1) from nI_addc i 1]; exact inb_nI (by omega) (by omega)) dL_law_1468 rfl ?_
  refine v_callVi C yv_X9_tell m_1356 (a9_tell e9) (Sub.right (hDD _ _)) ⟨76, _, _, _, _, wd_right (wd_at sr_0), rfl⟩ (As := [.int (xs (Int32.toNatClampNeg (nI i + 1)))]) rfl rfl (Nat.le_of_ble_eq_true rfl) ⟨Nat.le_of_ble_eq_true rfl, Nat.le_of_ble_eq_true rfl⟩ dL_law_1469 rfl ?_
  exact v_icmp_eq C dL_law_1472 (tgt := 1549) (by decide) rfl (fun _ => kk K' R' hrel') (fun c => absurd rfl c)
set_option maxRecDepth 100000 in
set_option maxHeartbeats 4000000 in
theorem lc_check {G : Ctx} {Rel : Mem → Mem → Prop} {b N i : Nat} {xs : Nat → Int32} {aK aR : Nat → Nat} (C : Cx G RL cL_law 4 136 3501) (S : Scr G b N xs) (hN : N ≤ 3072) (hDD : ∀ K R, va_D (gA G) (wd (gC G) aK K 0 shsK ++ wd (gC G) aR R 0 shsR)) (hsim : Sim1 Rel A8_check A9_check) (hi : i + 6 ≤ N) {K R : Mem} (hrel : Rel K R) (kk : ∀ K' R', Rel K' R' → V G 4 (wd (gC G) aK K' 0 shsK ++ wd (gC G) aR R' 0 shsR) 1549 [(0, .ref b), (1, .ref (aK 0)), (2, .ref (aR 0)), (3, .int (nI i))] []) : V G 4 (wd (gC G) aK K 0 shsK ++ wd (gC G) aR R 0 shsR) 1477 [(0, .ref b), (1, .ref (aK 0)), (2, .ref (aR 0)), (3, .int (nI i))] [] := by
  obtain ⟨r, K', R', e8, e9, hrel'⟩ := hsim (xs (Int32.toNatClampNeg (nI i + 1))) K R hrel
  refine v_aload_n C dL_law_1477 rfl rfl 1 rfl ?_
  refine v_aload_n C dL_law_1478 rfl rfl 0 rfl ?_
  refine v_iload_n C dL_law_1479 rfl rfl 3 rfl ?_
  refine v_iconst C dL_law_1480 rfl ic_1 ?_
  refine v_iadd C dL_law_1481 rfl ?_
  refine v_sld C S (by rw [show nI i + 1 = nI (i + 1) from nI_addc i 1]; exact inb_nI (by omega) (by omega)) dL_law_1482 rfl ?_
  refine v_callVi C yv_X8_check m_818 (a8_check e8) (Sub.left (hDD _ _)) ⟨0, _, _, _, _, wd_left (wd_at sk_0), rfl⟩ (As := [.int (xs (Int32.toNatClampNeg (nI i + 1)))]) rfl rfl (Nat.le_of_ble_eq_true rfl) ⟨Nat.le_of_ble_eq_true rfl, Nat.le_of_ble_eq_true rfl⟩ dL_law_1483 rfl ?_
  refine v_aload_n C dL_law_1486 rfl rfl 2 rfl ?_
  refine v_aload_n C dL_law_1487 rfl rfl 0 rfl ?_
  refine v_iload_n C dL_law_1488 rfl rfl 3 rfl ?_
  refine v_iconst C dL_law_1489 rfl ic_1 ?_
  refine v_iadd C dL_law_1490 rfl ?_
  refine v_sld C S (by rw [show nI i + 1 = nI (i + 1) from nI_addc i 1]; exact inb_nI (by omega) (by omega)) dL_law_1491 rfl ?_
  refine v_callVi C yv_X9_check m_1360 (a9_check e9) (Sub.right (hDD _ _)) ⟨76, _, _, _, _, wd_right (wd_at sr_0), rfl⟩ (As := [.int (xs (Int32.toNatClampNeg (nI i + 1)))]) rfl rfl (Nat.le_of_ble_eq_true rfl) ⟨Nat.le_of_ble_eq_true rfl, Nat.le_of_ble_eq_true rfl⟩ dL_law_1492 rfl ?_
  exact v_icmp_eq C dL_law_1495 (tgt := 1549) (by decide) rfl (fun _ => kk K' R' hrel') (fun c => absurd rfl c)
set_option maxRecDepth 100000 in
set_option maxHeartbeats 4000000 in
theorem lc_keep {G : Ctx} {Rel : Mem → Mem → Prop} {b N i : Nat} {xs : Nat → Int32} {aK aR : Nat → Nat} (C : Cx G RL cL_law 4 136 3501) (S : Scr G b N xs) (hN : N ≤ 3072) (hDD : ∀ K R, va_D (gA G) (wd (gC G) aK K 0 shsK ++ wd (gC G) aR R 0 shsR)) (hsim : Sim0 Rel A8_keep A9_keep) (hi : i + 6 ≤ N) {K R : Mem} (hrel : Rel K R) (kk : ∀ K' R', Rel K' R' → V G 4 (wd (gC G) aK K' 0 shsK ++ wd (gC G) aR R' 0 shsR) 1549 [(0, .ref b), (1, .ref (aK 0)), (2, .ref (aR 0)), (3, .int (nI i))] []) : V G 4 (wd (gC G) aK K 0 shsK ++ wd (gC G) aR R 0 shsR) 1500 [(0, .ref b), (1, .ref (aK 0)), (2, .ref (aR 0)), (3, .int (nI i))] [] := by
  obtain ⟨r, K', R', e8, e9, hrel'⟩ := hsim  K R hrel
  refine v_aload_n C dL_law_1500 rfl rfl 1 rfl ?_
  refine v_callVi C yv_X8_keep m_826 (a8_keep e8) (Sub.left (hDD _ _)) ⟨0, _, _, _, _, wd_left (wd_at sk_0), rfl⟩ (As := []) rfl rfl (Nat.le_of_ble_eq_true rfl) ⟨Nat.le_of_ble_eq_true rfl, Nat.le_of_ble_eq_true rfl⟩ dL_law_1501 rfl ?_
  refine v_aload_n C dL_law_1504 rfl rfl 2 rfl ?_
  refine v_callVi C yv_X9_keep m_1369 (a9_keep e9) (Sub.right (hDD _ _)) ⟨76, _, _, _, _, wd_right (wd_at sr_0), rfl⟩ (As := []) rfl rfl (Nat.le_of_ble_eq_true rfl) ⟨Nat.le_of_ble_eq_true rfl, Nat.le_of_ble_eq_true rfl⟩ dL_law_1505 rfl ?_
  exact v_icmp_eq C dL_law_1508 (tgt := 1549) (by decide) rfl (fun _ => kk K' R' hrel') (fun c => absurd rfl c)
set_option maxRecDepth 100000 in
set_option maxHeartbeats 4000000 in
theorem lc_back {G : Ctx} {Rel : Mem → Mem → Prop} {b N i : Nat} {xs : Nat → Int32} {aK aR : Nat → Nat} (C : Cx G RL cL_law 4 136 3501) (S : Scr G b N xs) (hN : N ≤ 3072) (hDD : ∀ K R, va_D (gA G) (wd (gC G) aK K 0 shsK ++ wd (gC G) aR R 0 shsR)) (hsim : Sim0 Rel A8_back A9_back) (hi : i + 6 ≤ N) {K R : Mem} (hrel : Rel K R) (kk : ∀ K' R', Rel K' R' → V G 4 (wd (gC G) aK K' 0 shsK ++ wd (gC G) aR R' 0 shsR) 1549 [(0, .ref b), (1, .ref (aK 0)), (2, .ref (aR 0)), (3, .int (nI i))] []) : V G 4 (wd (gC G) aK K 0 shsK ++ wd (gC G) aR R 0 shsR) 1513 [(0, .ref b), (1, .ref (aK 0)), (2, .ref (aR 0)), (3, .int (nI i))] [] := by
  obtain ⟨r, K', R', e8, e9, hrel'⟩ := hsim  K R hrel
  refine v_aload_n C dL_law_1513 rfl rfl 1 rfl ?_
  refine v_callVi C yv_X8_back m_830 (a8_back e8) (Sub.left (hDD _ _)) ⟨0, _, _, _, _, wd_left (wd_at sk_0), rfl⟩ (As := []) rfl rfl (Nat.le_of_ble_eq_true rfl) ⟨Nat.le_of_ble_eq_true rfl, Nat.le_of_ble_eq_true rfl⟩ dL_law_1514 rfl ?_
  refine v_aload_n C dL_law_1517 rfl rfl 2 rfl ?_
  refine v_callVi C yv_X9_back m_1373 (a9_back e9) (Sub.right (hDD _ _)) ⟨76, _, _, _, _, wd_right (wd_at sr_0), rfl⟩ (As := []) rfl rfl (Nat.le_of_ble_eq_true rfl) ⟨Nat.le_of_ble_eq_true rfl, Nat.le_of_ble_eq_true rfl⟩ dL_law_1518 rfl ?_
  exact v_icmp_eq C dL_law_1521 (tgt := 1549) (by decide) rfl (fun _ => kk K' R' hrel') (fun c => absurd rfl c)
set_option maxRecDepth 100000 in
set_option maxHeartbeats 4000000 in
theorem lc_count {G : Ctx} {Rel : Mem → Mem → Prop} {b N i : Nat} {xs : Nat → Int32} {aK aR : Nat → Nat} (C : Cx G RL cL_law 4 136 3501) (S : Scr G b N xs) (hN : N ≤ 3072) (hDD : ∀ K R, va_D (gA G) (wd (gC G) aK K 0 shsK ++ wd (gC G) aR R 0 shsR)) (hsim : Sim1 Rel A8_count A9_count) (hi : i + 6 ≤ N) {K R : Mem} (hrel : Rel K R) (kk : ∀ K' R', Rel K' R' → V G 4 (wd (gC G) aK K' 0 shsK ++ wd (gC G) aR R' 0 shsR) 1549 [(0, .ref b), (1, .ref (aK 0)), (2, .ref (aR 0)), (3, .int (nI i))] []) : V G 4 (wd (gC G) aK K 0 shsK ++ wd (gC G) aR R 0 shsR) 1526 [(0, .ref b), (1, .ref (aK 0)), (2, .ref (aR 0)), (3, .int (nI i))] [] := by
  obtain ⟨r, K', R', e8, e9, hrel'⟩ := hsim (xs (Int32.toNatClampNeg (nI i + 1))) K R hrel
  refine v_aload_n C dL_law_1526 rfl rfl 1 rfl ?_
  refine v_aload_n C dL_law_1527 rfl rfl 0 rfl ?_
  refine v_iload_n C dL_law_1528 rfl rfl 3 rfl ?_
  refine v_iconst C dL_law_1529 rfl ic_1 ?_
  refine v_iadd C dL_law_1530 rfl ?_
  refine v_sld C S (by rw [show nI i + 1 = nI (i + 1) from nI_addc i 1]; exact inb_nI (by omega) (by omega)) dL_law_1531 rfl ?_
  refine v_callVi C yv_X8_count m_834 (a8_count e8) (Sub.left (hDD _ _)) ⟨0, _, _, _, _, wd_left (wd_at sk_0), rfl⟩ (As := [.int (xs (Int32.toNatClampNeg (nI i + 1)))]) rfl rfl (Nat.le_of_ble_eq_true rfl) ⟨Nat.le_of_ble_eq_true rfl, Nat.le_of_ble_eq_true rfl⟩ dL_law_1532 rfl ?_
  refine v_aload_n C dL_law_1535 rfl rfl 2 rfl ?_
  refine v_aload_n C dL_law_1536 rfl rfl 0 rfl ?_
  refine v_iload_n C dL_law_1537 rfl rfl 3 rfl ?_
  refine v_iconst C dL_law_1538 rfl ic_1 ?_
  refine v_iadd C dL_law_1539 rfl ?_
  refine v_sld C S (by rw [show nI i + 1 = nI (i + 1) from nI_addc i 1]; exact inb_nI (by omega) (by omega)) dL_law_1540 rfl ?_
  refine v_callVi C yv_X9_count m_1377 (a9_count e9) (Sub.right (hDD _ _)) ⟨76, _, _, _, _, wd_right (wd_at sr_0), rfl⟩ (As := [.int (xs (Int32.toNatClampNeg (nI i + 1)))]) rfl rfl (Nat.le_of_ble_eq_true rfl) ⟨Nat.le_of_ble_eq_true rfl, Nat.le_of_ble_eq_true rfl⟩ dL_law_1541 rfl ?_
  exact v_icmp_eq C dL_law_1544 (tgt := 1549) (by decide) rfl (fun _ => kk K' R' hrel') (fun c => absurd rfl c)
