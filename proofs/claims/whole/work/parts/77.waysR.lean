/-! ways: the reference's search -/
def Nw (H : Nat → Nat) (δ : Nat → Nat → Int32) (i c : Nat) : Prop := (H i).testBit c = true ∧ δ i c = -1
/-- the loops of A are marked v, the others stand at δ -/
def Lv (n v : Nat) (H : Nat → Nat) (δ : Nat → Nat → Int32) (R0 R : Mem) (A : Nat → Nat → Prop) : Prop := (∀ a, a ≠ 13 → R a = R0 a) ∧ (∀ j, 8 * n ≤ j → R 13 j = R0 13 j) ∧ ∀ i c, i < n → c < 8 → (A i c → R 13 (8 * i + c) = nI v ∧ Nw H δ i c) ∧ (¬ A i c → R 13 (8 * i + c) = δ i c)
def Fl (n : Nat) (f : Int32) (A0 A : Nat → Nat → Prop) : Prop := (f = nI 1 ∧ ∃ i c, i < n ∧ c < 8 ∧ A i c) ∨ (f = nI 0 ∧ ∀ i c, i < n → c < 8 → A i c → A0 i c)
/-- what stands while a level is searched -/
def Cw (n v : Nat) (k H : Nat → Nat) (δ : Nat → Nat → Int32) (R0 : Mem) : Prop := n ≤ 12 ∧ v < 1000 ∧ (∀ i, i < n → H i < 256 ∧ R0 12 i = nI (H i)) ∧ (∀ i, i < n → k i < 6 ∧ R0 1 (10 + 4 * i) = nI (k i)) ∧ R0 1 0 = nI n ∧ ∀ i c, i < n → c < 8 → δ i c = -1 ∨ ∃ e, e < v ∧ δ i c = nI e
theorem Lv.iff {n v : Nat} {H : Nat → Nat} {δ : Nat → Nat → Int32} {R0 R : Mem} {A B : Nat → Nat → Prop} (h : Lv n v H δ R0 R A) (e : ∀ i c, i < n → c < 8 → (A i c ↔ B i c)) : Lv n v H δ R0 R B :=
  ⟨h.1, h.2.1, fun i c hi hc => ⟨fun b => (h.2.2 i c hi hc).1 ((e i c hi hc).mpr b), fun b => (h.2.2 i c hi hc).2 (fun a => b ((e i c hi hc).mp a))⟩⟩
theorem Fl.iff {n : Nat} {f : Int32} {A0 A B : Nat → Nat → Prop} (h : Fl n f A0 A) (e : ∀ i c, i < n → c < 8 → (A i c ↔ B i c)) : Fl n f A0 B := by
  rcases h with ⟨e1, i, c, hi, hc, a⟩ | ⟨e1, a⟩
  · exact Or.inl ⟨e1, i, c, hi, hc, (e i c hi hc).mp a⟩
  · exact Or.inr ⟨e1, fun i c hi hc b => a i c hi hc ((e i c hi hc).mpr b)⟩
theorem Fl.or {n : Nat} {f r : Int32} {A0 A B : Nat → Nat → Prop} (h : Fl n f A0 A) (g : Fl n r A B) (sub : ∀ i c, i < n → c < 8 → A i c → B i c) : Fl n (f ||| r) A0 B := by
  rcases h with ⟨e, i, c, hi, hc, q⟩ | ⟨e, q⟩
  · refine Or.inl ⟨?_, i, c, hi, hc, sub i c hi hc q⟩
    rcases g with ⟨e2, -⟩ | ⟨e2, -⟩
    · rw [e, e2]
      decide
    · rw [e, e2]
      decide
  · rcases g with ⟨e2, i, c, hi, hc, p⟩ | ⟨e2, p⟩
    · refine Or.inl ⟨?_, i, c, hi, hc, p⟩
      rw [e, e2]
      decide
    · refine Or.inr ⟨?_, fun i c hi hc a => q i c hi hc (p i c hi hc a)⟩
      rw [e, e2]
      decide
theorem Fl.z {n : Nat} {f : Int32} {A0 A : Nat → Nat → Prop} (h : Fl n f A0 A) : f = nI 0 ∨ f = nI 1 := by
  rcases h with ⟨e, -⟩ | ⟨e, -⟩
  · exact Or.inr e
  · exact Or.inl e
theorem Fl.rf {n : Nat} {A : Nat → Nat → Prop} : Fl n (nI 0) A A := Or.inr ⟨rfl, fun _ _ _ _ a => a⟩
section WAYSR
variable {n v : Nat} {k H : Nat → Nat} {δ : Nat → Nat → Int32} {R0 R : Mem} {A : Nat → Nat → Prop}
/-- one loop come to -/
theorem lv_come (C : Cw n v k H δ R0) (h : Lv n v H δ R0 R A) {i c : Nat} (hi : i < n) (hc : c < 8) : ∃ r R', C_X9_comesTo (nI i) (nI c) (nI v) R = some (r, R') ∧ Lv n v H δ R0 R' (fun x y => A x y ∨ (x = i ∧ y = c ∧ Nw H δ x y)) ∧ Fl n r A (fun x y => A x y ∨ (x = i ∧ y = c ∧ Nw H δ x y)) := by
  obtain ⟨hn, hv, hH, hk, h0, dom⟩ := C
  obtain ⟨a1, a2, a3⟩ := h
  obtain ⟨H1, H2⟩ := hH i hi
  have hix : (8 : Int32) * nI i + nI c = nI (8 * i + c) := by rw [show (8 : Int32) = nI 8 from rfl, pk_mul, jn_add]
  have hheld : C_X9_isHeld R (nI i) (nI c) = some (if (H i).testBit c then nI 1 else nI 0) := by
    unfold C_X9_isHeld F_X9_isHeld_0
    rw [inb_t (by omega) (by omega), gd_t, tn_nI (by omega), a1 12 (by decide), H2, e_among H1 hc, bd_s]
    split <;> rfl
  have none : ¬ (Nw H δ i c ∧ ¬ A i c) → Lv n v H δ R0 R (fun x y => A x y ∨ (x = i ∧ y = c ∧ Nw H δ x y)) ∧ Fl n (nI 0) A (fun x y => A x y ∨ (x = i ∧ y = c ∧ Nw H δ x y)) := by
    intro hno
    have e : ∀ x y, x < n → y < 8 → (A x y ↔ A x y ∨ (x = i ∧ y = c ∧ Nw H δ x y)) := by
      intro x y _ _
      refine ⟨Or.inl, ?_⟩
      rintro (a | ⟨rfl, rfl, b⟩)
      · exact a
      · exact Classical.byContradiction (fun q => hno ⟨b, q⟩)
    exact ⟨Lv.iff ⟨a1, a2, a3⟩ e, Fl.iff Fl.rf e⟩
  unfold C_X9_comesTo F_X9_comesTo_0 F_X9_comesTo_28
  rw [hheld, bd_s, hix, inb_t (by omega) (by omega), gd_t, tn_nI (by omega)]
  cases hb : (H i).testBit c
  · rw [if_neg Bool.false_ne_true, if_pos z00, if_pos (show (0 : Int32) = 0 from rfl)]
    refine ⟨_, _, rfl, none ?_⟩
    rintro ⟨⟨q, -⟩, -⟩
    rw [hb] at q
    cases q
  · rw [if_pos rfl, if_neg n10]
    by_cases qA : A i c
    · have e13 := ((a3 i c hi hc).1 qA).1
      rw [e13, if_pos (show (0 : Int32) ≤ nI v from jle (a := 0) (Nat.zero_le _) (by omega)), if_pos (show (0 : Int32) = 0 from rfl)]
      exact ⟨_, _, rfl, none (fun q => q.2 qA)⟩
    · have e13 := (a3 i c hi hc).2 qA
      rw [e13]
      rcases dom i c hi hc with q | ⟨e, he, q⟩
      · have z1 : ¬ (1 : Int32) = 0 := n10
        rw [q, if_neg neg1_lt, if_neg z1, gd_t, nm_eq]
        have hnew : Nw H δ i c := ⟨hb, q⟩
        refine ⟨_, _, rfl, ⟨fun a ha => by rw [u_ne ha]; exact a1 a ha, fun j hj => by rw [u_oth (by omega)]; exact a2 j hj, fun x y hx hy => ?_⟩, Or.inl ⟨rfl, i, c, hi, hc, Or.inr ⟨rfl, rfl, hnew⟩⟩⟩
        by_cases exy : x = i ∧ y = c
        · obtain ⟨rfl, rfl⟩ := exy
          exact ⟨fun _ => ⟨u_at, hnew⟩, fun a => absurd (Or.inr ⟨rfl, rfl, hnew⟩) a⟩
        · rw [u_oth (show 8 * x + y ≠ 8 * i + c by omega)]
          refine ⟨?_, fun a => (a3 x y hx hy).2 (fun q => a (Or.inl q))⟩
          rintro (a | ⟨b1, b2, b3⟩)
          · exact (a3 x y hx hy).1 a
          · exact absurd ⟨b1, b2⟩ exy
      · rw [q, if_pos (show (0 : Int32) ≤ nI e from jle (a := 0) (Nat.zero_le _) (by omega)), if_pos (show (0 : Int32) = 0 from rfl)]
        refine ⟨_, _, rfl, none ?_⟩
        rintro ⟨⟨-, q2⟩, -⟩
        rw [q] at q2
        exact pos_ne (by omega) q2
/-- one loop come to, where P holds -/
theorem lv_if (C : Cw n v k H δ R0) (h : Lv n v H δ R0 R A) (P : Prop) [Decidable P] {i c : Nat} (hi : P → i < n) (hc : P → c < 8) : ∃ r R', (if P then C_X9_comesTo (nI i) (nI c) (nI v) R else some (nI 0, R)) = some (r, R') ∧ Lv n v H δ R0 R' (fun x y => A x y ∨ (P ∧ x = i ∧ y = c ∧ Nw H δ x y)) ∧ Fl n r A (fun x y => A x y ∨ (P ∧ x = i ∧ y = c ∧ Nw H δ x y)) := by
  by_cases p : P
  · obtain ⟨r, R', e1, e2, e3⟩ := lv_come C h (hi p) (hc p)
    have e : ∀ x y, x < n → y < 8 → ((A x y ∨ (x = i ∧ y = c ∧ Nw H δ x y)) ↔ (A x y ∨ (P ∧ x = i ∧ y = c ∧ Nw H δ x y))) := fun x y _ _ => ⟨fun q => q.elim Or.inl (fun q => Or.inr ⟨p, q⟩), fun q => q.elim Or.inl (fun q => Or.inr q.2)⟩
    exact ⟨r, R', by rw [if_pos p]; exact e1, e2.iff e, e3.iff e⟩
  · have e : ∀ x y, x < n → y < 8 → (A x y ↔ (A x y ∨ (P ∧ x = i ∧ y = c ∧ Nw H δ x y))) := fun x y _ _ => ⟨Or.inl, fun q => q.elim id (fun q => absurd q.1 p)⟩
    exact ⟨nI 0, R, by rw [if_neg p], h.iff e, Fl.iff Fl.rf e⟩
/-- where the first steps from loop b of row a lead: beside it, and to loops below e of the rows beneath and above -/
def tgt (k : Nat → Nat) (a b e x y : Nat) : Prop := (x = a ∧ (y + 1 = b ∨ y = b + 1)) ∨ (y < e ∧ ((a = x + 1 ∧ (hang (k a) b).testBit y = true) ∨ (x = a + 1 ∧ (hang (k x) y).testBit b = true)))
theorem tgt_adj {k : Nat → Nat} {a b x y : Nat} (hy : y < 8) : tgt k a b 8 x y ↔ adj k a b x y := by
  unfold tgt adj
  constructor
  · rintro (⟨h1, h2⟩ | ⟨-, (⟨h1, h2⟩ | ⟨h1, h2⟩)⟩)
    · exact Or.inl ⟨h1.symm, h2⟩
    · exact Or.inr (Or.inl ⟨h1, h2⟩)
    · exact Or.inr (Or.inr ⟨h1, h2⟩)
  · rintro (⟨h1, h2⟩ | ⟨h1, h2⟩ | ⟨h1, h2⟩)
    · exact Or.inl ⟨h1.symm, h2⟩
    · exact Or.inr ⟨hy, Or.inl ⟨h1, h2⟩⟩
    · exact Or.inr ⟨hy, Or.inr ⟨h1, h2⟩⟩
theorem or_z {f r : Int32} {A0 A : Nat → Nat → Prop} (h : Fl n f A0 A) (e : r = nI 0) : f ||| r = f := by
  rcases h.z with q | q
  · rw [q, e]
    decide
  · rw [q, e]
    decide
theorem lv_inner (C : Cw n v k H δ R0) {a b : Nat} (ha : a < n) (hb : b < 8) {A0 : Nat → Nat → Prop} : ∀ (r e : Nat), e + r = 8 → ∀ f, r < f → ∀ (R : Mem) (t : Int32), Lv n v H δ R0 R (fun x y => A x y ∨ (Nw H δ x y ∧ tgt k a b e x y)) → Fl n t A0 (fun x y => A x y ∨ (Nw H δ x y ∧ tgt k a b e x y)) → ∃ t' R', L_X9_stepsFrom_54 f (nI a) (nI b) (nI v) t (nI e) R = some (t', R') ∧ Lv n v H δ R0 R' (fun x y => A x y ∨ (Nw H δ x y ∧ tgt k a b 8 x y)) ∧ Fl n t' A0 (fun x y => A x y ∨ (Nw H δ x y ∧ tgt k a b 8 x y))
  | 0, e, he, f, hf, R, t, hL, hFl => by
    obtain ⟨g, rfl⟩ : ∃ g, f = g + 1 := ⟨f - 1, by omega⟩
    obtain rfl : e = 8 := by omega
    refine ⟨t, R, ?_, hL, hFl⟩
    show F_X9_stepsFrom_54 _ _ _ _ _ _ _ = _
    unfold F_X9_stepsFrom_54
    rw [if_pos (show (8 : Int32) ≤ nI 8 by decide)]
    rcases hFl.z with q | q
    · rw [q]
      rfl
    · rw [q]
      rfl
  | r + 1, e, he, f, hf, R, t, hL, hFl => by
    obtain ⟨g, rfl⟩ : ∃ g, f = g + 1 := ⟨f - 1, by omega⟩
    obtain ⟨r1, R1, e1, L1, G1⟩ := lv_if C hL (0 < a ∧ (hang (k a) b).testBit e = true) (i := a - 1) (c := e) (fun _ => by omega) (fun _ => by omega)
    obtain ⟨r2, R2, e2, L2, G2⟩ := lv_if C L1 (a + 1 < n ∧ (hang (k (a + 1)) e).testBit b = true) (i := a + 1) (c := e) (fun q => q.1) (fun _ => by omega)
    have F1 := hFl.or G1 (fun x y _ _ q => Or.inl q)
    have F2 := F1.or G2 (fun x y _ _ q => Or.inl q)
    have ex : ∀ x y, x < n → y < 8 → (((A x y ∨ (Nw H δ x y ∧ tgt k a b e x y)) ∨ ((0 < a ∧ (hang (k a) b).testBit e = true) ∧ x = a - 1 ∧ y = e ∧ Nw H δ x y)) ∨ ((a + 1 < n ∧ (hang (k (a + 1)) e).testBit b = true) ∧ x = a + 1 ∧ y = e ∧ Nw H δ x y) ↔ (A x y ∨ (Nw H δ x y ∧ tgt k a b (e + 1) x y))) := by
      intro x y hx hy
      unfold tgt
      constructor
      · rintro (((q | ⟨q1, (q2 | ⟨q2, q3⟩)⟩) | ⟨⟨p1, p2⟩, q1, q2, q3⟩) | ⟨⟨p1, p2⟩, q1, q2, q3⟩)
        · exact Or.inl q
        · exact Or.inr ⟨q1, Or.inl q2⟩
        · exact Or.inr ⟨q1, Or.inr ⟨by omega, q3⟩⟩
        · exact Or.inr ⟨q3, Or.inr ⟨by omega, Or.inl ⟨by omega, by rw [q2]; exact p2⟩⟩⟩
        · exact Or.inr ⟨q3, Or.inr ⟨by omega, Or.inr ⟨q1, by rw [q1, q2]; exact p2⟩⟩⟩
      · rintro (q | ⟨q1, (q2 | ⟨q2, q3⟩)⟩)
        · exact Or.inl (Or.inl (Or.inl q))
        · exact Or.inl (Or.inl (Or.inr ⟨q1, Or.inl q2⟩))
        · by_cases ye : y = e
          · rcases q3 with ⟨p1, p2⟩ | ⟨p1, p2⟩
            · exact Or.inl (Or.inr ⟨⟨by omega, by rw [← ye]; exact p2⟩, by omega, ye, q1⟩)
            · exact Or.inr ⟨⟨by omega, by rw [← ye, ← p1]; exact p2⟩, p1, ye, q1⟩
          · exact Or.inl (Or.inl (Or.inr ⟨q1, Or.inr ⟨by omega, q3⟩⟩))
    obtain ⟨t', R', d1, d2, d3⟩ := lv_inner C ha hb r (e + 1) (by omega) g (by omega) R2 ((t ||| r1) ||| r2) (L2.iff ex) (F2.iff ex)
    refine ⟨t', R', ?_, d2, d3⟩
    obtain ⟨hn, hv, hH, hk, h0, dom⟩ := C
    have hka := (hk a ha).1
    have tail : F_X9_stepsFrom_94 (fun a1 a2 a3 a4 a5 K => L_X9_stepsFrom_54 g a1 a2 a3 a4 a5 K) (nI a) (nI b) (nI v) (t ||| r1) (nI e) R1 = some (t', R') := by
      have h1 : R1 1 = R0 1 := L1.1 1 (by decide)
      unfold F_X9_stepsFrom_94
      rw [show inb 0 3058 = true from by decide, gd_t, show Int32.toNatClampNeg 0 = 0 from by decide, h1, h0, show nI n - 1 = nI (n - 1) from jn_sub (a := n) (b := 1) (by omega), show nI e + 1 = nI (e + 1) from jn_add e 1, show nI a + 1 = nI (a + 1) from jn_add a 1]
      by_cases an : a + 1 < n
      · have hk1 := hk (a + 1) an
        rw [if_neg (jnle (by omega) (by omega)), e_hangs (by omega) (by rw [h1]; exact hk1.2) hk1.1 (by omega), bd_s, e_among (hang_lt hk1.1 (by omega)) hb, bd_s]
        by_cases hb2 : (hang (k (a + 1)) e).testBit b = true
        · rw [if_pos ⟨an, hb2⟩] at e2
          rw [if_pos hb2, if_neg n10, e2, bd2_s, nm_eq, nm_eq]
          exact d1
        · rw [if_neg (fun q => hb2 q.2)] at e2
          obtain ⟨rfl, rfl⟩ : nI 0 = r2 ∧ R1 = R2 := by
            have := Option.some.inj e2
            exact ⟨congrArg Prod.fst this, congrArg Prod.snd this⟩
          rw [if_neg hb2, if_pos z00, nm_eq]
          rw [or_z F1 rfl] at d1
          exact d1
      · rw [if_neg (fun q => an q.1)] at e2
        obtain ⟨rfl, rfl⟩ : nI 0 = r2 ∧ R1 = R2 := by
          have := Option.some.inj e2
          exact ⟨congrArg Prod.fst this, congrArg Prod.snd this⟩
        rw [if_pos (jle (by omega) (by omega)), nm_eq]
        rw [or_z F1 rfl] at d1
        exact d1
    have hr1 : R 1 = R0 1 := hL.1 1 (by decide)
    show F_X9_stepsFrom_54 _ _ _ _ _ _ _ = _
    unfold F_X9_stepsFrom_54
    rw [if_neg (show ¬ (8 : Int32) ≤ nI e from jnle (a := 8) (by omega) (by omega))]
    by_cases a0 : 0 < a
    · rw [if_neg (show ¬ nI a ≤ (0 : Int32) from jnle (b := 0) (by omega) (by omega)), e_hangs (by omega) (by rw [hr1]; exact (hk a ha).2) hka hb, bd_s, e_among (hang_lt hka hb) (by omega), bd_s]
      by_cases hb2 : (hang (k a) b).testBit e = true
      · rw [if_pos ⟨a0, hb2⟩] at e1
        rw [if_pos hb2, if_neg n10, show nI a - 1 = nI (a - 1) from jn_sub (a := a) (b := 1) (by omega), e1, bd2_s, nm_eq]
        exact tail
      · rw [if_neg (fun q => hb2 q.2)] at e1
        obtain ⟨rfl, rfl⟩ : nI 0 = r1 ∧ R = R1 := by
          have := Option.some.inj e1
          exact ⟨congrArg Prod.fst this, congrArg Prod.snd this⟩
        rw [if_neg hb2, if_pos z00]
        rw [or_z hFl rfl] at tail
        exact tail
    · rw [if_neg (fun q => a0 q.1)] at e1
      obtain ⟨rfl, rfl⟩ : nI 0 = r1 ∧ R = R1 := by
        have := Option.some.inj e1
        exact ⟨congrArg Prod.fst this, congrArg Prod.snd this⟩
      rw [if_pos (show nI a ≤ (0 : Int32) from jle (b := 0) (by omega) (by omega))]
      rw [or_z hFl rfl] at tail
      exact tail
/-- all steps from one loop -/
theorem lv_from (C : Cw n v k H δ R0) (h : Lv n v H δ R0 R A) {a b : Nat} (ha : a < n) (hb : b < 8) : ∃ t' R', C_X9_stepsFrom (nI a) (nI b) (nI v) R = some (t', R') ∧ Lv n v H δ R0 R' (fun x y => A x y ∨ (Nw H δ x y ∧ tgt k a b 8 x y)) ∧ Fl n t' A (fun x y => A x y ∨ (Nw H δ x y ∧ tgt k a b 8 x y)) := by
  have hFU := FU_big
  obtain ⟨r1, R1, e1, L1, G1⟩ := lv_if C h (0 < b) (i := a) (c := b - 1) (fun _ => ha) (fun _ => by omega)
  obtain ⟨r2, R2, e2, L2, G2⟩ := lv_if C L1 (b < 7) (i := a) (c := b + 1) (fun _ => ha) (fun _ => by omega)
  have F2 := G1.or G2 (fun x y _ _ q => Or.inl q)
  have ex : ∀ x y, x < n → y < 8 → ((A x y ∨ (0 < b ∧ x = a ∧ y = b - 1 ∧ Nw H δ x y)) ∨ (b < 7 ∧ x = a ∧ y = b + 1 ∧ Nw H δ x y) ↔ (A x y ∨ (Nw H δ x y ∧ tgt k a b 0 x y))) := by
    intro x y hx hy
    unfold tgt
    constructor
    · rintro ((q | ⟨p, q1, q2, q3⟩) | ⟨p, q1, q2, q3⟩)
      · exact Or.inl q
      · exact Or.inr ⟨q3, Or.inl ⟨q1, by omega⟩⟩
      · exact Or.inr ⟨q3, Or.inl ⟨q1, by omega⟩⟩
    · rintro (q | ⟨q1, (⟨q2, (q3 | q3)⟩ | ⟨q2, -⟩)⟩)
      · exact Or.inl (Or.inl q)
      · exact Or.inl (Or.inr ⟨by omega, q2, by omega, q1⟩)
      · exact Or.inr ⟨by omega, q2, q3, q1⟩
      · exact absurd q2 (Nat.not_lt_zero _)
  obtain ⟨t', R', d1, d2, d3⟩ := lv_inner C ha hb 8 0 (by omega) FU (by omega) R2 (r1 ||| r2) (L2.iff ex) (F2.iff ex)
  refine ⟨t', R', ?_, d2, d3⟩
  have tail : F_X9_stepsFrom_21 (nI a) (nI b) (nI v) r1 R1 = some (t', R') := by
    unfold F_X9_stepsFrom_21
    by_cases b7 : b < 7
    · rw [if_pos b7] at e2
      rw [if_neg (show ¬ (7 : Int32) ≤ nI b from jnle (a := 7) (by omega) (by omega)), show nI b + 1 = nI (b + 1) from jn_add b 1, e2, bd2_s]
      rcases G2.z with q | q
      · rw [q] at d1
        rw [q, if_pos z00, nm_eq]
        exact d1
      · rw [q] at d1
        rw [q, if_neg n10, nm_eq]
        exact d1
    · rw [if_neg b7] at e2
      obtain ⟨rfl, rfl⟩ : nI 0 = r2 ∧ R1 = R2 := by
        have := Option.some.inj e2
        exact ⟨congrArg Prod.fst this, congrArg Prod.snd this⟩
      rw [if_pos (show (7 : Int32) ≤ nI b from jle (a := 7) (by omega) (by omega)), nm_eq]
      exact d1
  unfold C_X9_stepsFrom F_X9_stepsFrom_0
  by_cases b0 : 0 < b
  · rw [if_pos b0] at e1
    rw [if_neg (show ¬ nI b ≤ (0 : Int32) from jnle (b := 0) (by omega) (by omega)), show nI b - 1 = nI (b - 1) from jn_sub (a := b) (b := 1) (by omega), e1, bd2_s]
    rcases G1.z with q | q
    · rw [q] at tail
      rw [q, if_pos z00]
      exact tail
    · rw [q] at tail
      rw [q, if_neg n10]
      exact tail
  · rw [if_neg b0] at e1
    obtain ⟨rfl, rfl⟩ : nI 0 = r1 ∧ R = R1 := by
      have := Option.some.inj e1
      exact ⟨congrArg Prod.fst this, congrArg Prod.snd this⟩
    rw [if_pos (show nI b ≤ (0 : Int32) from jle (b := 0) (by omega) (by omega))]
    exact tail
/-- what is new, come to from the loops before place j that stand at distance d -/
def AL (n d : Nat) (k H : Nat → Nat) (δ : Nat → Nat → Int32) (j x y : Nat) : Prop := Nw H δ x y ∧ ∃ a b, a < n ∧ b < 8 ∧ 8 * a + b < j ∧ δ a b = nI d ∧ adj k a b x y
theorem lv_level {d : Nat} (C : Cw n (d + 1) k H δ R0) {k53 : Int32 → Int32 → Mem → Option (Int32 × Mem)} : ∀ (r j : Nat), j + r = 8 * n → ∀ f, r < f → ∀ (R : Mem) (t : Int32), Lv n (d + 1) H δ R0 R (AL n d k H δ j) → Fl n t (fun _ _ => False) (AL n d k H δ j) → ∃ t' R', L_X9_findsWays_64 k53 f t (nI d) (nI j) R = k53 t' (nI (d + 1)) R' ∧ Lv n (d + 1) H δ R0 R' (AL n d k H δ (8 * n)) ∧ Fl n t' (fun _ _ => False) (AL n d k H δ (8 * n))
  | 0, j, hj, f, hf, R, t, hL, hFl => by
    obtain ⟨g, rfl⟩ : ∃ g, f = g + 1 := ⟨f - 1, by omega⟩
    obtain ⟨hn, hv, hH, hk, h0, dom⟩ := C
    have ej : j = 8 * n := by omega
    rw [ej] at hL hFl
    refine ⟨t, R, ?_, hL, hFl⟩
    show F_X9_findsWays_64 _ _ _ _ _ _ = _
    unfold F_X9_findsWays_64
    rw [show inb 0 3058 = true from by decide, gd_t, show Int32.toNatClampNeg 0 = 0 from by decide, hL.1 1 (by decide), h0, show (8 : Int32) = nI 8 from rfl, pk_mul, if_pos (jle (by omega) (by omega)), nm_eq, show nI d + 1 = nI (d + 1) from jn_add d 1]
  | r + 1, j, hj, f, hf, R, t, hL, hFl => by
    obtain ⟨g, rfl⟩ : ∃ g, f = g + 1 := ⟨f - 1, by omega⟩
    have C2 := C
    obtain ⟨hn, hv, hH, hk, h0, dom⟩ := C
    have ha : j / 8 < n := by omega
    have hb : j % 8 < 8 := by omega
    have ejj : 8 * (j / 8) + j % 8 = j := by omega
    have at_ := hL.2.2 (j / 8) (j % 8) ha hb
    rw [ejj] at at_
    have test : R 13 j = nI d ↔ δ (j / 8) (j % 8) = nI d := by
      by_cases q : AL n d k H δ j (j / 8) (j % 8)
      · rw [(at_.1 q).1, ((at_.1 q).2).2]
        exact ⟨fun e => absurd e (jne (by omega) (by omega) (by omega)), fun e => absurd e.symm (pos_ne (by omega))⟩
      · rw [at_.2 q]
    have main : ∃ t2 R2, L_X9_findsWays_64 k53 (g + 1) t (nI d) (nI j) R = L_X9_findsWays_64 k53 g t2 (nI d) (nI (j + 1)) R2 ∧ Lv n (d + 1) H δ R0 R2 (AL n d k H δ (j + 1)) ∧ Fl n t2 (fun _ _ => False) (AL n d k H δ (j + 1)) := by
      have open_ : L_X9_findsWays_64 k53 (g + 1) t (nI d) (nI j) R = if R 13 j = nI d then bd2 (C_X9_stepsFrom (nI (j / 8)) (nI (j % 8)) (nI (d + 1)) R) (fun r29 K28 => L_X9_findsWays_64 k53 g (t ||| r29) (nI d) (nI (j + 1)) K28) else L_X9_findsWays_64 k53 g t (nI d) (nI (j + 1)) R := by
        show F_X9_findsWays_64 _ _ _ _ _ _ = _
        unfold F_X9_findsWays_64
        rw [show inb 0 3058 = true from by decide, gd_t, show Int32.toNatClampNeg 0 = 0 from by decide, hL.1 1 (by decide), h0, show (8 : Int32) = nI 8 from rfl, pk_mul, if_neg (jnle (by omega) (by omega)), inb_t (by omega) (by omega), gd_t, tn_nI (by omega), pk_div (by omega) (by omega) (by omega), jrem_nat (by omega) (by omega) (by omega), show nI d + 1 = nI (d + 1) from jn_add d 1, show nI j + 1 = nI (j + 1) from jn_add j 1]
        simp only [nm_eq]
      rw [open_]
      by_cases q : δ (j / 8) (j % 8) = nI d
      · obtain ⟨r2, R2, e1, e2, e3⟩ := lv_from C2 hL ha hb
        have ex : ∀ x y, x < n → y < 8 → (AL n d k H δ j x y ∨ (Nw H δ x y ∧ tgt k (j / 8) (j % 8) 8 x y) ↔ AL n d k H δ (j + 1) x y) := by
          intro x y hx hy
          rw [tgt_adj hy]
          constructor
          · rintro (⟨w, a, b, h1, h2, h3, h4⟩ | ⟨w, h⟩)
            · exact ⟨w, a, b, h1, h2, by omega, h4⟩
            · exact ⟨w, j / 8, j % 8, ha, hb, by omega, q, h⟩
          · rintro ⟨w, a, b, h1, h2, h3, h4, h5⟩
            by_cases e : 8 * a + b < j
            · exact Or.inl ⟨w, a, b, h1, h2, e, h4, h5⟩
            · have ea : a = j / 8 := by omega
              have eb : b = j % 8 := by omega
              rw [← ea, ← eb]
              exact Or.inr ⟨w, h5⟩
        refine ⟨t ||| r2, R2, ?_, e2.iff ex, (hFl.or e3 (fun x y _ _ q => Or.inl q)).iff ex⟩
        rw [if_pos (test.mpr q), e1, bd2_s]
      · have ex : ∀ x y, x < n → y < 8 → (AL n d k H δ j x y ↔ AL n d k H δ (j + 1) x y) := by
          intro x y hx hy
          constructor
          · rintro ⟨w, a, b, h1, h2, h3, h4⟩
            exact ⟨w, a, b, h1, h2, by omega, h4⟩
          · rintro ⟨w, a, b, h1, h2, h3, h4, h5⟩
            by_cases e : 8 * a + b < j
            · exact ⟨w, a, b, h1, h2, e, h4, h5⟩
            · have ea : a = j / 8 := by omega
              have eb : b = j % 8 := by omega
              rw [ea, eb] at h4
              exact absurd h4 q
        refine ⟨t, R, ?_, hL.iff ex, hFl.iff ex⟩
        rw [if_neg (fun e => q (test.mp e))]
    obtain ⟨t2, R2, e1, e2, e3⟩ := main
    obtain ⟨t', R', d1, d2, d3⟩ := lv_level C2 (k53 := k53) r (j + 1) (by omega) g (by omega) R2 t2 e2 e3
    exact ⟨t', R', e1.trans d1, d2, d3⟩
/-- the count at the end -/
theorem count_130 {R : Mem} : ∀ (r j : Nat), j + r = 96 → ∀ f, r < f → L_X9_findsWays_130 f (nI (fa_cnt (fun j => decide (0 ≤ R 13 j)) j)) (nI j) R = some (nI (fa_cnt (fun j => decide (0 ≤ R 13 j)) 96), R)
  | 0, j, hj, f, hf => by
    obtain ⟨g, rfl⟩ : ∃ g, f = g + 1 := ⟨f - 1, by omega⟩
    obtain rfl : j = 96 := by omega
    show F_X9_findsWays_130 _ _ _ _ = _
    unfold F_X9_findsWays_130
    rw [if_pos (show (96 : Int32) ≤ nI 96 by decide)]
  | r + 1, j, hj, f, hf => by
    obtain ⟨g, rfl⟩ : ∃ g, f = g + 1 := ⟨f - 1, by omega⟩
    have ih := count_130 (R := R) r (j + 1) (by omega) g (by omega)
    show F_X9_findsWays_130 _ _ _ _ = _
    unfold F_X9_findsWays_130
    rw [if_neg (show ¬ (96 : Int32) ≤ nI j from jnle (a := 96) (by omega) (by omega)), inb_t (by omega) (by omega), gd_t, tn_nI (by omega), show nI j + 1 = nI (j + 1) from jn_add j 1]
    by_cases q : 0 ≤ R 13 j
    · rw [fa_cnt_yes (p := fun j => decide (0 ≤ R 13 j)) (decide_eq_true q)] at ih
      rw [if_pos q, nm_eq, nm_eq, show ∀ m : Nat, nI m + 1 = nI (m + 1) from fun m => jn_add m 1]
      exact ih
    · rw [fa_cnt_no (p := fun j => decide (0 ≤ R 13 j)) (decide_eq_false q)] at ih
      rw [if_neg q, nm_eq, nm_eq, show ∀ m : Nat, nI m + 0 = nI m from fun m => jn_add m 0]
      exact ih
end WAYSR
