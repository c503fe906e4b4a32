/-! the tape read on both sides: E -/
def ext (p : Nat → Nat × Nat) (m : Nat) (x : Nat × Nat) : Nat → Nat × Nat := fun i => if i = m then x else p i
theorem ext_at {p : Nat → Nat × Nat} {m : Nat} {x : Nat × Nat} : ext p m x m = x := if_pos rfl
theorem ext_ne {p : Nat → Nat × Nat} {m i : Nat} {x : Nat × Nat} (h : i ≠ m) : ext p m x i = p i := if_neg h
theorem dep_ext {p p' : Nat → Nat × Nat} : ∀ n, (∀ i, i < n → p' i = p i) → dep p' n = dep p n
  | 0, _ => rfl
  | n + 1, h => by
    show (if (p' n).1 = 2 then (if (p' n).2 = 33 then dep p' n else dep p' n - 1) else dep p' n + 1) = (if (p n).1 = 2 then (if (p n).2 = 33 then dep p n else dep p n - 1) else dep p n + 1)
    rw [h n (by omega), dep_ext n (fun i hi => h i (by omega))]
theorem dep_s {p : Nat → Nat × Nat} {n : Nat} : dep p (n + 1) = if (p n).1 = 2 then (if (p n).2 = 33 then dep p n else dep p n - 1) else dep p n + 1 := rfl
theorem ext_dep {p : Nat → Nat × Nat} {m : Nat} {x : Nat × Nat} {i : Nat} (h : i ≤ m) : dep (ext p m x) i = dep p i := dep_ext i (fun j hj => ext_ne (by omega))
theorem ext_ok {key : Nat} {p : Nat → Nat × Nat} {m : Nat} {x : Nat × Nat} {i : Nat} (h : i < m) (q : stepOk key p i) : stepOk key (ext p m x) i := by
  unfold stepOk at q ⊢
  rw [ext_ne (by omega), ext_dep (by omega)]
  exact q
/-- what was written -/
def Em (A key m : Nat) (p : Nat → Nat × Nat) (K R : Mem) : Prop := K 48 2 = nI m ∧ R 0 24 = nI m ∧ R 0 25 = nI A ∧ K 48 3 = R 0 26 ∧ (∀ i, i < m → stepOk key p i) ∧ ∀ i, i < m → R 1 (A + 2 * i) = nI (p i).1 ∧ R 1 (A + 2 * i + 1) = nI (p i).2 ∧ K 49 i = if (p i).1 = 0 then nI (p i).2 else -nI (p i).2
def GFK (K K' : Mem) : Prop := ∀ a j, a ≠ 49 → ¬ (a = 48 ∧ 2 ≤ j ∧ j ≤ 7 ∧ j ≠ 4) → K' a j = K a j
def GFR (A : Nat) (R R' : Mem) : Prop := ∀ a j, ¬ (a = 1 ∧ A ≤ j ∧ j < A + 192) → ¬ (a = 0 ∧ 17 ≤ j ∧ j ≤ 26 ∧ j ≠ 25) → R' a j = R a j
theorem GFK.rf {K : Mem} : GFK K K := fun _ _ _ _ => rfl
theorem GFR.rf {A : Nat} {K : Mem} : GFR A K K := fun _ _ _ _ => rfl
theorem GFK.tr {K K1 K2 : Mem} (h : GFK K K1) (h2 : GFK K1 K2) : GFK K K2 := fun a j x y => (h2 a j x y).trans (h a j x y)
theorem GFR.tr {A : Nat} {K K1 K2 : Mem} (h : GFR A K K1) (h2 : GFR A K1 K2) : GFR A K K2 := fun a j x y => (h2 a j x y).trans (h a j x y)
theorem MK.gf {K K' : Mem} (h : MK K K') : GFK K K' := fun a j x y => h a j (fun q => y (by omega))
theorem MR.gf {A : Nat} {K K' : Mem} (h : MR K K') : GFR A K K' := fun a j x y => h a j (fun q => y (by omega))
/-- only what is written changed -/
def PK (K K' : Mem) : Prop := ∀ a j, a ≠ 49 → ¬ (a = 48 ∧ (j = 2 ∨ j = 3)) → K' a j = K a j
def PR (A : Nat) (R R' : Mem) : Prop := ∀ a j, ¬ (a = 1 ∧ A ≤ j ∧ j < A + 192) → ¬ (a = 0 ∧ 22 ≤ j ∧ j ≤ 26 ∧ j ≠ 25) → R' a j = R a j
theorem PK.gf {K K' : Mem} (h : PK K K') : GFK K K' := fun a j x y => h a j x (fun q => y (by omega))
theorem PR.gf {A : Nat} {K K' : Mem} (h : PR A K K') : GFR A K K' := fun a j x y => h a j x (fun q => y (by omega))
section GR
variable {K R : Mem} {l A key m op no s e so : Nat} {B : Nat → Nat} {p : Nat → Nat × Nat}
theorem e_wr {x : Int32} (h : K 48 2 = nI m) (hm : m < 96) : C_X1_write x K = some (up (up K 49 m x) 48 2 (nI (m + 1))) := by
  unfold C_X1_write F_X1_write_0
  rw [h, if_neg (show ¬ (96 : Int32) ≤ nI m from jnle (a := 96) (by omega) (by omega)), inb_t (by omega) (by omega), gd_t, tn_nI (by omega), nm_eq, u_ne (by decide), h, nm_eq, show nI m + 1 = nI (m + 1) from jn_add m 1]
theorem e_stp {x y : Int32} (h24 : R 0 24 = nI m) (h25 : R 0 25 = nI A) (hA : A + 192 ≤ 3058) (hm : m < 96) : C_X9_step x y R = some (up (up (up R 1 (A + 2 * m) x) 1 (A + 2 * m + 1) y) 0 24 (nI (m + 1))) := by
  have e1 : nI A + 2 * nI m = nI (A + 2 * m) := by rw [show (2 : Int32) = nI 2 from rfl, pk_mul, jn_add]
  have e2 : nI (A + 2 * m) + 1 = nI (A + 2 * m + 1) := jn_add _ 1
  unfold C_X9_step F_X9_step_0
  rw [h24, h25, e1, inb_t (by omega) (by omega), gd_t, tn_nI (by omega), nm_eq, u_ne (by decide), h24, h25, e1, e2, inb_t (by omega) (by omega), gd_t, tn_nI (by omega), nm_eq, u_ne (by decide), u_ne (by decide), h24, nm_eq, show nI m + 1 = nI (m + 1) from jn_add m 1]
theorem em_put (h : Em A key m p K R) (hA : A + 192 ≤ 3058) (hm : m < 96) (x : Nat × Nat) (hok : stepOk key (ext p m x) m) : ∃ K' R', C_X1_write (if x.1 = 0 then nI x.2 else -nI x.2) K = some K' ∧ C_X9_step (nI x.1) (nI x.2) R = some R' ∧ Em A key (m + 1) (ext p m x) K' R' ∧ PK K K' ∧ PR A R R' := by
  obtain ⟨h1, h2, h3, h4, h5, h6⟩ := h
  refine ⟨_, _, e_wr h1 hm, e_stp h2 h3 hA hm, ⟨u_at, u_at, ?_, ?_, fun i hi => ?_, fun i hi => ?_⟩, ?_, ?_⟩
  · rw [u_oth (by decide), u_ne (by decide), u_ne (by decide)]
    exact h3
  · rw [u_oth (by decide), u_ne (by decide), u_oth (by decide), u_ne (by decide), u_ne (by decide)]
    exact h4
  · by_cases q : i = m
    · rw [q]
      exact hok
    · exact ext_ok (by omega) (h5 i (by omega))
  · by_cases q : i = m
    · rw [q, ext_at]
      refine ⟨?_, ?_, ?_⟩
      · rw [u_ne (by decide), u_oth (by omega), u_at]
      · rw [u_ne (by decide), u_at]
      · rw [u_ne (by decide), u_at]
    · rw [ext_ne q]
      obtain ⟨a1, a2, a3⟩ := h6 i (by omega)
      refine ⟨?_, ?_, ?_⟩
      · rw [u_ne (by decide), u_oth (by omega), u_oth (by omega)]
        exact a1
      · rw [u_ne (by decide), u_oth (by omega), u_oth (by omega)]
        exact a2
      · rw [u_ne (by decide), u_oth q]
        exact a3
  · intro a j x1 x2
    rw [u_if, if_neg (fun q => x2 (by omega)), u_ne x1]
  · intro a j x1 x2
    rw [u_if, if_neg (fun q => x2 (by omega)), u_if, if_neg (fun q => x1 (by omega)), u_if, if_neg (fun q => x1 (by omega))]
/-- both stand at a word or sign, m steps written, op ( and no ! open -/
def Stt (l : Nat) (B : Nat → Nat) (A key op no : Nat) (K R : Mem) (p : Nat → Nat × Nat) (m s e so : Nat) : Prop := Tp l B K R ∧ Tok l B K R s e so ∧ Em A key m p K R ∧ m ≤ s ∧ K 48 4 = nI key ∧ R 0 22 = nI op ∧ R 0 23 = nI no
/-- both stand behind one -/
def Mid (l : Nat) (B : Nat → Nat) (A key op no : Nat) (K R : Mem) (p : Nat → Nat × Nat) (m e : Nat) : Prop := Tp l B K R ∧ (∃ tg, Pre l K R e tg) ∧ Em A key m p K R ∧ m ≤ e ∧ K 48 4 = nI key ∧ R 0 22 = nI op ∧ R 0 23 = nI no
theorem Em.mv (h : Em A key m p K R) {K' R' : Mem} (hK : MK K K') (hR : MR R R') : Em A key m p K' R' := by
  obtain ⟨h1, h2, h3, h4, h5, h6⟩ := h
  refine ⟨?_, ?_, ?_, ?_, h5, fun i hi => ?_⟩
  · rw [hK 48 2 (by omega)]
    exact h1
  · rw [hR 0 24 (by omega)]
    exact h2
  · rw [hR 0 25 (by omega)]
    exact h3
  · rw [hK 48 3 (by omega), hR 0 26 (by omega)]
    exact h4
  · rw [hR 1 _ (by omega), hR 1 _ (by omega), hK 49 i (by omega)]
    exact h6 i hi
theorem mid_move (h : Mid l B A key op no K R p m e) : ∃ K' R' s' e' so', C_X1_moveOn K = some K' ∧ C_X9_nextToken R = some R' ∧ Stt l B A key op no K' R' p m s' e' so' ∧ e ≤ s' ∧ GFK K K' ∧ GFR A R R' := by
  obtain ⟨h1, ⟨tg, h2⟩, h3, h4, h5, h6, h7⟩ := h
  obtain ⟨K', R', s', e', so', a1, a2, a3, a4, a5, a6⟩ := e_move h1 h2
  refine ⟨K', R', s', e', so', a1, a2, ⟨h1.mv a5 a6, a3, h3.mv a5 a6, by omega, ?_, ?_, ?_⟩, a4, a5.gf, a6.gf⟩
  · rw [a5 48 4 (by omega)]
    exact h5
  · rw [a6 0 22 (by omega)]
    exact h6
  · rw [a6 0 23 (by omega)]
    exact h7
theorem Tok.pre (h : Tok l B K R s e so) (ok : so = 1 ∨ so = 3 ∨ (so = 2 ∧ e - s ≤ 4)) : ∃ tg, Pre l K R e tg := by
  obtain ⟨h1, h2, h3, h4, h5, h6, h7, h8⟩ := h
  rcases h8 with ⟨rfl, q⟩ | ⟨rfl, q1, q2, -⟩ | ⟨rfl, q1, q3, (⟨-, q2, -⟩ | ⟨q4, -⟩)⟩ | ⟨rfl, q1, q2, -⟩ | ⟨rfl, q⟩
  · omega
  · exact ⟨1, h2, h4, h7, Or.inl ⟨rfl, by omega, Or.inl ⟨h5, q2⟩⟩⟩
  · exact ⟨1, h2, h4, h7, Or.inl ⟨rfl, by omega, Or.inr ⟨h5, q2⟩⟩⟩
  · omega
  · exact ⟨0, h2, h4, h7, Or.inr ⟨rfl, Or.inr h5, q2⟩⟩
  · omega
theorem Pre.pw {tg : Nat} (h : Pre l K R e tg) {K' R' : Mem} (hK : PK K K') (hR : PR A R R') : Pre l K' R' e tg := by
  unfold Pre at h ⊢
  rw [hK 48 7 (by decide) (by omega), hK 48 5 (by decide) (by omega), hR 0 18 (by omega) (by omega), hR 0 19 (by omega) (by omega)]
  exact h
theorem Tp.pw (h : Tp l B K R) {K' R' : Mem} (hK : PK K K') (hR : PR A R R') : Tp l B K' R' := by
  obtain ⟨h1, h2, h3, h4⟩ := h
  refine ⟨h1, ?_, ?_, fun i hi => ⟨(h4 i hi).1, ?_, ?_⟩⟩
  · rw [hK 46 1 (by decide) (by omega)]
    exact h2
  · rw [hR 0 16 (by omega) (by omega)]
    exact h3
  · rw [hK 47 i (by decide) (by omega)]
    exact (h4 i hi).2.1
  · rw [hR 15 i (by omega) (by omega)]
    exact (h4 i hi).2.2
theorem Tok.pw (h : Tok l B K R s e so) {K' R' : Mem} (hK : PK K K') (hR : PR A R R') : Tok l B K' R' s e so := by
  unfold Tok at h ⊢
  rw [hK 48 6 (by decide) (by omega), hK 48 7 (by decide) (by omega), hK 48 5 (by decide) (by omega), hR 0 17 (by omega) (by omega), hR 0 18 (by omega) (by omega), hR 0 19 (by omega) (by omega), hR 0 20 (by omega) (by omega), hR 0 21 (by omega) (by omega)]
  exact h
theorem Stt.mid (h : Stt l B A key op no K R p m s e so) (ok : so = 1 ∨ so = 3 ∨ (so = 2 ∧ e - s ≤ 4)) : Mid l B A key op no K R p m e := by
  obtain ⟨h1, h2, h3, h4, h5, h6, h7⟩ := h
  exact ⟨h1, h2.pre ok, h3, by have := h2.1; omega, h5, h6, h7⟩
theorem Stt.sl (h : Stt l B A key op no K R p m s e so) : s ≤ 96 := by
  have h1 := h.1.1
  have h2 := h.2.1.1
  have h3 := h.2.1.2.1
  omega
theorem Tok.so4 (h : Tok l B K R s e so) : so ≤ 4 := by
  obtain ⟨h1, h2, h3, h4, h5, h6, h7, h8⟩ := h
  rcases h8 with ⟨q, -⟩ | ⟨q, -⟩ | ⟨q, -⟩ | ⟨q, -⟩ | ⟨q, -⟩ <;> omega
theorem Tok.s3 (h : Tok l B K R s e so) (q : so = 3) : e = s + 1 ∧ R 0 19 = nI 3 ∧ R 0 21 = nI (B s) := by
  obtain ⟨h1, h2, h3, h4, h5, h6, h7, h8⟩ := h
  rcases h8 with ⟨q1, -⟩ | ⟨q1, -⟩ | ⟨q1, -⟩ | ⟨-, q1, q2, q3, -⟩ | ⟨q1, -⟩
  · omega
  · omega
  · omega
  · exact ⟨q1, q2, q3⟩
  · omega
theorem Tok.n3 (h : Tok l B K R s e so) (q : so ≠ 3) : ¬ R 0 19 = 3 := by
  obtain ⟨h1, h2, h3, h4, h5, h6, h7, h8⟩ := h
  rcases h8 with ⟨-, q1⟩ | ⟨-, -, q1, -⟩ | ⟨-, -, -, (⟨-, q1, -⟩ | ⟨-, q1⟩)⟩ | ⟨q1, -⟩ | ⟨-, -, q1⟩
  · rw [q1]
    decide
  · rw [q1]
    decide
  · rw [q1]
    decide
  · rw [q1]
    decide
  · exact absurd q1 q
  · rw [q1]
    decide
/-- is it this sign? both alike -/
theorem sg (hT : Tp l B K R) (h : Tok l B K R s e so) {c : Nat} (hc : c < 1000) : C_X1_isSign K (nI c) = some (nI (if so = 3 ∧ B s = c then 1 else 0)) ∧ C_X9_isSign R (nI c) = some (nI (if so = 3 ∧ B s = c then 1 else 0)) := by
  have h4 := h.so4
  have h5 := h.2.2.2.2.1
  have h6 := h.2.2.1
  have hel := h.2.1
  unfold C_X1_isSign F_X1_isSign_0 C_X9_isSign F_X9_isSign_0
  by_cases q : so = 3
  · obtain ⟨q1, q2, q3⟩ := h.s3 q
    have hb := (hT.2.2.2 s (by omega)).1
    rw [h5, q, if_pos (show nI 3 = (3 : Int32) from rfl), h6, hT.byte (by omega), bd_s, q2, if_pos (show nI 3 = (3 : Int32) from rfl), q3]
    by_cases qb : B s = c
    · rw [if_pos (by rw [qb]), if_pos ⟨rfl, qb⟩]
      exact ⟨rfl, rfl⟩
    · rw [if_neg (jne qb (by omega) (by omega)), if_neg (fun x => qb x.2)]
      exact ⟨rfl, rfl⟩
  · rw [h5, if_neg (show ¬ nI so = (3 : Int32) from jne (b := 3) q (by omega) (by omega)), if_neg (h.n3 q), if_neg (fun x => q x.1)]
    exact ⟨rfl, rfl⟩
/-- what came of reading: no further than a FAULT, or one value more -/
def Out (l : Nat) (B : Nat → Nat) (A key op no d m s : Nat) (K R : Mem) (x y : Option (Int32 × Mem)) : Prop := ∃ K' R', GFK K K' ∧ GFR A R R' ∧ ((x = some (nI 0, K') ∧ y = some (nI 0, R') ∧ ∃ s', s' ≤ 96 ∧ K' 48 6 = nI s' ∧ R' 0 17 = nI s') ∨ (x = some (nI 1, K') ∧ y = some (nI 1, R') ∧ ∃ p' m' s' e' so', Stt l B A key op no K' R' p' m' s' e' so' ∧ dep p' m' = d + 1 ∧ m' + s ≤ m + s' ∧ s < s'))
theorem Out.from {d m0 s0 : Nat} {K0 R0 : Mem} {x y : Option (Int32 × Mem)} (h : Out l B A key op no d m s K R x y) (hK : GFK K0 K) (hR : GFR A R0 R) (h1 : m + s0 ≤ m0 + s) (h2 : s0 ≤ s) : Out l B A key op no d m0 s0 K0 R0 x y := by
  obtain ⟨K', R', a1, a2, a3⟩ := h
  refine ⟨K', R', hK.tr a1, hR.tr a2, ?_⟩
  rcases a3 with ⟨b1, b2, b3⟩ | ⟨b1, b2, p', m', s', e', so', c1, c2, c3, c4⟩
  · exact Or.inl ⟨b1, b2, b3⟩
  · exact Or.inr ⟨b1, b2, p', m', s', e', so', c1, c2, by omega, by omega⟩
theorem fail_out {d : Nat} {x y : Option (Int32 × Mem)} (h : Stt l B A key op no K R p m s e so) (hx : x = some (nI 0, K)) (hy : y = some (nI 0, R)) : Out l B A key op no d m s K R x y :=
  ⟨K, R, GFK.rf, GFR.rf, Or.inl ⟨hx, hy, s, h.sl, h.2.1.2.2.1, h.2.1.2.2.2.2.2.1⟩⟩
/-- a sign joins two values: what is read behind it, and the sign written -/
theorem join_step (hk : key < 3) (hA : A + 192 ≤ 3058) {recl recr : Mem → Option (Int32 × Mem)} (H : ∀ (K R : Mem) (p : Nat → Nat × Nat) (m s e so : Nat), Stt l B A key op no K R p m s e so → Out l B A key op no (dep p m) m s K R (recl K) (recr R)) (h : Stt l B A key op no K R p m s e so) (hso : so = 3) (hb : bsign (B s)) {d : Nat} (hd : dep p m = d + 1) (contK contR : Mem → Option (Int32 × Mem)) : ∃ K3 R3, GFK K K3 ∧ GFR A R R3 ∧ (((bd (C_X1_moveOn K) fun K21 => bd2 (recl K21) fun r24 K23 => if r24 = 0 then some (0, K23) else bd (C_X1_write (-nI (B s)) K23) contK) = some (nI 0, K3) ∧ (bd (C_X9_nextToken R) fun R1 => bd2 (recr R1) fun r R2 => if r = 0 then some (0, R2) else bd (C_X9_step 2 (nI (B s)) R2) contR) = some (nI 0, R3) ∧ ∃ s', s' ≤ 96 ∧ K3 48 6 = nI s' ∧ R3 0 17 = nI s') ∨ (∃ p' m' s' e' so', (bd (C_X1_moveOn K) fun K21 => bd2 (recl K21) fun r24 K23 => if r24 = 0 then some (0, K23) else bd (C_X1_write (-nI (B s)) K23) contK) = contK K3 ∧ (bd (C_X9_nextToken R) fun R1 => bd2 (recr R1) fun r R2 => if r = 0 then some (0, R2) else bd (C_X9_step 2 (nI (B s)) R2) contR) = contR R3 ∧ Stt l B A key op no K3 R3 p' m' s' e' so' ∧ dep p' m' = d + 1 ∧ m' + s ≤ m + s' ∧ s < s')) := by
  obtain ⟨e1, -, -⟩ := h.2.1.s3 hso
  obtain ⟨K1, R1, s1, f1, so1, a1, a2, a3, a4, a5, a6⟩ := mid_move (h.mid (Or.inr (Or.inl hso)))
  obtain ⟨K2, R2, b1, b2, b3⟩ := H K1 R1 p m s1 f1 so1 a3
  have hms := h.2.2.2.1
  rcases b3 with ⟨c1, c2, c3⟩ | ⟨c1, c2, p2, m2, s2, f2, so2, c3, c4, c5, c6⟩
  · refine ⟨K2, R2, a5.tr b1, a6.tr b2, Or.inl ⟨?_, ?_, c3⟩⟩
    · rw [a1, bd_s, c1, bd2_s, if_pos z00]
      rfl
    · rw [a2, bd_s, c2, bd2_s, if_pos z00]
      rfl
  · have hs2 := c3.sl
    have hd2 : dep p2 m2 = d + 2 := by rw [c4, hd]
    have n33 : B s ≠ 33 := by
      unfold bsign at hb
      omega
    have ok : stepOk key (ext p2 m2 (2, B s)) m2 := by
      unfold stepOk
      rw [ext_at, ext_dep (Nat.le_refl _)]
      exact Or.inr (Or.inr (Or.inr ⟨rfl, hb, by omega⟩))
    obtain ⟨t1, t2, t3, t4, t5, t6, t7⟩ := c3
    obtain ⟨K3, R3, g1, g2, g3, g4, g5⟩ := em_put t3 hA (by omega) (2, B s) ok
    have g1' : C_X1_write (-nI (B s)) K2 = some K3 := g1
    have g2' : C_X9_step 2 (nI (B s)) R2 = some R3 := g2
    refine ⟨K3, R3, (a5.tr b1).tr g4.gf, (a6.tr b2).tr g5.gf, Or.inr ⟨ext p2 m2 (2, B s), m2 + 1, s2, f2, so2, ?_, ?_, ⟨t1.pw g4 g5, t2.pw g4 g5, g3, by omega, ?_, ?_, ?_⟩, ?_, by omega, by omega⟩⟩
    · rw [a1, bd_s, c1, bd2_s, if_neg n10, g1', bd_s]
    · rw [a2, bd_s, c2, bd2_s, if_neg n10, g2', bd_s]
    · rw [g4 48 4 (by decide) (by omega)]
      exact t5
    · have q := g2'
      rw [e_stp t3.2.1 t3.2.2.1 hA (by omega)] at q
      rw [← Option.some.inj q, u_oth (by decide), u_ne (by decide), u_ne (by decide)]
      exact t6
    · have q := g2'
      rw [e_stp t3.2.1 t3.2.2.1 hA (by omega)] at q
      rw [← Option.some.inj q, u_oth (by decide), u_ne (by decide), u_ne (by decide)]
      exact t7
    · rw [dep_s, ext_at, if_pos rfl, if_neg n33, ext_dep (Nat.le_refl _)]
      omega
def lvo (b : Nat) : Nat := if b = 38 then 1 else if b = 42 ∨ b = 47 then 4 else if b = 43 ∨ b = 45 then 3 else if b = 60 ∨ b = 61 ∨ b = 62 then 2 else if b = 124 then 0 else 9
theorem e_levelOf_ : ∀ b : Fin 256, C_X1_levelOf (nI b) = some (if lvo b = 9 then -1 else nI (lvo b)) := by decide +kernel
theorem lvo_sign_ : ∀ b : Fin 256, lvo b < 5 → (b.val = 38 ∨ b.val = 42 ∨ b.val = 43 ∨ b.val = 45 ∨ b.val = 47 ∨ b.val = 60 ∨ b.val = 61 ∨ b.val = 62 ∨ b.val = 124) := by decide +kernel
theorem e_level_is {b lev : Nat} (hb : b < 256) (hl : lev < 5) : ∃ r, C_X1_levelOf (nI b) = some r ∧ (r = nI lev ↔ lvo b = lev) := by
  refine ⟨_, e_levelOf_ ⟨b, hb⟩, ?_⟩
  by_cases q : lvo b = 9
  · rw [if_pos q]
    exact ⟨fun h => absurd h.symm (pos_ne (by omega)), fun h => by omega⟩
  · have hle : lvo b < 1000 := by
      unfold lvo
      split
      · omega
      · split
        · omega
        · split
          · omega
          · split
            · omega
            · split <;> omega
    rw [if_neg q]
    constructor
    · intro h
      have := (jn_eq (a := lvo b) (b := lev) (by omega) (by omega)).mp h
      exact this
    · intro h
      rw [h]
/-- a row of signs of one level: values joined from the left -/
theorem chain (hk : key < 3) (hA : A + 192 ≤ 3058) {lev : Nat} (hlev : lev < 5) {recl : Int32 → Int32 → Int32 → Mem → Option (Int32 × Mem)} {recp : Int32 → Int32 → Mem → Option (Int32 × Mem)} {recr : Mem → Option (Int32 × Mem)} (H : ∀ (K R : Mem) (p : Nat → Nat × Nat) (m s e so : Nat), Stt l B A key op no K R p m s e so → Out l B A key op no (dep p m) m s K R (recl (nI (lev + 1)) (nI op) (nI no) K) (recr R)) {LR : Nat → Mem → Option (Int32 × Mem)}
    (hyes : ∀ (g : Nat) (K R : Mem) (p : Nat → Nat × Nat) (m s e so : Nat), Stt l B A key op no K R p m s e so → so = 3 → lvo (B s) = lev → LR (g + 1) R = bd (C_X9_nextToken R) fun R1 => bd2 (recr R1) fun r R2 => if r = 0 then some (0, R2) else bd (C_X9_step 2 (nI (B s)) R2) fun R3 => LR g R3)
    (hno : ∀ (g : Nat) (K R : Mem) (p : Nat → Nat × Nat) (m s e so : Nat), Stt l B A key op no K R p m s e so → ¬ (so = 3 ∧ lvo (B s) = lev) → LR (g + 1) R = some (1, R)) {d : Nat} : ∀ (r : Nat) (K R : Mem) (p : Nat → Nat × Nat) (m s e so cnt : Nat), 97 ≤ s + r → cnt ≤ s → Stt l B A key op no K R p m s e so → dep p m = d + 1 → ∀ f1 f2, r < f1 → r < f2 → ∃ K' R', GFK K K' ∧ GFR A R R' ∧ ((L_X1_level_42 recl recp f1 (nI lev) (nI op) (nI no) (nI 96) (nI cnt) K = some (nI 0, K') ∧ LR f2 R = some (nI 0, R') ∧ ∃ s', s' ≤ 96 ∧ K' 48 6 = nI s' ∧ R' 0 17 = nI s') ∨ (L_X1_level_42 recl recp f1 (nI lev) (nI op) (nI no) (nI 96) (nI cnt) K = some (nI 1, K') ∧ LR f2 R = some (nI 1, R') ∧ ∃ p' m' s' e' so', Stt l B A key op no K' R' p' m' s' e' so' ∧ dep p' m' = d + 1 ∧ m' + s ≤ m + s' ∧ s ≤ s'))
  | 0, K, R, p, m, s, e, so, cnt, hr, hc, h, hd, f1, f2, hf1, hf2 => by
    have := h.sl
    omega
  | r + 1, K, R, p, m, s, e, so, cnt, hr, hc, h, hd, f1, f2, hf1, hf2 => by
    obtain ⟨g1, rfl⟩ : ∃ g, f1 = g + 1 := ⟨f1 - 1, by omega⟩
    obtain ⟨g2, rfl⟩ : ∃ g, f2 = g + 1 := ⟨f2 - 1, by omega⟩
    have hsl := h.sl
    have hT := h.1
    have hTok := h.2.1
    have h5 := hTok.2.2.2.2.1
    have h6 := hTok.2.2.1
    have hel := hTok.2.1
    have h96 := hT.1
    have hso4 := hTok.so4
    by_cases q : so = 3 ∧ lvo (B s) = lev
    · obtain ⟨q1, -, -⟩ := hTok.s3 q.1
      have hb := (hT.2.2.2 s (by omega)).1
      have hbs : bsign (B s) := lvo_sign_ ⟨B s, hb⟩ (show lvo (B s) < 5 by omega)
      obtain ⟨r16, l1, l2⟩ := e_level_is hb hlev
      have eK : L_X1_level_42 recl recp (g1 + 1) (nI lev) (nI op) (nI no) (nI 96) (nI cnt) K = bd (C_X1_moveOn K) fun K21 => bd2 (recl (nI (lev + 1)) (nI op) (nI no) K21) fun r24 K23 => if r24 = 0 then some (0, K23) else bd (C_X1_write (-nI (B s)) K23) fun K27 => L_X1_level_42 recl recp g1 (nI lev) (nI op) (nI no) (nI 96) (nI (cnt + 1)) K27 := by
        show F_X1_level_42 _ _ _ _ _ _ _ _ _ = _
        unfold F_X1_level_42
        rw [if_neg (jnle (by omega) (by omega)), h5, q.1, if_pos (show nI 3 = (3 : Int32) from rfl), h6, hT.byte (by omega), bd_s, l1, bd_s, if_pos (l2.mpr q.2), bd_s, show nI lev + 1 = nI (lev + 1) from jn_add lev 1, show nI cnt + 1 = nI (cnt + 1) from jn_add cnt 1]
        simp only [nm_eq]
      obtain ⟨K3, R3, a1, a2, a3⟩ := join_step hk hA H h q.1 hbs hd (fun K27 => L_X1_level_42 recl recp g1 (nI lev) (nI op) (nI no) (nI 96) (nI (cnt + 1)) K27) (fun R3 => LR g2 R3)
      rw [eK, hyes g2 K R p m s e so h q.1 q.2]
      rcases a3 with ⟨b1, b2, b3⟩ | ⟨p', m', s', e', so', b1, b2, b3, b4, b5, b6⟩
      · exact ⟨K3, R3, a1, a2, Or.inl ⟨b1, b2, b3⟩⟩
      · rw [b1, b2]
        obtain ⟨K4, R4, c1, c2, c3⟩ := chain hk hA hlev H hyes hno r K3 R3 p' m' s' e' so' (cnt + 1) (by omega) (by omega) b3 b4 g1 g2 (by omega) (by omega)
        refine ⟨K4, R4, a1.tr c1, a2.tr c2, ?_⟩
        rcases c3 with ⟨d1, d2, d3⟩ | ⟨d1, d2, p2, m2, s2, e2, so2, d3, d4, d5, d6⟩
        · exact Or.inl ⟨d1, d2, d3⟩
        · exact Or.inr ⟨d1, d2, p2, m2, s2, e2, so2, d3, d4, by omega, by omega⟩
    · refine ⟨K, R, GFK.rf, GFR.rf, Or.inr ⟨?_, hno g2 K R p m s e so h q, p, m, s, e, so, h, hd, Nat.le_refl _, Nat.le_refl _⟩⟩
      show F_X1_level_42 _ _ _ _ _ _ _ _ _ = _
      unfold F_X1_level_42
      by_cases qc : 96 ≤ cnt
      · rw [if_pos (jle qc (by omega))]
        rfl
      · rw [if_neg (jnle (by omega) (by omega)), h5]
        by_cases q3 : so = 3
        · obtain ⟨q1, -, -⟩ := hTok.s3 q3
          have hb := (hT.2.2.2 s (by omega)).1
          obtain ⟨r16, l1, l2⟩ := e_level_is hb hlev
          rw [q3, if_pos (show nI 3 = (3 : Int32) from rfl), h6, hT.byte (by omega), bd_s, l1, bd_s, if_neg (fun x => q ⟨q3, l2.mp x⟩)]
          rfl
        · rw [if_neg (show ¬ nI so = (3 : Int32) from jne (b := 3) q3 (by omega) (by omega))]
          rfl
end GR
