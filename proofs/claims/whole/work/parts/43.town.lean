/-! a town of the class and the reference's row: what they have in common -/
def Inv (S : Nat → Int32) (n : Nat) : Prop := n ≤ 12 ∧ S 0 = nI n ∧ (∀ c, c < n → ∃ k, k < 6 ∧ S (10 + 4 * c) = nI k) ∧ (∀ c, c < n → ∃ w, w ≤ 99 ∧ S (12 + 4 * c) = nI w) ∧ ∀ c, c < n → ∃ l, l < 256 ∧ S (13 + 4 * c) = nI l
def TR (K : Mem) (q : Nat) (S : Nat → Int32) : Prop := (∀ c, c < 12 → K (q + 1) c = S (10 + 4 * c)) ∧ (∀ c, c < 12 → K (q + 2) c = S (11 + 4 * c)) ∧ (∀ c, c < 12 → K (q + 3) c = S (12 + 4 * c)) ∧ (∀ c, c < 12 → K (q + 4) c = S (13 + 4 * c)) ∧ (∀ i, i < 3 → K (q + 5) i = S (3 + i)) ∧ K q 7 = S 0 ∧ K q 8 = S 6 ∧ K q 9 = S 7 ∧ K q 10 = S 8 ∧ K q 11 = S 2 ∧ K q 12 = S 9
theorem TR.kd {K : Mem} {q : Nat} {S : Nat → Int32} (h : TR K q S) {c : Nat} (hc : c < 12) : K (q + 1) c = S (10 + 4 * c) := h.1 c hc
theorem TR.ga {K : Mem} {q : Nat} {S : Nat → Int32} (h : TR K q S) {c : Nat} (hc : c < 12) : K (q + 2) c = S (11 + 4 * c) := h.2.1 c hc
theorem TR.we {K : Mem} {q : Nat} {S : Nat → Int32} (h : TR K q S) {c : Nat} (hc : c < 12) : K (q + 3) c = S (12 + 4 * c) := h.2.2.1 c hc
theorem TR.lo {K : Mem} {q : Nat} {S : Nat → Int32} (h : TR K q S) {c : Nat} (hc : c < 12) : K (q + 4) c = S (13 + 4 * c) := h.2.2.2.1 c hc
theorem TR.ru {K : Mem} {q : Nat} {S : Nat → Int32} (h : TR K q S) {i : Nat} (hi : i < 3) : K (q + 5) i = S (3 + i) := h.2.2.2.2.1 i hi
theorem TR.nn {K : Mem} {q : Nat} {S : Nat → Int32} (h : TR K q S) : K q 7 = S 0 := h.2.2.2.2.2.1
theorem TR.wa {K : Mem} {q : Nat} {S : Nat → Int32} (h : TR K q S) : K q 8 = S 6 := h.2.2.2.2.2.2.1
theorem TR.rn {K : Mem} {q : Nat} {S : Nat → Int32} (h : TR K q S) : K q 9 = S 7 := h.2.2.2.2.2.2.2.1
theorem TR.me {K : Mem} {q : Nat} {S : Nat → Int32} (h : TR K q S) : K q 10 = S 8 := h.2.2.2.2.2.2.2.2.1
theorem TR.ni {K : Mem} {q : Nat} {S : Nat → Int32} (h : TR K q S) : K q 11 = S 2 := h.2.2.2.2.2.2.2.2.2.1
theorem TR.zz {K : Mem} {q : Nat} {S : Nat → Int32} (h : TR K q S) : K q 12 = S 9 := h.2.2.2.2.2.2.2.2.2.2
theorem TR.u_kd {K : Mem} {q : Nat} {S : Nat → Int32} (h : TR K q S) {i : Nat} (hi : i < 12) (v : Int32) : TR (up K (q + 1) i v) q (upd S (10 + 4 * i) v) := by
  refine ⟨fun c hc => ?_, fun c hc => ?_, fun c hc => ?_, fun c hc => ?_, fun c hc => ?_, ?_, ?_, ?_, ?_, ?_, ?_⟩
  · by_cases e : c = i
    · subst e
      rw [u_at, pk_us]
    · rw [u_oth e, pk_un (by omega)]
      exact h.kd hc
  · rw [u_ne (by omega), pk_un (by omega)]
    exact h.ga hc
  · rw [u_ne (by omega), pk_un (by omega)]
    exact h.we hc
  · rw [u_ne (by omega), pk_un (by omega)]
    exact h.lo hc
  · rw [u_ne (by omega), pk_un (by omega)]
    exact h.ru hc
  · rw [u_ne (by omega), pk_un (by omega)]
    exact h.nn
  · rw [u_ne (by omega), pk_un (by omega)]
    exact h.wa
  · rw [u_ne (by omega), pk_un (by omega)]
    exact h.rn
  · rw [u_ne (by omega), pk_un (by omega)]
    exact h.me
  · rw [u_ne (by omega), pk_un (by omega)]
    exact h.ni
  · rw [u_ne (by omega), pk_un (by omega)]
    exact h.zz
theorem TR.u_ga {K : Mem} {q : Nat} {S : Nat → Int32} (h : TR K q S) {i : Nat} (hi : i < 12) (v : Int32) : TR (up K (q + 2) i v) q (upd S (11 + 4 * i) v) := by
  refine ⟨fun c hc => ?_, fun c hc => ?_, fun c hc => ?_, fun c hc => ?_, fun c hc => ?_, ?_, ?_, ?_, ?_, ?_, ?_⟩
  · rw [u_ne (by omega), pk_un (by omega)]
    exact h.kd hc
  · by_cases e : c = i
    · subst e
      rw [u_at, pk_us]
    · rw [u_oth e, pk_un (by omega)]
      exact h.ga hc
  · rw [u_ne (by omega), pk_un (by omega)]
    exact h.we hc
  · rw [u_ne (by omega), pk_un (by omega)]
    exact h.lo hc
  · rw [u_ne (by omega), pk_un (by omega)]
    exact h.ru hc
  · rw [u_ne (by omega), pk_un (by omega)]
    exact h.nn
  · rw [u_ne (by omega), pk_un (by omega)]
    exact h.wa
  · rw [u_ne (by omega), pk_un (by omega)]
    exact h.rn
  · rw [u_ne (by omega), pk_un (by omega)]
    exact h.me
  · rw [u_ne (by omega), pk_un (by omega)]
    exact h.ni
  · rw [u_ne (by omega), pk_un (by omega)]
    exact h.zz
theorem TR.u_we {K : Mem} {q : Nat} {S : Nat → Int32} (h : TR K q S) {i : Nat} (hi : i < 12) (v : Int32) : TR (up K (q + 3) i v) q (upd S (12 + 4 * i) v) := by
  refine ⟨fun c hc => ?_, fun c hc => ?_, fun c hc => ?_, fun c hc => ?_, fun c hc => ?_, ?_, ?_, ?_, ?_, ?_, ?_⟩
  · rw [u_ne (by omega), pk_un (by omega)]
    exact h.kd hc
  · rw [u_ne (by omega), pk_un (by omega)]
    exact h.ga hc
  · by_cases e : c = i
    · subst e
      rw [u_at, pk_us]
    · rw [u_oth e, pk_un (by omega)]
      exact h.we hc
  · rw [u_ne (by omega), pk_un (by omega)]
    exact h.lo hc
  · rw [u_ne (by omega), pk_un (by omega)]
    exact h.ru hc
  · rw [u_ne (by omega), pk_un (by omega)]
    exact h.nn
  · rw [u_ne (by omega), pk_un (by omega)]
    exact h.wa
  · rw [u_ne (by omega), pk_un (by omega)]
    exact h.rn
  · rw [u_ne (by omega), pk_un (by omega)]
    exact h.me
  · rw [u_ne (by omega), pk_un (by omega)]
    exact h.ni
  · rw [u_ne (by omega), pk_un (by omega)]
    exact h.zz
theorem TR.u_lo {K : Mem} {q : Nat} {S : Nat → Int32} (h : TR K q S) {i : Nat} (hi : i < 12) (v : Int32) : TR (up K (q + 4) i v) q (upd S (13 + 4 * i) v) := by
  refine ⟨fun c hc => ?_, fun c hc => ?_, fun c hc => ?_, fun c hc => ?_, fun c hc => ?_, ?_, ?_, ?_, ?_, ?_, ?_⟩
  · rw [u_ne (by omega), pk_un (by omega)]
    exact h.kd hc
  · rw [u_ne (by omega), pk_un (by omega)]
    exact h.ga hc
  · rw [u_ne (by omega), pk_un (by omega)]
    exact h.we hc
  · by_cases e : c = i
    · subst e
      rw [u_at, pk_us]
    · rw [u_oth e, pk_un (by omega)]
      exact h.lo hc
  · rw [u_ne (by omega), pk_un (by omega)]
    exact h.ru hc
  · rw [u_ne (by omega), pk_un (by omega)]
    exact h.nn
  · rw [u_ne (by omega), pk_un (by omega)]
    exact h.wa
  · rw [u_ne (by omega), pk_un (by omega)]
    exact h.rn
  · rw [u_ne (by omega), pk_un (by omega)]
    exact h.me
  · rw [u_ne (by omega), pk_un (by omega)]
    exact h.ni
  · rw [u_ne (by omega), pk_un (by omega)]
    exact h.zz
theorem TR.u_ru {K : Mem} {q : Nat} {S : Nat → Int32} (h : TR K q S) {i : Nat} (hi : i < 3) (v : Int32) : TR (up K (q + 5) i v) q (upd S (3 + i) v) := by
  refine ⟨fun c hc => ?_, fun c hc => ?_, fun c hc => ?_, fun c hc => ?_, fun c hc => ?_, ?_, ?_, ?_, ?_, ?_, ?_⟩
  · rw [u_ne (by omega), pk_un (by omega)]
    exact h.kd hc
  · rw [u_ne (by omega), pk_un (by omega)]
    exact h.ga hc
  · rw [u_ne (by omega), pk_un (by omega)]
    exact h.we hc
  · rw [u_ne (by omega), pk_un (by omega)]
    exact h.lo hc
  · by_cases e : c = i
    · subst e
      rw [u_at, pk_us]
    · rw [u_oth e, pk_un (by omega)]
      exact h.ru hc
  · rw [u_ne (by omega), pk_un (by omega)]
    exact h.nn
  · rw [u_ne (by omega), pk_un (by omega)]
    exact h.wa
  · rw [u_ne (by omega), pk_un (by omega)]
    exact h.rn
  · rw [u_ne (by omega), pk_un (by omega)]
    exact h.me
  · rw [u_ne (by omega), pk_un (by omega)]
    exact h.ni
  · rw [u_ne (by omega), pk_un (by omega)]
    exact h.zz
theorem TR.u_nn {K : Mem} {q : Nat} {S : Nat → Int32} (h : TR K q S) (v : Int32) : TR (up K q 7 v) q (upd S (0) v) := by
  refine ⟨fun c hc => ?_, fun c hc => ?_, fun c hc => ?_, fun c hc => ?_, fun c hc => ?_, ?_, ?_, ?_, ?_, ?_, ?_⟩
  · rw [u_ne (by omega), pk_un (by omega)]
    exact h.kd hc
  · rw [u_ne (by omega), pk_un (by omega)]
    exact h.ga hc
  · rw [u_ne (by omega), pk_un (by omega)]
    exact h.we hc
  · rw [u_ne (by omega), pk_un (by omega)]
    exact h.lo hc
  · rw [u_ne (by omega), pk_un (by omega)]
    exact h.ru hc
  · rw [u_at, pk_us]
  · rw [u_oth (by decide), pk_un (by decide)]
    exact h.wa
  · rw [u_oth (by decide), pk_un (by decide)]
    exact h.rn
  · rw [u_oth (by decide), pk_un (by decide)]
    exact h.me
  · rw [u_oth (by decide), pk_un (by decide)]
    exact h.ni
  · rw [u_oth (by decide), pk_un (by decide)]
    exact h.zz
theorem TR.u_wa {K : Mem} {q : Nat} {S : Nat → Int32} (h : TR K q S) (v : Int32) : TR (up K q 8 v) q (upd S (6) v) := by
  refine ⟨fun c hc => ?_, fun c hc => ?_, fun c hc => ?_, fun c hc => ?_, fun c hc => ?_, ?_, ?_, ?_, ?_, ?_, ?_⟩
  · rw [u_ne (by omega), pk_un (by omega)]
    exact h.kd hc
  · rw [u_ne (by omega), pk_un (by omega)]
    exact h.ga hc
  · rw [u_ne (by omega), pk_un (by omega)]
    exact h.we hc
  · rw [u_ne (by omega), pk_un (by omega)]
    exact h.lo hc
  · rw [u_ne (by omega), pk_un (by omega)]
    exact h.ru hc
  · rw [u_oth (by decide), pk_un (by decide)]
    exact h.nn
  · rw [u_at, pk_us]
  · rw [u_oth (by decide), pk_un (by decide)]
    exact h.rn
  · rw [u_oth (by decide), pk_un (by decide)]
    exact h.me
  · rw [u_oth (by decide), pk_un (by decide)]
    exact h.ni
  · rw [u_oth (by decide), pk_un (by decide)]
    exact h.zz
theorem TR.u_rn {K : Mem} {q : Nat} {S : Nat → Int32} (h : TR K q S) (v : Int32) : TR (up K q 9 v) q (upd S (7) v) := by
  refine ⟨fun c hc => ?_, fun c hc => ?_, fun c hc => ?_, fun c hc => ?_, fun c hc => ?_, ?_, ?_, ?_, ?_, ?_, ?_⟩
  · rw [u_ne (by omega), pk_un (by omega)]
    exact h.kd hc
  · rw [u_ne (by omega), pk_un (by omega)]
    exact h.ga hc
  · rw [u_ne (by omega), pk_un (by omega)]
    exact h.we hc
  · rw [u_ne (by omega), pk_un (by omega)]
    exact h.lo hc
  · rw [u_ne (by omega), pk_un (by omega)]
    exact h.ru hc
  · rw [u_oth (by decide), pk_un (by decide)]
    exact h.nn
  · rw [u_oth (by decide), pk_un (by decide)]
    exact h.wa
  · rw [u_at, pk_us]
  · rw [u_oth (by decide), pk_un (by decide)]
    exact h.me
  · rw [u_oth (by decide), pk_un (by decide)]
    exact h.ni
  · rw [u_oth (by decide), pk_un (by decide)]
    exact h.zz
theorem TR.u_me {K : Mem} {q : Nat} {S : Nat → Int32} (h : TR K q S) (v : Int32) : TR (up K q 10 v) q (upd S (8) v) := by
  refine ⟨fun c hc => ?_, fun c hc => ?_, fun c hc => ?_, fun c hc => ?_, fun c hc => ?_, ?_, ?_, ?_, ?_, ?_, ?_⟩
  · rw [u_ne (by omega), pk_un (by omega)]
    exact h.kd hc
  · rw [u_ne (by omega), pk_un (by omega)]
    exact h.ga hc
  · rw [u_ne (by omega), pk_un (by omega)]
    exact h.we hc
  · rw [u_ne (by omega), pk_un (by omega)]
    exact h.lo hc
  · rw [u_ne (by omega), pk_un (by omega)]
    exact h.ru hc
  · rw [u_oth (by decide), pk_un (by decide)]
    exact h.nn
  · rw [u_oth (by decide), pk_un (by decide)]
    exact h.wa
  · rw [u_oth (by decide), pk_un (by decide)]
    exact h.rn
  · rw [u_at, pk_us]
  · rw [u_oth (by decide), pk_un (by decide)]
    exact h.ni
  · rw [u_oth (by decide), pk_un (by decide)]
    exact h.zz
theorem TR.u_ni {K : Mem} {q : Nat} {S : Nat → Int32} (h : TR K q S) (v : Int32) : TR (up K q 11 v) q (upd S (2) v) := by
  refine ⟨fun c hc => ?_, fun c hc => ?_, fun c hc => ?_, fun c hc => ?_, fun c hc => ?_, ?_, ?_, ?_, ?_, ?_, ?_⟩
  · rw [u_ne (by omega), pk_un (by omega)]
    exact h.kd hc
  · rw [u_ne (by omega), pk_un (by omega)]
    exact h.ga hc
  · rw [u_ne (by omega), pk_un (by omega)]
    exact h.we hc
  · rw [u_ne (by omega), pk_un (by omega)]
    exact h.lo hc
  · rw [u_ne (by omega), pk_un (by omega)]
    exact h.ru hc
  · rw [u_oth (by decide), pk_un (by decide)]
    exact h.nn
  · rw [u_oth (by decide), pk_un (by decide)]
    exact h.wa
  · rw [u_oth (by decide), pk_un (by decide)]
    exact h.rn
  · rw [u_oth (by decide), pk_un (by decide)]
    exact h.me
  · rw [u_at, pk_us]
  · rw [u_oth (by decide), pk_un (by decide)]
    exact h.zz
theorem TR.u_zz {K : Mem} {q : Nat} {S : Nat → Int32} (h : TR K q S) (v : Int32) : TR (up K q 12 v) q (upd S (9) v) := by
  refine ⟨fun c hc => ?_, fun c hc => ?_, fun c hc => ?_, fun c hc => ?_, fun c hc => ?_, ?_, ?_, ?_, ?_, ?_, ?_⟩
  · rw [u_ne (by omega), pk_un (by omega)]
    exact h.kd hc
  · rw [u_ne (by omega), pk_un (by omega)]
    exact h.ga hc
  · rw [u_ne (by omega), pk_un (by omega)]
    exact h.we hc
  · rw [u_ne (by omega), pk_un (by omega)]
    exact h.lo hc
  · rw [u_ne (by omega), pk_un (by omega)]
    exact h.ru hc
  · rw [u_oth (by decide), pk_un (by decide)]
    exact h.nn
  · rw [u_oth (by decide), pk_un (by decide)]
    exact h.wa
  · rw [u_oth (by decide), pk_un (by decide)]
    exact h.rn
  · rw [u_oth (by decide), pk_un (by decide)]
    exact h.me
  · rw [u_oth (by decide), pk_un (by decide)]
    exact h.ni
  · rw [u_at, pk_us]
theorem Inv.n12 {S : Nat → Int32} {n : Nat} (h : Inv S n) : n ≤ 12 := h.1
theorem Inv.s0 {S : Nat → Int32} {n : Nat} (h : Inv S n) : S 0 = nI n := h.2.1
theorem Inv.kd {S : Nat → Int32} {n : Nat} (h : Inv S n) {c : Nat} (hc : c < n) : ∃ k, k < 6 ∧ S (10 + 4 * c) = nI k := h.2.2.1 c hc
theorem Inv.we {S : Nat → Int32} {n : Nat} (h : Inv S n) {c : Nat} (hc : c < n) : ∃ w, w ≤ 99 ∧ S (12 + 4 * c) = nI w := h.2.2.2.1 c hc
theorem Inv.lo {S : Nat → Int32} {n : Nat} (h : Inv S n) {c : Nat} (hc : c < n) : ∃ l, l < 256 ∧ S (13 + 4 * c) = nI l := h.2.2.2.2 c hc
/-- a write that touches no bounded place -/
theorem Inv.u_x {S : Nat → Int32} {n : Nat} (h : Inv S n) {j : Nat} (h0 : j ≠ 0) (hj : j < 10 ∨ j % 4 = 3 ∨ 58 ≤ j) (v : Int32) : Inv (upd S j v) n := by
  have h12 := h.n12
  refine ⟨h.1, ?_, fun c hc => ?_, fun c hc => ?_, fun c hc => ?_⟩
  · rw [pk_un (by omega)]
    exact h.s0
  · rw [pk_un (by omega)]
    exact h.kd hc
  · rw [pk_un (by omega)]
    exact h.we hc
  · rw [pk_un (by omega)]
    exact h.lo hc
theorem Inv.u_we {S : Nat → Int32} {n : Nat} (h : Inv S n) (i : Nat) {w : Nat} (hw : w ≤ 99) : Inv (upd S (12 + 4 * i) (nI w)) n := by
  have h12 := h.n12
  refine ⟨h.1, ?_, fun c hc => ?_, fun c hc => ?_, fun c hc => ?_⟩
  · rw [pk_un (by omega)]
    exact h.s0
  · rw [pk_un (by omega)]
    exact h.kd hc
  · by_cases e : c = i
    · subst e
      exact ⟨w, hw, pk_us⟩
    · rw [pk_un (by omega)]
      exact h.we hc
  · rw [pk_un (by omega)]
    exact h.lo hc
theorem Inv.u_lo {S : Nat → Int32} {n : Nat} (h : Inv S n) (i : Nat) {l : Nat} (hl : l < 256) : Inv (upd S (13 + 4 * i) (nI l)) n := by
  have h12 := h.n12
  refine ⟨h.1, ?_, fun c hc => ?_, fun c hc => ?_, fun c hc => ?_⟩
  · rw [pk_un (by omega)]
    exact h.s0
  · rw [pk_un (by omega)]
    exact h.kd hc
  · rw [pk_un (by omega)]
    exact h.we hc
  · by_cases e : c = i
    · subst e
      exact ⟨l, hl, pk_us⟩
    · rw [pk_un (by omega)]
      exact h.lo hc
theorem Inv.u_kd {S : Nat → Int32} {n : Nat} (h : Inv S n) (i : Nat) {k : Nat} (hk : k < 6) : Inv (upd S (10 + 4 * i) (nI k)) n := by
  have h12 := h.n12
  refine ⟨h.1, ?_, fun c hc => ?_, fun c hc => ?_, fun c hc => ?_⟩
  · rw [pk_un (by omega)]
    exact h.s0
  · by_cases e : c = i
    · subst e
      exact ⟨k, hk, pk_us⟩
    · rw [pk_un (by omega)]
      exact h.kd hc
  · rw [pk_un (by omega)]
    exact h.we hc
  · rw [pk_un (by omega)]
    exact h.lo hc
/-! which cells a night touches -/
def FK (q : Nat) (K K' : Mem) : Prop := (∀ c, ¬ (c = 1 ∨ c = 20 ∨ (q ≤ c ∧ c ≤ q + 5)) → K' c = K c) ∧ K' q 13 = K q 13
def FR (R R' : Mem) : Prop := (∀ c, ¬ (c = 1 ∨ c = 16 ∨ c = 17) → R' c = R c) ∧ ∀ i, i = 1 ∨ 58 ≤ i → R' 1 i = R 1 i
theorem FK.rf {q : Nat} {K : Mem} : FK q K K := ⟨fun _ _ => rfl, rfl⟩
theorem FR.rf {R : Mem} : FR R R := ⟨fun _ _ => rfl, fun _ _ => rfl⟩
theorem FK.tr {q : Nat} {K K1 K2 : Mem} (h : FK q K K1) (h2 : FK q K1 K2) : FK q K K2 := ⟨fun c hc => (h2.1 c hc).trans (h.1 c hc), h2.2.trans h.2⟩
theorem FR.tr {R R1 R2 : Mem} (h : FR R R1) (h2 : FR R1 R2) : FR R R2 := ⟨fun c hc => (h2.1 c hc).trans (h.1 c hc), fun i hi => (h2.2 i hi).trans (h.2 i hi)⟩
theorem FK.up {q : Nat} {K : Mem} {c i : Nat} {v : Int32} (hc : q ≤ c) (hc2 : c ≤ q + 5) (hi : c = q → i ≠ 13) : FK q K (up K c i v) := by
  refine ⟨fun a ha => u_ne (by omega), ?_⟩
  rw [u_if, if_neg (fun h => hi h.1.symm h.2.symm)]
theorem FR.up {R : Mem} {i : Nat} {v : Int32} (h1 : i ≠ 1) (h2 : i < 58) : FR R (up R 1 i v) := by
  refine ⟨fun a ha => u_ne (by omega), fun j hj => ?_⟩
  rw [u_oth (by omega)]
theorem up_row {R : Mem} {i : Nat} {v : Int32} : up R 1 i v 1 = upd (R 1) i v := up_eq
/-! the same change on both sides -/
def TS (K : Mem) (q : Nat) (R : Mem) (n : Nat) : Prop := TR K q (R 1) ∧ Inv (R 1) n

theorem TS.s_wa {K : Mem} {q : Nat} {R : Mem} {n : Nat} (h : TS K q R n) (v : Int32) : TS (up K q 8 v) q (up R 1 6 v) n := by
  refine ⟨?_, ?_⟩
  · rw [up_row]
    exact h.1.u_wa v
  · rw [up_row]
    exact h.2.u_x (by decide) (by decide) v
theorem TS.s_rn {K : Mem} {q : Nat} {R : Mem} {n : Nat} (h : TS K q R n) (v : Int32) : TS (up K q 9 v) q (up R 1 7 v) n := by
  refine ⟨?_, ?_⟩
  · rw [up_row]
    exact h.1.u_rn v
  · rw [up_row]
    exact h.2.u_x (by decide) (by decide) v
theorem TS.s_me {K : Mem} {q : Nat} {R : Mem} {n : Nat} (h : TS K q R n) (v : Int32) : TS (up K q 10 v) q (up R 1 8 v) n := by
  refine ⟨?_, ?_⟩
  · rw [up_row]
    exact h.1.u_me v
  · rw [up_row]
    exact h.2.u_x (by decide) (by decide) v
theorem TS.s_ni {K : Mem} {q : Nat} {R : Mem} {n : Nat} (h : TS K q R n) (v : Int32) : TS (up K q 11 v) q (up R 1 2 v) n := by
  refine ⟨?_, ?_⟩
  · rw [up_row]
    exact h.1.u_ni v
  · rw [up_row]
    exact h.2.u_x (by decide) (by decide) v
theorem TS.s_zz {K : Mem} {q : Nat} {R : Mem} {n : Nat} (h : TS K q R n) (v : Int32) : TS (up K q 12 v) q (up R 1 9 v) n := by
  refine ⟨?_, ?_⟩
  · rw [up_row]
    exact h.1.u_zz v
  · rw [up_row]
    exact h.2.u_x (by decide) (by decide) v
theorem TS.s_we {K : Mem} {q : Nat} {R : Mem} {n : Nat} (h : TS K q R n) {i w : Nat} (hi : i < 12) (hw : w ≤ 99) : TS (up K (q + 3) i (nI w)) q (up R 1 (12 + 4 * i) (nI w)) n := by
  refine ⟨?_, ?_⟩
  · rw [up_row]
    exact h.1.u_we hi _
  · rw [up_row]
    exact h.2.u_we i hw
theorem TS.s_lo {K : Mem} {q : Nat} {R : Mem} {n : Nat} (h : TS K q R n) {i l : Nat} (hi : i < 12) (hl : l < 256) : TS (up K (q + 4) i (nI l)) q (up R 1 (13 + 4 * i) (nI l)) n := by
  refine ⟨?_, ?_⟩
  · rw [up_row]
    exact h.1.u_lo hi _
  · rw [up_row]
    exact h.2.u_lo i hl
theorem TS.s_kd {K : Mem} {q : Nat} {R : Mem} {n : Nat} (h : TS K q R n) {i k : Nat} (hi : i < 12) (hk : k < 6) : TS (up K (q + 1) i (nI k)) q (up R 1 (10 + 4 * i) (nI k)) n := by
  refine ⟨?_, ?_⟩
  · rw [up_row]
    exact h.1.u_kd hi _
  · rw [up_row]
    exact h.2.u_kd i hk
theorem TS.s_ga {K : Mem} {q : Nat} {R : Mem} {n : Nat} (h : TS K q R n) {i : Nat} (hi : i < 12) (v : Int32) : TS (up K (q + 2) i v) q (up R 1 (11 + 4 * i) v) n := by
  refine ⟨?_, ?_⟩
  · rw [up_row]
    exact h.1.u_ga hi _
  · rw [up_row]
    exact h.2.u_x (by omega) (by omega) v
theorem TS.s_ru {K : Mem} {q : Nat} {R : Mem} {n : Nat} (h : TS K q R n) {i : Nat} (hi : i < 3) (v : Int32) : TS (up K (q + 5) i v) q (up R 1 (3 + i) v) n := by
  refine ⟨?_, ?_⟩
  · rw [up_row]
    exact h.1.u_ru hi _
  · rw [up_row]
    exact h.2.u_x (by omega) (by omega) v
/-! draws -/
theorem b_draw {K : Mem} {q : Nat} {R : Mem} {n : Nat} (h : TS K q R n) : ∃ (d : Nat) (K' R' : Mem), d < 16777216 ∧ C_X6_draw q K = some (nI d, K') ∧ C_X9_drawn R = some (nI d, R') ∧ TS K' q R' n ∧ FK q K K' ∧ FR R R' := by
  obtain ⟨d, hd, e⟩ := draw_nat (R 1 9 * 1103515245 + 12345)
  refine ⟨d, _, _, hd, ?_, ?_, h.s_zz (R 1 9 * 1103515245 + 12345), FK.up (by omega) (by omega) (fun _ => by decide), FR.up (by decide) (by decide)⟩
  · rw [e_draw, h.1.zz, e]
  · rw [e_drawn, e]
/-! a COURSE comes -/
theorem b_add {K : Mem} {q : Nat} {R : Mem} {n : Nat} (h : TS K q R n) (hn : n < 12) {k l : Nat} (hk : k < 6) (hl : l < 256) (g : Int32) : ∃ (K' R' : Mem), C_X6_add q (nI k) g (nI l) K = some K' ∧ C_X9_comes (nI k) g (nI l) R = some R' ∧ TS K' q R' (n + 1) ∧ FK q K K' ∧ FR R R' := by
  obtain ⟨R', eR, hR, h0, h1, h2, h3, h4, h5⟩ := e_comes h.2.s0 hn (nI k) g (nI l)
  have e7 : K q 7 = nI n := h.1.nn.trans h.2.s0
  refine ⟨up (up (up (up (up K (q + 1) n (nI k)) (q + 2) n g) (q + 3) n 0) (q + 4) n (nI l)) q 7 (nI (n + 1)), R', ?_, eR, ?_, ?_, ?_⟩
  · have ef : C_X6_isFull q K = some 0 := by
      unfold C_X6_isFull F_X6_isFull_0
      rw [e7]
      exact if_pos (jlt (b := 12) hn (by omega))
    have a1 : ∀ (M : Mem) (c i : Nat) (v : Int32), c ≠ q → up M c i v q = M q := fun M c i v hc => u_ne (Ne.symm hc)
    unfold C_X6_add F_X6_add_0
    simp only [ef, bd_s, nm_eq, if_true, a1 _ (q + 1) _ _ (by omega), a1 _ (q + 2) _ _ (by omega), a1 _ (q + 3) _ _ (by omega), a1 _ (q + 4) _ _ (by omega), e7]
    simp (disch := omega) only [inb_t, tn_nI, gd_t, if_true, lit, jn_add]
  · refine ⟨⟨fun c hc => ?_, fun c hc => ?_, fun c hc => ?_, fun c hc => ?_, fun c hc => ?_, ?_, ?_, ?_, ?_, ?_, ?_⟩, by omega, h0, fun c hc => ?_, fun c hc => ?_, fun c hc => ?_⟩
    · by_cases e : c = n
      · subst e
        rw [h1, u_ne (by omega), u_ne (by omega), u_ne (by omega), u_ne (by omega), u_at]
      · rw [h5 _ (by omega) (by omega), u_ne (by omega), u_ne (by omega), u_ne (by omega), u_ne (by omega), u_oth e]
        exact h.1.kd hc
    · by_cases e : c = n
      · subst e
        rw [h2, u_ne (by omega), u_ne (by omega), u_ne (by omega), u_at]
      · rw [h5 _ (by omega) (by omega), u_ne (by omega), u_ne (by omega), u_ne (by omega), u_oth e, u_ne (by omega)]
        exact h.1.ga hc
    · by_cases e : c = n
      · subst e
        rw [h3, u_ne (by omega), u_ne (by omega), u_at]
      · rw [h5 _ (by omega) (by omega), u_ne (by omega), u_ne (by omega), u_oth e, u_ne (by omega), u_ne (by omega)]
        exact h.1.we hc
    · by_cases e : c = n
      · subst e
        rw [h4, u_ne (by omega), u_at]
      · rw [h5 _ (by omega) (by omega), u_ne (by omega), u_oth e, u_ne (by omega), u_ne (by omega), u_ne (by omega)]
        exact h.1.lo hc
    · rw [h5 _ (by omega) (by omega), u_ne (by omega), u_ne (by omega), u_ne (by omega), u_ne (by omega), u_ne (by omega)]
      exact h.1.ru hc
    · rw [h0, u_at]
    · rw [h5 _ (by omega) (by omega), u_oth (by decide), u_ne (by omega), u_ne (by omega), u_ne (by omega), u_ne (by omega)]
      exact h.1.wa
    · rw [h5 _ (by omega) (by omega), u_oth (by decide), u_ne (by omega), u_ne (by omega), u_ne (by omega), u_ne (by omega)]
      exact h.1.rn
    · rw [h5 _ (by omega) (by omega), u_oth (by decide), u_ne (by omega), u_ne (by omega), u_ne (by omega), u_ne (by omega)]
      exact h.1.me
    · rw [h5 _ (by omega) (by omega), u_oth (by decide), u_ne (by omega), u_ne (by omega), u_ne (by omega), u_ne (by omega)]
      exact h.1.ni
    · rw [h5 _ (by omega) (by omega), u_oth (by decide), u_ne (by omega), u_ne (by omega), u_ne (by omega), u_ne (by omega)]
      exact h.1.zz
    · by_cases e : c = n
      · subst e
        exact ⟨k, hk, h1⟩
      · rw [h5 _ (by omega) (by omega)]
        exact h.2.kd (by omega)
    · by_cases e : c = n
      · subst e
        exact ⟨0, by omega, h3⟩
      · rw [h5 _ (by omega) (by omega)]
        exact h.2.we (by omega)
    · by_cases e : c = n
      · subst e
        exact ⟨l, hl, h4⟩
      · rw [h5 _ (by omega) (by omega)]
        exact h.2.lo (by omega)
  · exact ((((FK.up (by omega) (by omega) (fun _ => by omega)).tr (FK.up (by omega) (by omega) (fun _ => by omega))).tr (FK.up (by omega) (by omega) (fun _ => by omega))).tr (FK.up (by omega) (by omega) (fun _ => by omega))).tr (FK.up (by omega) (by omega) (fun _ => by decide))
  · exact ⟨fun c hc => hR c (by omega), fun i hi => h5 i (by omega) (by omega)⟩
theorem b_full {K : Mem} {q : Nat} {R : Mem} (h : TS K q R 12) (k g l : Int32) : C_X6_add q k g l K = some K := by
  have e7 : K q 7 = nI 12 := h.1.nn.trans h.2.s0
  have ef : C_X6_isFull q K = some 1 := by
    unfold C_X6_isFull F_X6_isFull_0
    rw [e7, if_neg (by decide)]
  unfold C_X6_add F_X6_add_0
  rw [ef, bd_s, if_neg (by decide)]

