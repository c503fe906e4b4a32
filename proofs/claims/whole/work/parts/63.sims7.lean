/-! changes beside the town: waiting numbers, the tape -/
theorem Rel.other {K R K' R' : Mem} (h : Rel K R) (hK : ∀ a, 1 ≤ a → a ≤ 45 → K' a = K a) (h11 : K' 0 11 = K 0 11) (h1 : R' 1 = R 1) (h2 : R' 2 = R 2) (h3 : R' 0 3 = R 0 3) (hs : ∀ k, k < 4 → SheetR K' R' k) (hl : ∀ k, k < 5 → SlotR K' R' k) (hw : WaitR K' R') (htp : TapeR K' R') : Rel K' R' := by
  obtain ⟨n, ht⟩ := h.now
  refine ⟨⟨n, ?_, ?_⟩, ?_, ?_, ⟨?_, ?_⟩, hs, hl, hw, htp⟩
  · rw [h1]
    exact ht.1.same (fun a h1 h2 => hK a (by omega) (by omega))
  · rw [h1]
    exact ht.2
  · rw [h1]
    exact h.nights
  · rw [h1]
    exact h.xt.mono (by rw [hK 21 (by decide) (by decide)]) (fun k hk => by rw [hK (21 + 6) (by decide) (by decide)]) (fun a q1 q2 => hK a (by omega) (by omega)) rfl (fun _ _ => rfl)
  · rw [h11, h3]
    exact h.img.1
  · rw [h3]
    rcases h.img.2 with e | ⟨e, a1, a2, a3, a4, a5⟩
    · exact Or.inl e
    · refine Or.inr ⟨e, ?_, ?_, ?_, ?_, ?_⟩
      · rw [h2]
        exact a1.same (fun a q1 q2 => hK a (by omega) (by omega))
      · rw [h2]
        exact a2
      · rw [h2]
        exact a3.mono (by rw [hK 28 (by decide) (by decide)]) (fun k hk => by rw [hK (28 + 6) (by decide) (by decide)]) (fun a q1 q2 => hK a (by omega) (by omega)) rfl (fun _ _ => rfl)
      · rw [h2]
        exact a4
      · rw [h2, h1]
        exact a5
theorem SheetR.same {K R K' R' : Mem} {k : Nat} (h : SheetR K R k) (e1 : K' (51 + 2 * k) = K (51 + 2 * k)) (e2 : K' (52 + 2 * k) = K (52 + 2 * k)) (e4 : R' 4 k = R 4 k) (e5 : R' 5 k = R 5 k) (e6 : ∀ p, p < 24 → R' 6 (24 * k + p) = R 6 (24 * k + p)) : SheetR K' R' k := by
  obtain ⟨h1, h2, h3, h4, h5⟩ := h
  refine ⟨?_, ?_, ?_, ?_, fun p hp => ?_⟩
  · rw [e1, e4]
    exact h1
  · rw [e1, e5]
    exact h2
  · rw [e4]
    exact h3
  · rw [e5]
    exact h4
  · rw [e2, e6 p hp]
    exact h5 p hp
theorem SlotR.same {K R K' R' : Mem} {k : Nat} (h : SlotR K R k) (e1 : K' (60 + 3 * k) = K (60 + 3 * k)) (e2 : K' (61 + 3 * k) = K (61 + 3 * k)) (e3 : K' (62 + 3 * k) = K (62 + 3 * k)) (e7 : R' 7 k = R 7 k) (e8 : R' 8 k = R 8 k) (e9 : R' 9 k = R 9 k) (e10 : R' 10 k = R 10 k) (e11 : ∀ p, p < 24 → R' 11 (24 * k + p) = R 11 (24 * k + p)) : SlotR K' R' k := by
  unfold SlotR at h ⊢
  rw [e1, e2, e3, e7, e8, e9, e10]
  refine ⟨h.1, ?_⟩
  rcases h.2 with q | q | ⟨q1, q2, q3, q4⟩ | q
  · exact Or.inl q
  · exact Or.inr (Or.inl q)
  · exact Or.inr (Or.inr (Or.inl ⟨q1, q2, q3, fun p hp => (q4 p hp).trans (e11 p hp).symm⟩))
  · exact Or.inr (Or.inr (Or.inr q))
theorem WaitR.same {K R K' R' : Mem} (h : WaitR K R) (e1 : K' 0 10 = K 0 10) (e2 : R' 0 31 = R 0 31) (e3 : K' 75 = K 75) (e4 : R' 19 = R 19) : WaitR K' R' := by
  unfold WaitR at h ⊢
  rw [e1, e2, e3, e4]
  exact h
theorem TapeR.same {K R K' R' : Mem} (h : TapeR K R) (e1 : K' 46 = K 46) (e2 : R' 0 16 = R 0 16) (e3 : K' 47 = K 47) (e4 : R' 15 = R 15) : TapeR K' R' := by
  unfold TapeR at h ⊢
  rw [e1, e2, e3, e4]
  exact h
theorem s_tell : Sim1 Rel A8_tell A9_tell := by
  intro a K R h
  obtain ⟨w, hw, e1, e2, e3⟩ := h.waiting
  unfold A8_tell A9_tell C_X8_tell F_X8_tell_0 C_X9_tell F_X9_tell_0
  rw [e1, e2]
  by_cases q : w = 60
  · subst q
    rw [if_neg (show ¬ nI 60 < 60 from by decide), if_pos (show nI 60 = 60 from rfl)]
    exact ⟨_, _, _, rfl, rfl, h⟩
  · have k0 : up K 75 w a 0 = K 0 := u_ne (by decide)
    have r0 : up R 19 w a 0 = R 0 := u_ne (by decide)
    rw [if_pos (show nI w < 60 from jlt (b := 60) (by omega) (by omega)), if_neg (show ¬ nI w = 60 from jne (b := 60) (by omega) (by omega) (by omega)), inb_t (by omega) (by omega), gd_t, tn_nI (by omega), nm_eq, k0, e2, nm_eq, show (1 : Int32) = nI 1 from rfl, jn_add, u_at, gd_t, nm_eq, r0, e1, jn_add, nm_eq, u_at]
    refine ⟨_, _, _, rfl, rfl, h.other (fun a h1 h2 => ?_) ?_ ?_ ?_ ?_ (fun k hk => (h.sheets k hk).same ?_ ?_ ?_ ?_ (fun p hp => ?_)) (fun k hk => (h.slots k hk).same ?_ ?_ ?_ ?_ ?_ ?_ ?_ (fun p hp => ?_)) ⟨w + 1, by omega, u_at, u_at, fun i hi => ?_⟩ (h.tape.same ?_ ?_ ?_ ?_)⟩
    · rw [u_ne (by omega), u_ne (by omega)]
    · rw [u_oth (by decide), k0]
    · rw [u_ne (by decide), u_ne (by decide)]
    · rw [u_ne (by decide), u_ne (by decide)]
    · rw [u_oth (by decide), r0]
    · rw [u_ne (by omega), u_ne (by omega)]
    · rw [u_ne (by omega), u_ne (by omega)]
    · rw [u_ne (by decide), u_ne (by decide)]
    · rw [u_ne (by decide), u_ne (by decide)]
    · rw [u_ne (by decide), u_ne (by decide)]
    · rw [u_ne (by omega), u_ne (by omega)]
    · rw [u_ne (by omega), u_ne (by omega)]
    · rw [u_ne (by omega), u_ne (by omega)]
    · rw [u_ne (by decide), u_ne (by decide)]
    · rw [u_ne (by decide), u_ne (by decide)]
    · rw [u_ne (by decide), u_ne (by decide)]
    · rw [u_ne (by decide), u_ne (by decide)]
    · rw [u_ne (by decide), u_ne (by decide)]
    · rw [u_ne (a := 75) (by decide), u_ne (a := 19) (by decide)]
      by_cases e : i = w
      · subst e
        rw [u_at, u_at]
      · rw [u_oth e, u_oth e]
        exact e3 i (by omega)
    · rw [u_ne (by decide), u_ne (by decide)]
    · rw [u_oth (by decide), r0]
    · rw [u_ne (by decide), u_ne (by decide)]
    · rw [u_ne (by decide), u_ne (by decide)]
/-- the tape changed -/
theorem Rel.tp {K R K' R' : Mem} (h : Rel K R) (hK : ∀ a, a ≠ 46 → a ≠ 47 → K' a = K a) (hR : ∀ a, a ≠ 0 → a ≠ 15 → R' a = R a) (h3 : R' 0 3 = R 0 3) (h31 : R' 0 31 = R 0 31) (ht : TapeR K' R') : Rel K' R' := by
  refine h.other (fun a h1 h2 => hK a (by omega) (by omega)) (by rw [hK 0 (by decide) (by decide)]) (hR 1 (by decide) (by decide)) (hR 2 (by decide) (by decide)) h3 (fun k hk => (h.sheets k hk).same (hK _ (by omega) (by omega)) (hK _ (by omega) (by omega)) (by rw [hR 4 (by decide) (by decide)]) (by rw [hR 5 (by decide) (by decide)]) (fun p hp => by rw [hR 6 (by decide) (by decide)])) (fun k hk => (h.slots k hk).same (hK _ (by omega) (by omega)) (hK _ (by omega) (by omega)) (hK _ (by omega) (by omega)) (by rw [hR 7 (by decide) (by decide)]) (by rw [hR 8 (by decide) (by decide)]) (by rw [hR 9 (by decide) (by decide)]) (by rw [hR 10 (by decide) (by decide)]) (fun p hp => by rw [hR 11 (by decide) (by decide)])) (h.waiting.same (by rw [hK 0 (by decide) (by decide)]) h31 (hK 75 (by decide) (by decide)) (hR 19 (by decide) (by decide))) ht
theorem s_trim : Sim1 Rel A8_trim A9_trim := by
  intro a K R h
  obtain ⟨l, hl, e1, e2, e3⟩ := h.tape
  unfold A8_trim A9_trim C_X8_trim F_X8_trim_0 C_X9_trim F_X9_trim_0
  rw [e1, e2, wide_lit 0 (by decide)]
  rcases btw_e a (lo := 0) (hi := l) (by omega) (by omega) with ⟨m, h1, hm, rfl, d1, d2, d3, d4, d5, d6, e⟩ | ⟨hx, e⟩
  · rw [e, bd_s, if_neg n10, if_neg (show ¬ nI m < 0 from d1), if_pos d5, nm_eq, nm_eq]
    refine ⟨_, _, _, rfl, rfl, h.tp (fun a h1 h2 => u_ne h1) (fun a h1 h2 => u_ne h1) (u_oth (by decide)) (u_oth (by decide)) ⟨m, by omega, u_at, u_at, fun i hi => ?_⟩⟩
    rw [u_ne (by decide), u_ne (by decide)]
    exact e3 i (by omega)
  · rw [e, bd_s, if_pos z00]
    rcases hx with hx | ⟨hx1, hx2, hx3⟩
    · rw [if_pos (show a < 0 from hx)]
      exact ⟨_, _, _, rfl, rfl, h⟩
    · rw [if_neg (show ¬ a < 0 from hx1), if_neg (Int32.not_le.mpr hx2)]
      exact ⟨_, _, _, rfl, rfl, h⟩
