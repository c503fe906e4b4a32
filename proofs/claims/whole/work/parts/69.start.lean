/-! the two objects when they are new -/
theorem rel_start : Rel K0 R0 := by
  have f12 : ∀ (P : Nat → Prop), (∀ c : Fin 12, P c.val) → ∀ c, c < 12 → P c := fun P h c hc => h ⟨c, hc⟩
  have hTR : TR K0 21 (R0 1) := by
    refine ⟨f12 _ ?_, f12 _ ?_, f12 _ ?_, f12 _ ?_, fun i hi => ?_, ?_, ?_, ?_, ?_, ?_, ?_⟩
    · decide
    · decide
    · decide
    · decide
    · exact (show ∀ i : Fin 3, K0 (21 + 5) i.val = R0 1 (3 + i.val) by decide) ⟨i, hi⟩
    · decide
    · decide
    · decide
    · decide
    · decide
    · decide
  have hInv : Inv (R0 1) 0 := ⟨Nat.zero_le _, by decide, fun c hc => absurd hc (Nat.not_lt_zero _), fun c hc => absurd hc (Nat.not_lt_zero _), fun c hc => absurd hc (Nat.not_lt_zero _)⟩
  refine ⟨⟨0, hTR, hInv⟩, ⟨0, by omega, by decide⟩, ⟨0, by omega, by decide, by decide, fun k hk => ?_, fun t ht => absurd ht (Nat.not_lt_zero _)⟩, ⟨by decide, Or.inl (by decide)⟩, fun k hk => ?_, fun k hk => ?_, ⟨0, by omega, by decide, by decide, fun i hi => absurd hi (Nat.not_lt_zero _)⟩, ⟨0, by omega, by decide, by decide, fun i hi => absurd hi (Nat.not_lt_zero _)⟩⟩
  · exact (show ∀ i : Fin 3, K0 (21 + 6) i.val = -1 by decide) ⟨k, hk⟩
  · have a1 := (show ∀ i : Fin 4, K0 (51 + 2 * i.val) 1 = R0 4 i.val ∧ K0 (51 + 2 * i.val) 2 = R0 5 i.val ∧ R0 4 i.val = -1 by decide) ⟨k, hk⟩
    refine ⟨a1.1, a1.2.1, Or.inl a1.2.2, ⟨0, by omega, rfl⟩, fun p hp => ?_⟩
    have a2 := (show ∀ i : Fin 4, ∀ q : Fin 24, K0 (52 + 2 * i.val) q.val = 0 by decide) ⟨k, hk⟩ ⟨p, hp⟩
    refine ⟨a2, Or.inr ?_⟩
    show (-99999 : Int32) ≤ 0 ∧ (0 : Int32) ≤ 99999
    decide
  · have a1 := (show ∀ i : Fin 5, K0 (60 + 3 * i.val) 1 = R0 7 i.val ∧ R0 7 i.val = 0 by decide) ⟨k, hk⟩
    exact ⟨a1.1, Or.inl a1.2⟩
