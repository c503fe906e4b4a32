theorem s_back : Sim0 Rel A8_back A9_back := by
  intro K R h
  unfold A8_back A9_back C_X8_back F_X8_back_0 C_X9_back F_X9_back_0
  rw [h.img.1]
  rcases h.img.2 with e0 | ⟨e1, a1, ⟨n, a2⟩, a3, a4, b1, b2, b3, b4, b5, b6⟩
  · have e : R 0 3 = 0 := e0
    rw [if_pos e, if_pos e]
    exact ⟨_, _, _, rfl, rfl, h⟩
  · have e : ¬ R 0 3 = 0 := by
      rw [e1]
      exact n10
    obtain ⟨K1, c1, c2, c3, c4, c5, c6⟩ := e_become (K := K) (q := 21) (q1 := 28) (by omega)
    obtain ⟨R1, r1, r2, r3, r4⟩ := e_aside (q1 := 2) (q2 := 1) (by decide) R
    have fK : ∀ a, (a < 21 ∨ 27 < a) → K1 a = K a := fun a h2 => c2 a (by omega)
    rw [if_neg e, if_neg e, c1, bd_s, r1, bd_s, show inb 0 3058 = true from by decide, gd_t, show Int32.toNatClampNeg 0 = 0 from by decide, c6, a1.nn, r4 0 (by decide)]
    refine ⟨_, _, _, rfl, rfl, ⟨n, ?_, ?_⟩, ?_, ?_, ⟨?_, Or.inr ⟨?_, ?_, ⟨n, ?_⟩, ?_, ?_, ?_⟩⟩, fun k hk => ?_, fun k hk => ?_, ?_, ?_⟩
    · exact (c3 _ a1).ext (fun i hi => r4 i (by omega))
    · exact a2.ext (fun i hi => r4 i (by omega))
    · rw [r4 2 (by decide)]
      exact a4
    · exact a3.mono2 c4 (fun k hk => c5 k hk) (fun a h1 h2 => fK a (by omega)) r4
    · rw [fK 0 (by decide), r2 0 (by decide)]
      exact h.img.1
    · rw [r2 0 (by decide)]
      exact e1
    · rw [r2 2 (by decide)]
      exact a1.same (fun a h1 h2 => fK a (by omega))
    · rw [r2 2 (by decide)]
      exact a2
    · rw [r2 2 (by decide)]
      exact a3.mono2 (by rw [fK 28 (by decide)]) (fun k hk => by rw [fK (28 + 6) (by decide)]) (fun a h1 h2 => fK a (by omega)) (fun _ _ => rfl)
    · rw [r2 2 (by decide)]
      exact a4
    · exact ⟨b1, b1, Nat.le_refl _, by omega, by rw [r2 2 (by decide)]; exact b5, by rw [r4 1 (by decide)]; exact b5⟩
    · exact (h.sheets k hk).same (fK _ (by omega)) (fK _ (by omega)) (by rw [r2 4 (by decide)]) (by rw [r2 5 (by decide)]) (fun p hp => by rw [r2 6 (by decide)])
    · exact (h.slots k hk).same (fK _ (by omega)) (fK _ (by omega)) (fK _ (by omega)) (by rw [r2 7 (by decide)]) (by rw [r2 8 (by decide)]) (by rw [r2 9 (by decide)]) (by rw [r2 10 (by decide)]) (fun p hp => by rw [r2 11 (by decide)])
    · exact h.waiting.same (by rw [fK 0 (by decide)]) (by rw [r2 0 (by decide)]) (fK 75 (by decide)) (r2 19 (by decide))
    · exact h.tape.same (fK 46 (by decide)) (by rw [r2 0 (by decide)]) (fK 47 (by decide)) (r2 15 (by decide))
