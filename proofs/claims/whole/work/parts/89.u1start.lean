/-! THE START: both objects as they are made -/
set_option maxRecDepth 100000 in
theorem s0_a : (wI w_0 97 1 = 0 ∧ wI w_0 97 2 = nI 9 ∧ wI w_0 97 3 = 0 ∧ wI w_0 97 4 = 0 ∧ wI w_0 97 5 = nI 0 ∧ wI w_0 97 6 = nI 1 ∧ wI w_0 97 11 = nI 0) ∧ (∀ p, p < 12 → wI w_0 97 (12 + p) = nI 0) := by decide +kernel
set_option maxRecDepth 100000 in
theorem s0_b : (wI w_0 1 2 = wI w_0 97 1 ∧ wI w_0 2 0 = wI w_0 97 2 ∧ wI w_0 2 1 = wI w_0 97 3 ∧ wI w_0 2 2 = wI w_0 97 4 ∧ wI w_0 2 3 = ps 9 - 1) ∧ (∀ p, p < 12 → wI w_0 4 p = wI w_0 97 (12 + p)) ∧ (∀ j, j < 4 → wI w_0 5 j = wI w_0 97 (6 + j)) ∧ (wI w_0 1 5 = wI w_0 97 10 ∧ wI w_0 1 6 = wI w_0 97 5 ∧ wI w_0 1 7 = wI w_0 97 0) ∧ wI w_0 1 9 = wI w_0 97 11 ∧ ∀ k, k < 3 → wI w_0 7 k = NONE_ := by decide +kernel
set_option maxRecDepth 100000 in
theorem s0_c : (wI w_0 96 3 = 0 ∧ wI w_0 0 3 = 0) ∧ ((∀ k, k < 11 → wI w_0 103 k = nI (kyB.getD k 0)) ∧ ∀ k, k < 4 → wI w_0 104 k = nI (kyA.getD k 0)) ∧ (wI w_0 61 1 = nI 0 ∧ wI w_0 96 8 = nI 0) ∧ (wI w_0 0 9 = nI 0 ∧ wI w_0 96 34 = nI 0) := by decide +kernel
set_option maxRecDepth 100000 in
theorem s0_d : ∀ s, s < 4 → (wI w_0 110 s = -1 ∨ wI w_0 110 s = 0 ∨ wI w_0 110 s = 1) ∧ wI w_0 (68 + 2 * s) 0 = wI w_0 110 s ∧ wI w_0 (68 + 2 * s) 1 = nI 0 ∧ wI w_0 111 s = nI 0 ∧ ∀ k, k < 24 → wI w_0 (69 + 2 * s) k = wI w_0 112 (24 * s + k) := by decide +kernel
set_option maxRecDepth 100000 in
theorem s0_e : ∀ s, s < 5 → wI w_0 (76 + 4 * s) 0 = nI 0 ∧ wI w_0 113 s = nI 0 := by decide +kernel
theorem Iv_0 : Iv w_0 := by
  obtain ⟨⟨a1, a2, a3, a4, a5, a6, a11⟩, ac⟩ := s0_a
  obtain ⟨⟨b1, b2, b3, b4, b5⟩, bc, br, ⟨b6, b7, b8⟩, b9, bk⟩ := s0_b
  obtain ⟨c1, c2, ⟨c3, c4⟩, c5, c6⟩ := s0_c
  have ec : c_ (wI w_0 97) = 0 := by unfold c_; rw [a1]; rfl
  have en : n_ (wI w_0 97) = 9 := by unfold n_; rw [a2]; exact nx_nI (by decide)
  have eT : T_ (wI w_0 97) = 0 := by unfold T_; rw [a11]; exact nx_nI (by decide)
  refine ⟨Lay_0, ⟨⟨⟨⟨by rw [ec]; exact a1, by rw [ec]; decide⟩, ⟨by rw [en]; exact a2, by rw [en]; decide, by rw [en]; decide⟩, Or.inl a3, Or.inl a4, fun i hi => by rw [ec] at hi; omega⟩, ⟨⟨1, by decide, a6⟩, fun p hp => ⟨0, by decide, ac p hp⟩⟩, ⟨by rw [eT]; exact a11, by rw [eT]; decide, fun t ht => by rw [eT] at ht; omega⟩, fun i j _ hj => by rw [ec] at hj; omega⟩, ⟨0, by decide, a5⟩, ⟨b1, ⟨b2, b3, b4, by rw [en]; exact b5⟩, fun i hi => by rw [ec] at hi; omega⟩, ⟨bc, br, b6, b7, b8⟩, b9, fun k hk => ?_, fun t ht => by rw [eT] at ht; omega⟩, Or.inl c1, ⟨c2, 0, by decide, c3, c4, fun k hk => by omega⟩, fun s hs => ?_, fun s hs => ?_, 0, by decide, c5, c6, fun k hk => by omega⟩
  · show wI w_0 7 k = cnI (wI w_0 97) k
    unfold cnI
    rw [eT]
    exact bk k hk
  · obtain ⟨d1, d2, d3, d4, d5⟩ := s0_d s hs
    exact ⟨wI w_0 110 s, 0, d1, by decide, d2, rfl, d3, d4, d5⟩
  · obtain ⟨d1, d2⟩ := s0_e s hs
    exact ⟨0, by decide, d1, d2, fun q => by omega, fun q => by omega, fun q => by omega⟩
