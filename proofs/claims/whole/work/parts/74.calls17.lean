/-! THE CALLS: goes, game -/
theorem FrS_ex {σ : Nat → Int32} (hS : Sv σ) : ∃ t0 F, t0 < 2 ^ n_ σ ∧ tk σ = nI t0 ∧ FrS σ t0 F := by
  have h12 := hS.n12
  obtain ⟨t0, h0, e0⟩ := Bd_nat (tk_Bd hS)
  have bits : ∀ p, p < 32 → bt ((ps (n_ σ) - 1) &&& (tk σ ^^^ -1)) p = (decide (p < n_ σ) && !t0.testBit p) := fun p hp => by
    rw [b_and, show ps (n_ σ) - 1 = ((1 : Int32) <<< (nI (n_ σ) &&& 31)) - 1 from rfl, b_all (n_ σ) (by omega) p hp, b_xm _ hp, e0, bt_nI hp]
  obtain ⟨F, f1, f2⟩ := Bd_nat (σ := σ) (x := (ps (n_ σ) - 1) &&& (tk σ ^^^ -1)) (fun i hi q => by
    rw [bits i hi] at q
    exact of_decide_eq_true (Bool.and_eq_true_iff.mp q).1)
  refine ⟨t0, F, h0, e0, f2, f1, fun p hp => ?_⟩
  rw [← bits p hp, f2, bt_nI hp]
