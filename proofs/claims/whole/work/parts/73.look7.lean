/-! THE OUTLOOK: foresee -/
theorem sb_of : ∀ k F v, v < 2 ^ k → (∀ i, v.testBit i = true → F.testBit i = true) → sb k F v := by
  intro k
  induction k with
  | zero => intro F v hv _; rw [sb]; rw [Nat.pow_zero] at hv; omega
  | succ k ih =>
    intro F v hv h
    refine ⟨fun q => ?_, ih _ _ (by rw [Nat.pow_succ] at hv; omega) (fun i hi => ?_)⟩
    · have := h 0 (by rw [Nat.testBit_zero]; exact decide_eq_true q)
      rw [Nat.testBit_zero] at this
      exact of_decide_eq_true this
    · have := h (i + 1) (by rw [Nat.testBit_succ]; exact hi)
      rw [Nat.testBit_succ] at this
      exact this
theorem sb_bit {k F v i : Nat} (h : sb k F v) (hi : v.testBit i = true) : F.testBit i = true := by
  have e := sb_and k F v h
  rw [← e, Nat.testBit_and] at hi
  exact (Bool.and_eq_true_iff.mp hi).2
theorem sb_lt : ∀ k F v, sb k F v → v < 2 ^ k := by
  intro k
  induction k with
  | zero => intro F v h; rw [sb] at h; rw [h]; decide
  | succ k ih => intro F v h; have := ih _ _ h.2; rw [Nat.pow_succ]; omega
theorem rk_F : ∀ k F, F < 2 ^ k → rk k F F + 1 = 2 ^ cbF k F := by
  intro k
  induction k with
  | zero => intro F _; rfl
  | succ k ih =>
    intro F h
    have := ih (F / 2) (by rw [Nat.pow_succ] at h; omega)
    rw [rk, cbF]
    rcases Nat.mod_two_eq_zero_or_one F with q | q
    · rw [if_neg (by omega), q, Nat.zero_add]; exact this
    · rw [if_pos q, q, Nat.add_comm 1, Nat.pow_succ]; omega
theorem rk_lt : ∀ k F v, rk k F v < 2 ^ k := by
  intro k
  induction k with
  | zero => intro F v; exact Nat.one_pos
  | succ k ih =>
    intro F v
    have := ih (F / 2) (v / 2)
    rw [rk, Nat.pow_succ]
    split <;> omega
/-- what is free -/
def FrS (σ : Nat → Int32) (t0 F : Nat) : Prop := (ps (n_ σ) - 1) &&& (tk σ ^^^ -1) = nI F ∧ F < 2 ^ n_ σ ∧ ∀ p, p < 32 → F.testBit p = (decide (p < n_ σ) && !t0.testBit p)
theorem x_foresee {w : Wd} {σ : Nat → Int32} (h : Lay w) (hS : Sv σ) (hR : RS w 1 σ) {md : Int32} (hm : md = 0 ∨ md = 1 ∨ md = 2 ∨ md = 3) {t0 F : Nat} (ht : t0 < 2 ^ n_ σ) (e0 : tk σ = nI t0) (hF : FrS σ t0 F) : ∃ w', f_X2_foresee 58 2 (tk σ) md w = some (gW σ md t0, w') ∧ Fr (fun a => a = 59) w w' ∧ ∀ u, sb 12 F u → wI w' 59 (t0 ||| u) = gW σ md (t0 ||| u) := by
  have h12 := hS.n12
  have h4 := pw12 h12
  obtain ⟨f1, f2, f3⟩ := hF
  have tl : ∀ u, sb 12 F u → t0 ||| u < 2 ^ n_ σ := fun u hu => by
    refine Nat.or_lt_two_pow ht (Nat.lt_of_le_of_lt ?_ f2)
    rw [← sb_and 12 F u hu]
    exact Nat.and_le_right
  have L : ∀ r n v (w1 : Wd) , Fr (fun a => a = 59) w w1 → sb 12 F v → rk 12 F v = r → (∀ u, sb 12 F u → r < rk 12 F u → wI w1 59 (t0 ||| u) = gW σ md (t0 ||| u)) → r + 1 < n → ∃ w', L_X2_foresee_23 n 58 2 (nI t0) md (nI F) (nI v) (nI (r + 1)) w1 = some (gW σ md t0, w') ∧ Fr (fun a => a = 59) w w' ∧ ∀ u, sb 12 F u → wI w' 59 (t0 ||| u) = gW σ md (t0 ||| u) := by
    intro r
    induction r with
    | zero =>
      intro n v w1 F1 hv hr y1 hn
      obtain ⟨n, rfl⟩ : ∃ j, n = j + 2 := ⟨n - 2, by omega⟩
      obtain rfl : v = 0 := by
        rcases Nat.eq_zero_or_pos v with q | q
        · exact q
        · have := rk_mono 12 F 0 v (sb_0 12 F) hv q; omega
      sorry
    | succ r ih =>
      sorry
  sorry
