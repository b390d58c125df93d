/-! THE OUTLOOK: both ways of joining -/
theorem wk_more {σ : Nat → Int32} {md : Int32} {T : Nat → Int32} {t b : Nat} : ∀ m p c mx mn s fl, (∀ q, p + m ≤ q → q < p + m + b → bt (orS σ (nI t)) q = false) → wkF σ md T t (m + b) p c mx mn s fl = wkF σ md T t m p c mx mn s fl := by
  intro m
  induction m with
  | zero =>
    intro p c mx mn s fl h
    rw [Nat.zero_add]
    induction b generalizing p with
    | zero => rfl
    | succ b ih =>
      have st : wkF σ md T t (b + 1) p c mx mn s fl = wkF σ md T t b (p + 1) c mx mn s fl := by
        rw [show wkF σ md T t (b + 1) p c mx mn s fl = _ from by unfold wkF; rfl, if_neg (by rw [h p (by omega) (by omega)]; exact Bool.false_ne_true)]
      exact st.trans ((ih (p + 1) (fun q q1 q2 => h q (by omega) (by omega))).trans rfl)
  | succ m ih =>
    intro p c mx mn s fl h
    rw [show m + 1 + b = (m + b) + 1 by omega, wkF, wkF]
    by_cases z : bt (orS σ (nI t)) p = true
    · rw [if_pos z, if_pos z]; exact ih _ _ _ _ _ _ (fun q q1 q2 => h q (by omega) (by omega))
    · rw [if_neg z, if_neg z]; exact ih _ _ _ _ _ _ (fun q q1 q2 => h q (by omega) (by omega))
theorem jn_2 {σ : Nat → Int32} {T : Nat → Int32} {t S : Nat} (hS : orS σ (nI t) = nI S) : ∀ k p c mx mn mx' mn' s fl cc, p + k = 12 → c = nI cc → cc ≤ p → (0 < cc ∨ 0 < S / 2 ^ p) → S < 4096 → jnF 2 T t k p (S / 2 ^ p) mx mn s = wkF σ 2 T t k p c mx' mn' s fl := by
  intro k
  induction k with
  | zero =>
    intro p c mx mn mx' mn' s fl cc hp hc h1 h2 h3
    have : p = 12 := by omega
    subst this
    have : ¬ c = 0 := fun q => by
      rw [hc] at q
      have := nI_inj (b := 0) (by omega) (by omega) q
      omega
    rw [jnF, wkF, if_neg (by decide), if_neg (by decide), if_pos rfl, if_neg (by decide), if_pos rfl, if_neg this]
  | succ k ih =>
    intro p c mx mn mx' mn' s fl cc hp hc h1 h2 h3
    have eb : bt (orS σ (nI t)) p = decide (S / 2 ^ p % 2 = 1) := by
      rw [hS, bt_nI (by omega), Nat.testBit_eq_decide_div_mod_eq]
    have ed : S / 2 ^ p / 2 = S / 2 ^ (p + 1) := by rw [Nat.div_div_eq_div_mul, Nat.pow_succ]
    rw [jnF, wkF, eb, ed]
    by_cases z : S / 2 ^ p % 2 = 1
    · rw [if_pos z, if_pos (decide_eq_true z)]
      exact ih (p + 1) _ _ _ _ _ _ _ (cc + 1) (by omega) (by rw [hc, nI_s1]) (by omega) (Or.inl (by omega)) h3
    · rw [if_neg z, if_neg (by rw [decide_eq_false z]; exact Bool.false_ne_true)]
      exact ih (p + 1) _ _ _ _ _ _ _ cc (by omega) hc (by omega) (by omega) h3
