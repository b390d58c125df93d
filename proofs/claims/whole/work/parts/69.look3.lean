/-! THE OUTLOOK: both ways of joining -/
theorem wk_more {σ : Nat → Int32} {md : Int32} {T : Nat → Int32} {t b : Nat} : ∀ m p c mx mn s fl, (∀ q, p + m ≤ q → q < p + m + b → bt (orS σ (nI t)) q = false) → wkF σ md T t (m + b) p c mx mn s fl = wkF σ md T t m p c mx mn s fl := by
  intro m
  induction m with
  | zero =>
    intro p c mx mn s fl h
    rw [Nat.zero_add]
    induction b generalizing p with
    | zero => rfl
    | succ b ih =>
      have st : wkF σ md T t (b + 1) p c mx mn s fl = wkF σ md T t b (p + 1) c mx mn s fl := by
        rw [show wkF σ md T t (b + 1) p c mx mn s fl = _ from by unfold wkF; rfl, if_neg (by rw [h p (by omega) (by omega)]; exact Bool.false_ne_true)]
      exact st.trans ((ih (p + 1) (fun q q1 q2 => h q (by omega) (by omega))).trans rfl)
  | succ m ih =>
    intro p c mx mn s fl h
    rw [show m + 1 + b = (m + b) + 1 by omega, wkF, wkF]
    by_cases z : bt (orS σ (nI t)) p = true
    · rw [if_pos z, if_pos z]; exact ih _ _ _ _ _ _ (fun q q1 q2 => h q (by omega) (by omega))
    · rw [if_neg z, if_neg z]; exact ih _ _ _ _ _ _ (fun q q1 q2 => h q (by omega) (by omega))
theorem jn_2 {σ : Nat → Int32} {T : Nat → Int32} {t S : Nat} (hS : orS σ (nI t) = nI S) : ∀ k p c mx mn mx' mn' s fl cc, p + k = 12 → c = nI cc → cc ≤ p → (0 < cc ∨ 0 < S / 2 ^ p) → S < 4096 → jnF 2 T t k p (S / 2 ^ p) mx mn s = wkF σ 2 T t k p c mx' mn' s fl := by
  intro k
  induction k with
  | zero =>
    intro p c mx mn mx' mn' s fl cc hp hc h1 h2 h3
    have : p = 12 := by omega
    subst this
    have : ¬ c = 0 := fun q => by
      rw [hc] at q
      have := nI_inj (b := 0) (by omega) (by omega) q
      omega
    rw [jnF, wkF, if_neg (by decide), if_neg (by decide), if_pos rfl, if_neg (by decide), if_pos rfl, if_neg this]
  | succ k ih =>
    intro p c mx mn mx' mn' s fl cc hp hc h1 h2 h3
    have eb : bt (orS σ (nI t)) p = decide (S / 2 ^ p % 2 = 1) := by
      rw [hS, bt_nI (by omega), Nat.testBit_eq_decide_div_mod_eq]
    have ed : S / 2 ^ p / 2 = S / 2 ^ (p + 1) := by rw [Nat.div_div_eq_div_mul, Nat.pow_succ]
    rw [jnF, wkF, eb, ed]
    by_cases z : S / 2 ^ p % 2 = 1
    · rw [if_pos z, if_pos (decide_eq_true z)]
      exact ih (p + 1) _ _ _ _ _ _ _ (cc + 1) (by omega) (by rw [hc, nI_s1]) (by omega) (Or.inl (by omega)) h3
    · rw [if_neg z, if_neg (by rw [decide_eq_false z]; exact Bool.false_ne_true)]
      exact ih (p + 1) _ _ _ _ _ _ _ cc (by omega) hc (by omega) (by omega) h3
theorem jn_x {σ : Nat → Int32} {T : Nat → Int32} {md : Int32} {t S : Nat} (hm : md = 0 ∨ md = 1 ∨ md = 3) (hS : orS σ (nI t) = nI S) (hT : ∀ p, p < 12 → bt (orS σ (nI t)) p = true → ∃ x, x ≤ 97 ∧ T (t ||| 2 ^ p) = nI x) : ∀ k p (a b cc : Nat) (mx' mn' fl : Int32) s s', p + k = 12 → cc ≤ p → (0 < cc ∨ 0 < S / 2 ^ p) → S < 4096 → (cc = 0 → a = 0 ∧ b = 1000000007 ∧ mx' = 0 ∧ mn' = 99 ∧ fl = 0) → (0 < cc → a ≤ 97 ∧ b ≤ 97 ∧ mx' = nI (a + 1) ∧ mn' = nI (b + 1) ∧ fl = if b = 0 then 1 else 0) → jnF md T t k p (S / 2 ^ p) (nI a) (nI b) s = wkF σ md T t k p (nI cc) mx' mn' s' fl := by
  have nm4 : ¬ md = 4 := by rcases hm with e | e | e <;> subst e <;> decide
  intro k
  induction k with
  | zero =>
    intro p a b cc mx' mn' fl s s' hp h1 h2 h3 q0 q1
    have : p = 12 := by omega
    subst this
    have hc : 0 < cc := by omega
    obtain ⟨ha, hb, rfl, rfl, rfl⟩ := q1 hc
    have nc : ¬ nI cc = 0 := fun q => by
      have := nI_inj (b := 0) (by omega) (by omega) q
      omega
    rw [jnF, wkF]
    rcases hm with e | e | e <;> subst e
    · rw [if_pos rfl, if_neg (by decide), if_neg (by decide), if_neg (by decide), nI_s1]
    · rw [if_neg (by decide), if_pos rfl, if_pos rfl, if_neg nc, nI_s1]
    · simp only [show ¬ (3 : Int32) = 0 by decide, show ¬ (3 : Int32) = 1 by decide, show ¬ (3 : Int32) = 2 by decide, ↓reduceIte]
      by_cases z : b = 0
      · subst z; rfl
      · rw [if_neg z, if_neg (show ¬ nI b = 0 from fun q => z (nI_inj (b := 0) (by omega) (by omega) q))]
  | succ k ih =>
    intro p a b cc mx' mn' fl s s' hp h1 h2 h3 q0 q1
    have eb : bt (orS σ (nI t)) p = decide (S / 2 ^ p % 2 = 1) := by
      rw [hS, bt_nI (by omega), Nat.testBit_eq_decide_div_mod_eq]
    have ed : S / 2 ^ p / 2 = S / 2 ^ (p + 1) := by rw [Nat.div_div_eq_div_mul, Nat.pow_succ]
    rw [jnF, wkF, ed]
    by_cases z : S / 2 ^ p % 2 = 1
    · have zb : bt (orS σ (nI t)) p = true := by rw [eb]; exact decide_eq_true z
      obtain ⟨x, hx, ex⟩ := hT p (by omega) zb
      rw [if_pos z, if_pos zb, ex, if_neg nm4, nI_s1, nI_s1]
      have em : (if nI x ≤ nI a then nI a else nI x) = nI (max a x) := by
        have ha : a < 2 ^ 31 := by
          rcases Nat.eq_zero_or_pos cc with c | c
          · have := (q0 c).1; omega
          · have := (q1 c).1; omega
        by_cases y : x ≤ a
        · rw [if_pos ((nI_le' (by omega) (by omega)).mpr y), Nat.max_eq_left y]
        · rw [if_neg (fun q => y ((nI_le' (by omega) (by omega)).mp q)), Nat.max_eq_right (by omega)]
      have en : (if nI b ≤ nI x then nI b else nI x) = nI (min b x) := by
        have hb : b < 2 ^ 31 := by
          rcases Nat.eq_zero_or_pos cc with c | c
          · have := (q0 c).2.1; omega
          · have := (q1 c).2.1; omega
        by_cases y : b ≤ x
        · rw [if_pos ((nI_le' (by omega) (by omega)).mpr y), Nat.min_eq_left y]
        · rw [if_neg (fun q => y ((nI_le' (by omega) (by omega)).mp q)), Nat.min_eq_right (by omega)]
      rw [em, en]
      refine ih (p + 1) (max a x) (min b x) (cc + 1) _ _ _ _ _ (by omega) (by omega) (Or.inl (by omega)) h3 (fun q => by omega) (fun _ => ?_)
      by_cases c : cc = 0
      · obtain ⟨rfl, rfl, rfl, rfl, rfl⟩ := q0 c
        refine ⟨by omega, by omega, ?_, ?_, ?_⟩
        · rw [if_neg (fun q : nI (x + 1) ≤ 0 => by have := (nI_le' (b := 0) (by omega) (by omega)).mp q; omega), Nat.max_eq_right (by omega)]
        · rw [Nat.min_eq_right (by omega)]
          by_cases y : 99 ≤ x + 1
          · omega
          · rw [if_neg (fun q : (99 : Int32) ≤ nI (x + 1) => y ((nI_le' (a := 99) (by omega) (by omega)).mp q))]
        · rw [Nat.min_eq_right (by omega)]
          by_cases y : x = 0
          · subst y; rfl
          · rw [if_neg y, if_neg (show ¬ nI x = 0 from fun q => y (nI_inj (b := 0) (by omega) (by omega) q))]
      · obtain ⟨ha, hb, rfl, rfl, rfl⟩ := q1 (by omega)
        refine ⟨by omega, by omega, ?_, ?_, ?_⟩
        · by_cases y : x ≤ a
          · rw [if_pos ((nI_le' (by omega) (by omega)).mpr (by omega)), Nat.max_eq_left y]
          · rw [if_neg (fun q => y (by have := (nI_le' (by omega) (by omega)).mp q; omega)), Nat.max_eq_right (by omega)]
        · by_cases y : b ≤ x
          · rw [if_pos ((nI_le' (by omega) (by omega)).mpr (by omega)), Nat.min_eq_left y]
          · rw [if_neg (fun q => y (by have := (nI_le' (by omega) (by omega)).mp q; omega)), Nat.min_eq_right (by omega)]
        · by_cases y : x = 0
          · subst y; rw [Nat.min_eq_right (by omega)]; rfl
          · rw [if_neg (show ¬ nI x = 0 from fun q => y (nI_inj (b := 0) (by omega) (by omega) q))]
            by_cases y2 : b = 0
            · subst y2; rw [Nat.min_eq_left (by omega)]
            · rw [if_neg y2, if_neg (by omega)]
    · rw [if_neg z, if_neg (by rw [eb, decide_eq_false z]; exact Bool.false_ne_true)]
      exact ih (p + 1) _ _ cc _ _ _ _ _ (by omega) (by omega) (by omega) h3 q0 q1
