/-! THE OUTLOOK: how great a value is -/
theorem wk_bd {σ : Nat → Int32} {T : Nat → Int32} {md : Int32} {t B : Nat} (hm : md = 0 ∨ md = 1 ∨ md = 3) (hB : B ≤ 90) (hT : ∀ p, p < 12 → bt (orS σ (nI t)) p = true → ∃ x, x + 1 ≤ B ∧ T (t ||| 2 ^ p) = nI x) : ∀ m p (a b cc e : Nat) s, p + m ≤ 12 → cc ≤ p → a ≤ B → b ≤ 99 → (0 < cc → b ≤ B) → e ≤ B → ∃ y, y ≤ B ∧ wkF σ md T t m p (nI cc) (nI a) (nI b) s (nI e) = nI y := by
  have nm4 : ¬ md = 4 := by rcases hm with e | e | e <;> subst e <;> decide
  intro m
  induction m with
  | zero =>
    intro p a b cc e s hp h1 ha hb hc he
    rw [wkF]
    rcases hm with q | q | q <;> subst q
    · simp only [show ¬ (0 : Int32) = 1 by decide, show ¬ (0 : Int32) = 2 by decide, show ¬ (0 : Int32) = 3 by decide, ↓reduceIte]
      exact ⟨a, ha, rfl⟩
    · simp only [↓reduceIte]
      by_cases z : cc = 0
      · subst z
        rw [if_pos (show nI 0 = 0 from rfl)]
        exact ⟨0, by omega, rfl⟩
      · rw [if_neg (show ¬ nI cc = 0 from fun q => z (nI_inj (b := 0) (by omega) (by omega) q))]
        exact ⟨b, hc (by omega), rfl⟩
    · simp only [show ¬ (3 : Int32) = 1 by decide, show ¬ (3 : Int32) = 2 by decide, ↓reduceIte]
      exact ⟨e, he, rfl⟩
  | succ m ih =>
    intro p a b cc e s hp h1 ha hb hc he
    rw [wkF]
    by_cases z : bt (orS σ (nI t)) p = true
    · obtain ⟨x, hx, ex⟩ := hT p (by omega) z
      rw [if_pos z, ex, if_neg nm4, nI_s1, nI_s1]
      have em : (if nI (x + 1) ≤ nI a then nI a else nI (x + 1)) = nI (max a (x + 1)) := by
        by_cases y : x + 1 ≤ a
        · rw [if_pos ((nI_le' (by omega) (by omega)).mpr y), Nat.max_eq_left y]
        · rw [if_neg (fun q => y ((nI_le' (by omega) (by omega)).mp q)), Nat.max_eq_right (by omega)]
      have en : (if nI b ≤ nI (x + 1) then nI b else nI (x + 1)) = nI (min b (x + 1)) := by
        by_cases y : b ≤ x + 1
        · rw [if_pos ((nI_le' (by omega) (by omega)).mpr y), Nat.min_eq_left y]
        · rw [if_neg (fun q => y ((nI_le' (by omega) (by omega)).mp q)), Nat.min_eq_right (by omega)]
      have ee : (if nI x = 0 then (1 : Int32) else nI e) = nI (if x = 0 then 1 else e) := by
        by_cases y : x = 0
        · subst y; rfl
        · rw [if_neg y, if_neg (show ¬ nI x = 0 from fun q => y (nI_inj (b := 0) (by omega) (by omega) q))]
      rw [em, en, ee]
      exact ih (p + 1) _ _ (cc + 1) _ _ (by omega) (by omega) (by omega) (by omega) (fun _ => by omega) (by split <;> omega)
    · rw [if_neg z]
      exact ih (p + 1) a b cc e s (by omega) (by omega) ha hb hc he
def cnB (f : Nat → Bool) : Nat → Nat
  | 0 => 0
  | m + 1 => cnB f m + (if f m = true then 0 else 1)
theorem cnB_le (f : Nat → Bool) : ∀ m, cnB f m ≤ m := by
  intro m
  induction m with
  | zero => exact Nat.le_refl 0
  | succ m ih => rw [cnB]; split <;> omega
theorem cnB_one {f g : Nat → Bool} {p : Nat} (h1 : f p = false) (h2 : g p = true) (h3 : ∀ q, q ≠ p → g q = f q) : ∀ m, cnB g m + (if p < m then 1 else 0) = cnB f m := by
  intro m
  induction m with
  | zero => rfl
  | succ m ih =>
    rw [cnB, cnB]
    by_cases z : m = p
    · subst z
      rw [h1, h2, if_pos rfl, if_neg Bool.false_ne_true, if_pos (by omega)]
      rw [if_neg (by omega)] at ih
      omega
    · rw [h3 m z]
      by_cases y : p < m
      · rw [if_pos y] at ih; rw [if_pos (show p < m + 1 by omega)]; omega
      · rw [if_neg y] at ih; rw [if_neg (show ¬ p < m + 1 by omega)]; omega
def frT (t : Nat) : Nat := cnB (fun i => t.testBit i) 12
theorem frT_or {t p : Nat} (hp : p < 12) (h : t.testBit p = false) : frT (t ||| 2 ^ p) + 1 = frT t := by
  have := cnB_one (f := fun i => t.testBit i) (g := fun i => (t ||| 2 ^ p).testBit i) (p := p) h (by show (t ||| 2 ^ p).testBit p = true; rw [Nat.testBit_or, Nat.testBit_two_pow_self, Bool.or_true]) (fun q hq => by show (t ||| 2 ^ p).testBit q = t.testBit q; rw [Nat.testBit_or, Nat.testBit_two_pow_of_ne (fun e => hq e.symm), Bool.or_false]) 12
  rw [if_pos hp] at this
  exact this
theorem gW_bd {σ : Nat → Int32} (hS : Sv σ) {md : Int32} (hm : md = 0 ∨ md = 1 ∨ md = 3) : ∀ d t, t < 2 ^ n_ σ → 4096 - t ≤ d → ∃ y, y ≤ frT t ∧ gW σ md t = nI y := by
  have h12 := hS.n12
  intro d
  induction d with
  | zero => intro t ht g; have := pw12 h12; omega
  | succ d ih =>
    intro t ht g
    rw [gW_eq hS md ht]
    unfold wk
    have hB : frT t ≤ 90 := Nat.le_trans (cnB_le _ 12) (by decide)
    refine wk_bd hm hB (fun p hp z => ?_) (n_ σ) 0 0 99 0 0 0 (by omega) (by omega) (by omega) (by omega) (fun q => by omega) (by omega)
    obtain ⟨q1, q2⟩ := or_no hS ht (by omega) z
    have := or_gt q2
    have := pw12 h12
    have o := or_lt ht q1
    obtain ⟨y, y1, y2⟩ := ih (t ||| 2 ^ p) o (by omega)
    have := frT_or hp q2
    exact ⟨y, by omega, y2⟩
