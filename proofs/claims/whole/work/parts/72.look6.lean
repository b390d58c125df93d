/-! SUBSETS, ONE AFTER ANOTHER -/
def rk : Nat → Nat → Nat → Nat
  | 0, _, _ => 0
  | k + 1, F, v => if F % 2 = 1 then v % 2 + 2 * rk k (F / 2) (v / 2) else rk k (F / 2) (v / 2)
def sb : Nat → Nat → Nat → Prop
  | 0, _, v => v = 0
  | k + 1, F, v => (v % 2 = 1 → F % 2 = 1) ∧ sb k (F / 2) (v / 2)
theorem and_2 (a b : Nat) : (a &&& b) % 2 = (a % 2) * (b % 2) ∧ (a &&& b) / 2 = (a / 2) &&& (b / 2) := by
  refine ⟨?_, Nat.and_div_two⟩
  rw [Nat.and_mod_two_pow (n := 1)]
  rcases Nat.mod_two_eq_zero_or_one a with h | h <;> rcases Nat.mod_two_eq_zero_or_one b with g | g <;> simp only [Nat.pow_one, h, g] <;> rfl
theorem sb_and : ∀ k F v, sb k F v → v &&& F = v := by
  intro k
  induction k with
  | zero => intro F v h; rw [sb] at h; subst h; exact Nat.zero_and F
  | succ k ih =>
    intro F v h
    obtain ⟨a1, a2⟩ := and_2 v F
    have := ih (F / 2) (v / 2) h.2
    rw [this] at a2
    have e : (v &&& F) % 2 = v % 2 := by
      rw [a1]
      rcases Nat.mod_two_eq_zero_or_one v with q | q
      · rw [q, Nat.zero_mul]
      · rw [q, h.1 q]
    omega
theorem sb_0 : ∀ k F, sb k F 0 := by
  intro k
  induction k with
  | zero => intro F; rfl
  | succ k ih => intro F; exact ⟨fun h => by omega, ih _⟩
theorem rk_0 : ∀ k F, rk k F 0 = 0 := by
  intro k
  induction k with
  | zero => intro F; rfl
  | succ k ih => intro F; rw [rk, show 0 / 2 = 0 from rfl, ih, show 0 % 2 = 0 from rfl]; split <;> rfl
theorem rk_mono : ∀ k F u v, sb k F u → sb k F v → u < v → rk k F u < rk k F v := by
  intro k
  induction k with
  | zero => intro F u v hu hv h; rw [sb] at hu hv; omega
  | succ k ih =>
    intro F u v hu hv h
    rw [rk, rk]
    by_cases z : F % 2 = 1
    · rw [if_pos z, if_pos z]
      by_cases y : u / 2 < v / 2
      · have := ih (F / 2) (u / 2) (v / 2) hu.2 hv.2 y
        omega
      · have : u / 2 = v / 2 := by omega
        rw [this]
        omega
    · rw [if_neg z, if_neg z]
      have u0 : u % 2 = 0 := by
        rcases Nat.mod_two_eq_zero_or_one u with q | q
        · exact q
        · exact absurd (hu.1 q) z
      have v0 : v % 2 = 0 := by
        rcases Nat.mod_two_eq_zero_or_one v with q | q
        · exact q
        · exact absurd (hv.1 q) z
      exact ih (F / 2) (u / 2) (v / 2) hu.2 hv.2 (by omega)
theorem rk_next : ∀ k F v, sb k F v → 0 < v → sb k F ((v - 1) &&& F) ∧ rk k F ((v - 1) &&& F) + 1 = rk k F v := by
  intro k
  induction k with
  | zero => intro F v hv h; rw [sb] at hv; omega
  | succ k ih =>
    intro F v hv h
    obtain ⟨a1, a2⟩ := and_2 (v - 1) F
    rw [sb, rk, rk, a2]
    by_cases y : v % 2 = 1
    · have z := hv.1 y
      have e1 : (v - 1) / 2 = v / 2 := by omega
      have e0 : ((v - 1) &&& F) % 2 = 0 := by rw [a1, show (v - 1) % 2 = 0 by omega, Nat.zero_mul]
      have es : (v / 2) &&& (F / 2) = v / 2 := sb_and k _ _ hv.2
      rw [e1, es, e0, if_pos z, if_pos z, y]
      exact ⟨⟨fun q => by omega, hv.2⟩, by omega⟩
    · have e1 : (v - 1) / 2 = v / 2 - 1 := by omega
      have hp : 0 < v / 2 := by omega
      obtain ⟨i1, i2⟩ := ih (F / 2) (v / 2) hv.2 hp
      have e0 : ((v - 1) &&& F) % 2 = F % 2 := by rw [a1, show (v - 1) % 2 = 1 by omega, Nat.one_mul]
      rw [e1, e0]
      refine ⟨⟨fun q => q, i1⟩, ?_⟩
      by_cases z : F % 2 = 1
      · rw [if_pos z, if_pos z]; omega
      · rw [if_neg z, if_neg z]; exact i2
