/-! THE OUTLOOK: the class -/
theorem low_all : ∀ p, p < 12 → ∀ m, m < 2 ^ (11 - p) → nI (2 ^ p * (2 * m + 1)) &&& (-(nI (2 ^ p * (2 * m + 1)))) = nI (2 ^ p) ∧ nI (2 ^ p * (2 * m + 1)) &&& (nI (2 ^ p * (2 * m + 1)) - 1) = nI (2 ^ (p + 1) * m) := by decide +kernel
def cbF : Nat → Nat → Nat
  | 0, _ => 0
  | k + 1, M => M % 2 + cbF k (M / 2)
theorem cb_all : ∀ a, a < 64 → ∀ c, c < 64 → ct (nI (64 * a + c)) 12 = cbF 12 (64 * a + c) := by decide +kernel
theorem cb_ct {s : Nat} (h : s < 4096) : ct (nI s) 12 = cbF 12 s := by
  have := cb_all (s / 64) (by omega) (s % 64) (by omega)
  rw [show 64 * (s / 64) + s % 64 = s by omega] at this
  exact this
theorem cb_le : ∀ k M, cbF k M ≤ k := by
  intro k
  induction k with
  | zero => intro M; exact Nat.le_refl 0
  | succ k ih => intro M; have := ih (M / 2); rw [cbF]; omega
/-- joined, place after place -/
def jnF (md : Int32) (T : Nat → Int32) (t : Nat) : Nat → Nat → Nat → Int32 → Int32 → Int64 → Int32
  | 0, _, _, mx, mn, s => if md = 0 then mx + 1 else if md = 1 then mn + 1 else if md = 2 then Int64.toInt32 (lrem s 1000000007) else if mn = 0 then 1 else 0
  | k + 1, p, M, mx, mn, s => if M % 2 = 1 then jnF md T t k (p + 1) (M / 2) (if T (t ||| 2 ^ p) ≤ mx then mx else T (t ||| 2 ^ p)) (if mn ≤ T (t ||| 2 ^ p) then mn else T (t ||| 2 ^ p)) (s + Int32.toInt64 (T (t ||| 2 ^ p))) else jnF md T t k (p + 1) (M / 2) mx mn s
theorem x_jnd {w : Wd} (h : Lay w) {t : Nat} (ht : t < 4096) (md : Int32) : ∀ k p M n (mx mn : Int32) (s : Int64), p + k = 12 → M < 2 ^ k → cbF k M < n → L_X2_joined_34 n 58 (nI t) md mx mn s (nI (2 ^ p * M)) (nI (cbF k M)) w = some (jnF md (wI w 59) t k p M mx mn s, w) := by
  intro k
  induction k with
  | zero =>
    intro p M n mx mn s hp hM hn
    obtain ⟨n, rfl⟩ : ∃ j, n = j + 1 := ⟨n - 1, by omega⟩
    unfold L_X2_joined_34
    rw [if_pos (show nI (cbF 0 M) ≤ 0 from by rw [cbF]; decide), jnF]
    by_cases d0 : md = 0
    · rw [if_pos d0, if_pos d0]
    rw [if_neg d0, if_neg d0]
    by_cases d1 : md = 1
    · rw [if_pos d1, if_pos d1]
    rw [if_neg d1, if_neg d1]
    by_cases d2 : md = 2
    · rw [if_pos d2, if_pos d2]
    rw [if_neg d2, if_neg d2]
  | succ k ih =>
    intro p M n mx mn s hp hM hn
    have h2 : M / 2 < 2 ^ k := by rw [Nat.pow_succ] at hM; omega
    rw [jnF]
    by_cases z : M % 2 = 1
    · have hc : cbF (k + 1) M = cbF k (M / 2) + 1 := by rw [cbF]; omega
      rw [hc] at hn ⊢
      obtain ⟨n, rfl⟩ : ∃ j, n = j + 1 := ⟨n - 1, by omega⟩
      have := cb_le k (M / 2)
      rw [if_pos z]
      unfold L_X2_joined_34
      obtain ⟨l1, l2⟩ := low_all p (by omega) (M / 2) (by rw [show 11 - p = k by omega]; exact h2)
      rw [show 2 * (M / 2) + 1 = M by omega] at l1 l2
      have tl : t ||| 2 ^ p < 4096 := Nat.or_lt_two_pow (n := 12) ht (Nat.pow_lt_pow_right (by decide) (by omega))
      rw [if_neg (fun y : nI (cbF k (M / 2) + 1) ≤ 0 => by have := (nI_le' (b := 0) (by omega) (by omega)).mp y; omega)]
      simp only [l1, l2, nI_or, lk_58 h, ↓reduceIte, lr_58_0 h, bd1_s, la_59 h tl, nx_nI (show t ||| 2 ^ p < 2 ^ 31 by omega), lb_e, nI_m1 (show 1 ≤ cbF k (M / 2) + 1 by omega), Nat.add_sub_cancel]
      exact ih (p + 1) (M / 2) n _ _ _ (by omega) h2 (by omega)
    · have hc : cbF (k + 1) M = cbF k (M / 2) := by rw [cbF]; omega
      rw [if_neg z, hc, show 2 ^ p * M = 2 ^ (p + 1) * (M / 2) by rw [Nat.pow_succ, Nat.mul_assoc]; congr 1; omega]
      rw [hc] at hn
      exact ih (p + 1) (M / 2) n _ _ _ (by omega) h2 hn
