/-! SIDES: who may sit where -/
def sd (σ : Nat → Int32) (t : Int32) (j : Nat) : Bool := if σ 3 = 1 then bt t ((j + n_ σ - 1) % n_ σ) else if 1 ≤ j ∧ j ≤ n_ σ then bt t (j - 1) else decide (σ 4 = 1)
def fs_ (σ : Nat → Int32) (j : Nat) : Bool := if σ 3 = 0 ∧ ¬ (1 ≤ j ∧ j ≤ n_ σ) then false else bt (tf σ) ((j + n_ σ - 1) % n_ σ)
def cnd (k : Int32) (x y z : Bool) : Bool := if k = 2 then (x == y) || z else if k = 3 ∨ k = 5 then !x && !y else if k = 4 then (x == y) || (z || (x || y)) else x == y
def myS (σ : Nat → Int32) (k : Int32) (p : Nat) : Bool := decide ((k = 1 ∨ k = 3) → p + 1 < n_ σ ∨ (σ 3 = 1 ∧ 2 ≤ n_ σ)) && (decide (sat_ σ k p &&& tk σ = 0) && cnd k (sd σ (tk σ) p) (sd σ (tk σ) (if k = 1 ∨ k = 3 then p + 3 else p + 2)) (decide (k = 2 ∨ k = 4) && (fs_ σ p || fs_ σ (p + 2))))
def plK (σ : Nat → Int32) (k : Int32) : Int32 := oU (fun p => if myS σ k p then ps p else 0) (n_ σ)
def pl (σ : Nat → Int32) (i : Nat) : Int32 := if sv σ i 1 < 0 then plK σ (sv σ i 0) else 0
/-! the reference -/
theorem m_isPlace {w : Wd} {σ : Nat → Int32} (h : Lay w) (hσ : wI w 97 = σ) (v : Int32) : f_X9_isPlace 96 v w = some (wi_ v 0 (σ 2 - 1), w) := by
  simp only [f_X9_isPlace, lk_96 h, lr_96_0 h, bd1_s, bd2_s, lb_e, ↓reduceIte, show aK 11 w 97 2 = true from la_97 h (show 2 < 1444 by decide), wi_M, wi_z, hσ, show nx 2 = 2 from rfl]
theorem m_isSitter {w : Wd} {σ : Nat → Int32} (h : Lay w) (hσ : wI w 97 = σ) (v : Int32) : f_X9_isSitter 96 v w = some (wi_ v 0 (σ 1 - 1), w) := by
  simp only [f_X9_isSitter, lk_96 h, lr_96_0 h, bd1_s, bd2_s, lb_e, ↓reduceIte, show aK 11 w 97 1 = true from la_97 h (show 1 < 1444 by decide), wi_M, wi_z, hσ, show nx 1 = 1 from rfl]
theorem bh {p : Nat} (hp : p < 32) (x : Int32) : (if (x >>> (nI p &&& 31)) &&& 1 = 1 then (1 : Int32) else 0) = if bt x p then 1 else 0 := by
  rw [b_has hp]
  cases bt x p <;> decide
theorem wi_out {j n : Nat} (hn : n < 2 ^ 30) (hj : j < 2 ^ 30) (h : ¬ (1 ≤ j ∧ j ≤ n)) : wi_ (nI j - 1) 0 (nI n - 1) = 0 := by
  by_cases q : wi_ (nI j - 1) 0 (nI n - 1) = 0
  · exact q
  · have := wi_i q
    rw [sub1_I (by omega), sub1_I (by omega), show (0 : Int32).toInt = 0 from rfl] at this
    omega
theorem pr_nI {j : Nat} (h : 1 ≤ j) : nI j - 1 = nI (j - 1) := by
  rw [show (1 : Int32) = nI 1 from rfl, nI_sub h]
theorem m_isSome {w : Wd} {σ : Nat → Int32} (h : Lay w) (hσ : wI w 97 = σ) (hS : Sv σ) (t : Int32) {j : Nat} (hj : j ≤ 20) : f_X9_isSome 96 t (nI j - 1) w = some (if sd σ t j then 1 else 0, w) := by
  have hn := hS.n12
  have h1 := hS.n1
  have e3 : aK 11 w 97 3 = true := la_97 h (show 3 < 1444 by decide)
  have e2 : aK 11 w 97 2 = true := la_97 h (show 2 < 1444 by decide)
  have e4 : aK 11 w 97 4 = true := la_97 h (show 4 < 1444 by decide)
  by_cases hr : σ 3 = 1
  · have er : irem (nI j - 1 + nI (n_ σ)) (nI (n_ σ)) = nI ((j + n_ σ - 1) % n_ σ) := by
      rw [show nI j - 1 + nI (n_ σ) = nI (j + n_ σ - 1) by
        rw [show nI j - 1 + nI (n_ σ) = nI j + nI (n_ σ) - 1 by rw [Int32.sub_eq_add_neg, Int32.sub_eq_add_neg, Int32.add_assoc, Int32.add_assoc, Int32.add_comm (-1)], nI_add, pr_nI (by omega)], irem_nI (by omega) (by omega) (by omega)]
    have hm := Nat.mod_lt (j + n_ σ - 1) (show 0 < n_ σ by omega)
    simp only [f_X9_isSome, lk_96 h, lr_96_0 h, bd1_s, bd2_s, lb_e, ↓reduceIte, e3, e2, hσ, show nx 3 = 3 from rfl, show nx 2 = 2 from rfl, hr, hS.n, nI_ne0 (show 0 < n_ σ by omega) (show n_ σ < 2 ^ 31 by omega), not_false_eq_true, er, bh (show (j + n_ σ - 1) % n_ σ < 32 by omega), sd]
  · simp only [f_X9_isSome, lk_96 h, lr_96_0 h, bd1_s, bd2_s, lb_e, ↓reduceIte, e3, hσ, show nx 3 = 3 from rfl, hr, m_isPlace h hσ, hS.n]
    by_cases q : 1 ≤ j ∧ j ≤ n_ σ
    · rw [pr_nI q.1, wi_k (by omega) (by omega)]
      simp only [show ¬ (1 : Int32) = 0 by decide, ↓reduceIte, bh (show j - 1 < 32 by omega), sd, hr, q, and_self]
    · rw [wi_out (by omega) (by omega) q]
      simp only [↓reduceIte, e4, show nx 4 = 4 from rfl, sd, hr, q, decide_eq_true_eq]
theorem m_isByFriend {w : Wd} {σ : Nat → Int32} (h : Lay w) (hσ : wI w 97 = σ) (hS : Sv σ) {j : Nat} (hj : j ≤ 20) : f_X9_isByFriend 96 (nI j - 1) w = some (if fs_ σ j then 1 else 0, w) := by
  have hn := hS.n12
  have h1 := hS.n1
  have hc := hS.c12
  have e3 : aK 11 w 97 3 = true := la_97 h (show 3 < 1444 by decide)
  have e2 : aK 11 w 97 2 = true := la_97 h (show 2 < 1444 by decide)
  have e1 : aK 11 w 97 1 = true := la_97 h (show 1 < 1444 by decide)
  have L : ∀ q, q < 32 → ∀ n k, k ≤ c_ σ → c_ σ - k < n → L_X9_isByFriend_40 n 96 (nI q) (if bt (oU (fun i => if sv σ i 0 = 2 ∨ sv σ i 0 = 4 then so σ i else 0) k) q then 1 else 0) (nI k) w = some (if bt (tf σ) q then 1 else 0, w) := by
    intro q hq n
    induction n with
    | zero => intro k _ h2; omega
    | succ n ih =>
      intro k g1 g2
      unfold L_X9_isByFriend_40
      simp only [lk_96 h, lr_96_0 h, bd1_s, bd2_s, lb_e, ↓reduceIte, e1, hσ, show nx 1 = 1 from rfl, hS.c]
      by_cases e : k = c_ σ
      · rw [if_pos ((nI_le' (by omega) (by omega)).mpr (by omega)), e]
        show (if _ then _ else _) = _
        unfold tf
        cases bt (oU (fun i => if sv σ i 0 = 2 ∨ sv σ i 0 = 4 then so σ i else 0) (c_ σ)) q <;> simp
      · have hne : ¬ nI (c_ σ) ≤ nI k := fun q => e (by have := (nI_le' (by omega) (by omega)).mp q; omega)
        have ihk := ih (k + 1) (by omega) (by omega)
        rw [oU, b_or] at ihk
        have o0 := m_of0 h (show k < 12 by omega)
        rw [hσ] at o0
        rw [if_neg hne]
        cases hb : bt (oU (fun i => if sv σ i 0 = 2 ∨ sv σ i 0 = 4 then so σ i else 0) k) q
        · rw [hb, Bool.false_or] at ihk
          by_cases hw : sv σ k 0 = 2 ∨ sv σ k 0 = 4
          · rw [if_pos hw] at ihk
            simp only [Bool.false_eq_true, ↓reduceIte, o0, bd2_s, m_isFriend, hw, show ¬ (1 : Int32) = 0 by decide, lk_96 h, m_setOf h hσ hS (show k < c_ σ by omega), lb_e, bh hq, nI_s1]
            exact ihk
          · rw [if_neg hw, b_0] at ihk
            simp only [Bool.false_eq_true, ↓reduceIte, o0, bd2_s, m_isFriend, hw, lb_e, nI_s1]
            exact ihk
        · rw [hb, Bool.true_or] at ihk
          simp only [↓reduceIte, show ¬ (1 : Int32) = 0 by decide, j_X9_isByFriend_82, lb_e, nI_s1]
          exact ihk
  have hJ : j_X9_isByFriend_19 96 (nI j - 1) w = some (if bt (tf σ) ((j + n_ σ - 1) % n_ σ) then 1 else 0, w) := by
    have er : irem (nI j - 1 + nI (n_ σ)) (nI (n_ σ)) = nI ((j + n_ σ - 1) % n_ σ) := by
      rw [show nI j - 1 + nI (n_ σ) = nI (j + n_ σ - 1) by
        rw [show nI j - 1 + nI (n_ σ) = nI j + nI (n_ σ) - 1 by rw [Int32.sub_eq_add_neg, Int32.sub_eq_add_neg, Int32.add_assoc, Int32.add_assoc, Int32.add_comm (-1)], nI_add, pr_nI (by omega)], irem_nI (by omega) (by omega) (by omega)]
    have hm := Nat.mod_lt (j + n_ σ - 1) (show 0 < n_ σ by omega)
    simp only [j_X9_isByFriend_19, lk_96 h, lr_96_0 h, bd1_s, bd2_s, lb_e, ↓reduceIte, e2, hσ, show nx 2 = 2 from rfl, hS.n, nI_ne0 (show 0 < n_ σ by omega) (show n_ σ < 2 ^ 31 by omega), not_false_eq_true, er]
    have := L _ (show (j + n_ σ - 1) % n_ σ < 32 by omega) FU 0 (by omega) (by unfold FU; omega)
    simp only [oU, b_0] at this
    exact this
  by_cases hr : σ 3 = 0
  · simp only [f_X9_isByFriend, lk_96 h, lr_96_0 h, bd1_s, bd2_s, lb_e, ↓reduceIte, e3, hσ, show nx 3 = 3 from rfl, hr, m_isPlace h hσ, hS.n]
    by_cases q : 1 ≤ j ∧ j ≤ n_ σ
    · have hw : wi_ (nI j - 1) 0 (nI (n_ σ) - 1) = 1 := by rw [pr_nI q.1, wi_k (by omega) (by omega)]
      rw [hw]
      simp only [show ¬ (1 : Int32) = 0 by decide, ↓reduceIte, hJ, fs_, hr, q, and_self, not_true_eq_false, and_false]
    · rw [wi_out (by omega) (by omega) q]
      simp only [↓reduceIte, fs_, hr, q, not_false_eq_true, and_self, Bool.false_eq_true]
  · simp only [f_X9_isByFriend, lk_96 h, lr_96_0 h, bd1_s, bd2_s, lb_e, ↓reduceIte, e3, hσ, show nx 3 = 3 from rfl, hr, hJ, fs_, false_and]
