/-! THE OUTLOOK: joined -/
theorem orS_Bd {σ : Nat → Int32} (hS : Sv σ) {t : Nat} (ht : t < 2 ^ n_ σ) : Bd σ (orS σ (nI t)) := fun i hi q => (or_no hS ht hi q).1
theorem x_joined {w : Wd} {σ : Nat → Int32} (h : Lay w) (hS : Sv σ) {md : Int32} (hm : md = 0 ∨ md = 1 ∨ md = 2 ∨ md = 3) {t : Nat} (ht : t < 2 ^ n_ σ) (hT : ∀ p, p < 12 → bt (orS σ (nI t)) p = true → wI w 59 (t ||| 2 ^ p) = gW σ md (t ||| 2 ^ p)) : f_X2_joined 58 (nI t) (orS σ (nI t)) md w = some (gW σ md t, w) := by
  have h12 := hS.n12
  have h4 := pw12 h12
  have hB := orS_Bd hS ht
  have e12 : wk σ md (gW σ md) t = wkF σ md (gW σ md) t 12 0 0 0 99 0 0 := by
    unfold wk
    rw [show (12 : Nat) = n_ σ + (12 - n_ σ) by omega]
    exact (wk_more _ _ _ _ _ _ _ (fun q q1 q2 => hB.f (by omega) (by omega))).symm
  rw [gW_eq hS md ht, e12]
  unfold f_X2_joined
  by_cases z : orS σ (nI t) = 0
  · rw [if_pos z]
    have := wk_more (σ := σ) (md := md) (T := gW σ md) (t := t) (b := 12) 0 0 0 0 99 0 0 (fun q _ _ => by rw [z, b_0])
    rw [show 0 + 12 = 12 from rfl] at this
    rw [this, wkF]
    rcases hm with e | e | e | e <;> subst e <;> rfl
  · rw [if_neg z]
    obtain ⟨S, s1, s2⟩ := Bd_nat hB
    have hS4 : S < 4096 := by omega
    have sp : 0 < S := by
      rcases Nat.eq_zero_or_pos S with q | q
      · subst q; exact absurd s2 z
      · exact q
    have J := x_jnd h (show t < 4096 by omega) md 12 0 S FU 0 1000000007 0 (by decide) hS4 (by have := cb_le 12 S; unfold FU; omega)
    rw [show 2 ^ 0 * S = S by omega, ← cb_ct hS4, ← s2] at J
    rw [j_pc (hB.b12 hS), bd2_s, J]
    have cg : jnF md (wI w 59) t 12 0 S 0 1000000007 0 = jnF md (gW σ md) t 12 0 (S / 2 ^ 0) 0 1000000007 0 := by
      have L : ∀ k p mx mn s, p + k = 12 → jnF md (wI w 59) t k p (S / 2 ^ p) mx mn s = jnF md (gW σ md) t k p (S / 2 ^ p) mx mn s := by
        intro k
        induction k with
        | zero => intros; rfl
        | succ k ih =>
          intro p mx mn s hp
          have ed : S / 2 ^ p / 2 = S / 2 ^ (p + 1) := by rw [Nat.div_div_eq_div_mul, Nat.pow_succ]
          rw [jnF, jnF, ed]
          by_cases y : S / 2 ^ p % 2 = 1
          · have yb : bt (orS σ (nI t)) p = true := by
              rw [s2, bt_nI (by omega), Nat.testBit_eq_decide_div_mod_eq]
              exact decide_eq_true y
            rw [if_pos y, if_pos y, hT p (by omega) yb]
            exact ih (p + 1) _ _ _ (by omega)
          · rw [if_neg y, if_neg y]
            exact ih (p + 1) _ _ _ (by omega)
      have := L 12 0 0 1000000007 0 (by decide)
      rw [show S / 2 ^ 0 = S by rw [Nat.pow_zero, Nat.div_one]] at this ⊢
      exact this
    rw [cg]
    congr 2
    have sp0 : 0 < S / 2 ^ 0 := by rw [Nat.pow_zero, Nat.div_one]; exact sp
    by_cases d2 : md = 2
    · subst d2
      exact jn_2 s2 12 0 0 0 1000000007 0 99 0 0 0 (by decide) rfl (by decide) (Or.inr sp0) hS4
    · have hm' : md = 0 ∨ md = 1 ∨ md = 3 := by
        rcases hm with e | e | e | e
        · exact Or.inl e
        · exact Or.inr (Or.inl e)
        · exact absurd e d2
        · exact Or.inr (Or.inr e)
      exact jn_x hm' s2 (fun p hp y => by
        obtain ⟨q1, q2⟩ := or_no hS ht (by omega) y
        obtain ⟨v, v1, v2⟩ := gW_bd hS hm' 4096 (t ||| 2 ^ p) (or_lt ht q1) (by omega)
        exact ⟨v, Nat.le_trans v1 (Nat.le_trans (cnB_le _ 12) (by decide)), v2⟩) 12 0 0 1000000007 0 0 99 0 0 0 (by decide) (by decide) (Or.inr sp0) hS4 (fun _ => ⟨rfl, rfl, rfl, rfl, rfl⟩) (fun q => absurd q (Nat.lt_irrefl 0))
