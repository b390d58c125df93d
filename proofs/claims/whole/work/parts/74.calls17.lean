/-! THE CALLS: goes, game -/
theorem FrS_ex {σ : Nat → Int32} (hS : Sv σ) : ∃ t0 F, t0 < 2 ^ n_ σ ∧ tk σ = nI t0 ∧ FrS σ t0 F := by
  have h12 := hS.n12
  obtain ⟨t0, h0, e0⟩ := Bd_nat (tk_Bd hS)
  have bits : ∀ p, p < 32 → bt ((ps (n_ σ) - 1) &&& (tk σ ^^^ -1)) p = (decide (p < n_ σ) && !t0.testBit p) := fun p hp => by
    rw [b_and, show ps (n_ σ) - 1 = ((1 : Int32) <<< (nI (n_ σ) &&& 31)) - 1 from rfl, b_all (n_ σ) (by omega) p hp, b_xm _ hp, e0, bt_nI hp]
  obtain ⟨F, f1, f2⟩ := Bd_nat (σ := σ) (x := (ps (n_ σ) - 1) &&& (tk σ ^^^ -1)) (fun i hi q => by
    rw [bits i hi] at q
    exact of_decide_eq_true (Bool.and_eq_true_iff.mp q).1)
  refine ⟨t0, F, h0, e0, f2, f1, fun p hp => ?_⟩
  rw [← bits p hp, f2, bt_nI hp]
theorem E_goes {w : Wd} (I : Iv w) (v : Int32) : Ok2 (f_X8_goes 0 v) (f_X9_goes 96 v) w := by
  have h := I.1
  obtain ⟨hV, hM, hR⟩ := I.2.1
  by_cases c : wi_ v 0 2 = 0
  · exact Ok2.q I (r := -1000000001) (by simp only [f_X8_goes, wi_X, bd2_s, c, ↓reduceIte]) (by simp only [f_X9_goes, wi_M, bd2_s, c, ↓reduceIte])
  · obtain ⟨k, -, k2, k3⟩ := wi_ab (v := v) (a := 0) (b := 2) (by decide) c (by decide)
    have hm : v = 0 ∨ v = 1 ∨ v = 2 ∨ v = 3 := by
      subst k3
      rcases (show k = 0 ∨ k = 1 ∨ k = 2 by omega) with e | e | e <;> subst e
      · exact Or.inl rfl
      · exact Or.inr (Or.inl rfl)
      · exact Or.inr (Or.inr (Or.inl rfl))
    obtain ⟨t0, F, q1, q2, q3⟩ := FrS_ex hV.1
    obtain ⟨w1, f1, F1, -⟩ := x_foresee h hV.1 hR.1 hm q1 q2 q3
    have h1 := F1.lay h
    have e97 : wI w1 97 = wI w 97 := F1.2.2.2.2 97 (by decide)
    obtain ⟨w2, f2, F2, -⟩ := m_works h1 e97 hV.1 q1 q2 v
    refine ⟨gW (wI w 97) v t0, w1, w2, ?_, h1, ?_, I.think (Fq.of F1 (fun a ha => Or.inr (by omega))) (FN.of F2 (fun a ha => by subst ha; exact ⟨by unfold Mc; omega, by decide⟩)) (by rw [F2.2.2.2.2 97 (by decide)]; exact e97)⟩
    · simp only [f_X8_goes, wi_X, bd2_s, c, ↓reduceIte, lk_0 h, lr_0_0 h, lr_0_4 h, lk_58 h, bd1_s, li_k h bI1, li_r0 h bI1, x_taken h bI1 hV.1 hR.1, f1]
    · simp only [f_X9_goes, wi_M, bd2_s, c, ↓reduceIte, lk_96 h1, f2]
/-- the winning places -/
def wnF (σ : Nat → Int32) (t : Nat) : Nat → Nat → Int32 → Int32
  | 0, _, a => a
  | m + 1, p, a => wnF σ t m (p + 1) (if bt (orS σ (nI t)) p = true ∧ gW σ 3 (t ||| 2 ^ p) = 0 then a ||| nI (2 ^ p) else a)
theorem E_game {w : Wd} (I : Iv w) (v : Int32) : Ok2 (f_X8_game 0 v) (f_X9_game 96 v) w := by
  have h := I.1
  obtain ⟨hV, hM, hR⟩ := I.2.1
  have h12 := hV.1.n12
  have p12 := pw12 h12
  by_cases c : wi_ v 0 1 = 0
  · exact Ok2.q I (r := -1000000001) (by simp only [f_X8_game, wi_X, bd2_s, c, ↓reduceIte]) (by simp only [f_X9_game, wi_M, bd2_s, c, ↓reduceIte])
  · obtain ⟨t0, F, q1, q2, q3⟩ := FrS_ex hV.1
    obtain ⟨w1, f1, F1, y1⟩ := x_foresee (md := 3) h hV.1 hR.1 (Or.inr (Or.inr (Or.inr rfl))) q1 q2 q3
    have h1 := F1.lay h
    have R1 : RS w1 1 (wI w 97) := hR.1.fr59 F1 hV.1
    have e97 : wI w1 97 = wI w 97 := F1.2.2.2.2 97 (by decide)
    obtain ⟨w2, f2, F2, y2⟩ := m_works h1 e97 hV.1 q1 q2 3
    have h2 := F2.lay h1
    have e972 : wI w2 97 = wI w 97 := by rw [F2.2.2.2.2 97 (by decide)]; exact e97
    have a2 : aK 11 w2 97 2 = true := la_97 h2 (show 2 < 1444 by decide)
    have ep : ∀ p, p < n_ (wI w 97) → nI t0 ||| (1 : Int32) <<< (nI p &&& 31) = nI (t0 ||| 2 ^ p) ∧ (1 : Int32) <<< (nI p &&& 31) = nI (2 ^ p) := fun p hp => by
      have := ps_2 p (by omega)
      unfold ps at this
      exact ⟨by rw [this, nI_or], this⟩
    have hT : ∀ p, p < n_ (wI w 97) → bt (orS (wI w 97) (nI t0)) p = true → wI w1 59 (t0 ||| 2 ^ p) = gW (wI w 97) 3 (t0 ||| 2 ^ p) := fun p hp z => by
      obtain ⟨z1, z2⟩ := or_no hV.1 q1 (by omega) z
      refine y1 (2 ^ p) (sb_of 12 F _ (Nat.pow_lt_pow_right (by decide) (by omega)) (fun i hi => ?_))
      have : p = i := by
        by_cases e : p = i
        · exact e
        · rw [Nat.testBit_two_pow_of_ne e] at hi; cases hi
      subst this
      rw [q3.2.2 p (by omega), z2, decide_eq_true hp]
      rfl
    have e0 : wI w1 (1 + 1) 0 = nI (n_ (wI w 97)) := by rw [R1.2.1.1]; exact hV.1.n
    have LX : ∀ n m p a, p + m = n_ (wI w 97) → m < n → L_X2_winning_12 n 58 (1 + 1) (nI t0) (orS (wI w 97) (nI t0)) a (nI p) w1 = some (wnF (wI w 97) t0 m p a, w1) := by
      intro n
      induction n with
      | zero => intro m p a _ g; omega
      | succ n ih =>
        intro m p a g1 g2
        unfold L_X2_winning_12
        simp only [li_k1 h1 bI1, ↓reduceIte, e0]
        cases m with
        | zero =>
          rw [if_pos ((nI_le' (by omega) (by omega)).mpr (by omega))]
          rfl
        | succ m =>
          have hp : p < n_ (wI w 97) := by omega
          have ol := or_lt q1 hp
          rw [if_neg (fun z => by have := (nI_le' (by omega) (by omega)).mp z; omega), wnF]
          by_cases z : bt (orS (wI w 97) (nI t0)) p = true
          · simp only [f_X8_has, bh (show p < 32 by omega), bd2_s, z, ↓reduceIte, show ¬ (1 : Int32) = 0 by decide, lk_58 h1, lr_58_0 h1, bd1_s, (ep p hp).2, nI_or, la_59 h1 (show t0 ||| 2 ^ p < 4096 by omega), nx_nI (show t0 ||| 2 ^ p < 2 ^ 31 by omega), hT p hp z, true_and, lb_e, nI_s1]
            by_cases y : gW (wI w 97) 3 (t0 ||| 2 ^ p) = 0
            · rw [if_pos y, if_pos y]; exact ih m (p + 1) _ (by omega) (by omega)
            · rw [if_neg y, if_neg y]; exact ih m (p + 1) _ (by omega) (by omega)
          · simp only [f_X8_has, bh (show p < 32 by omega), bd2_s, z, ↓reduceIte, lb_e, nI_s1, false_and]
            exact ih m (p + 1) _ (by omega) (by omega)
    have LM : ∀ n m p a, p + m = n_ (wI w 97) → m < n → L_X9_game_29 n 96 v (gW (wI w 97) 3 t0) (nI t0) a (nI p) w2 = some (if v = 0 then gW (wI w 97) 3 t0 else wnF (wI w 97) t0 m p a, w2) := by
      intro n
      induction n with
      | zero => intro m p a _ g; omega
      | succ n ih =>
        intro m p a g1 g2
        unfold L_X9_game_29
        simp only [lk_96 h2, lr_96_0 h2, bd1_s, a2, ↓reduceIte, show nx 2 = 2 from rfl, e972, hV.1.n]
        cases m with
        | zero =>
          rw [if_pos ((nI_le' (by omega) (by omega)).mpr (by omega))]
          rfl
        | succ m =>
          have hp : p < n_ (wI w 97) := by omega
          have ol := or_lt q1 hp
          rw [if_neg (fun z => by have := (nI_le' (by omega) (by omega)).mp z; omega), m_mayOrd h2 e972 hV.1 (Bd_nI q1) hp, bd2_s, wnF]
          by_cases z : bt (orS (wI w 97) (nI t0)) p = true
          · have z2 := (or_no hV.1 q1 (by omega) z).2
            have og := or_gt z2
            rw [if_pos z, if_neg (by decide)]
            simp only [lr_96_5 h2, bd1_s, (ep p hp).2, nI_or, la_100 h2 (show t0 ||| 2 ^ p < 4096 by omega), nx_nI (show t0 ||| 2 ^ p < 2 ^ 31 by omega), y2 _ (by omega : t0 ≤ t0 ||| 2 ^ p) ol, z, true_and, lb_e, nI_s1, ↓reduceIte, lk_96 h2]
            by_cases y : gW (wI w 97) 3 (t0 ||| 2 ^ p) = 0
            · rw [if_pos y, if_pos y]; exact ih m (p + 1) _ (by omega) (by omega)
            · rw [if_neg y, if_neg y, Int32.or_zero]; exact ih m (p + 1) _ (by omega) (by omega)
          · rw [if_neg z, if_pos rfl]
            simp only [j_X9_game_73, lb_e, nI_s1, Int32.or_zero, z, false_and, ↓reduceIte, Bool.false_eq_true]
            exact ih m (p + 1) _ (by omega) (by omega)
    refine ⟨if v = 0 then gW (wI w 97) 3 t0 else wnF (wI w 97) t0 (n_ (wI w 97)) 0 0, w1, w2, ?_, h1, ?_, I.think (Fq.of F1 (fun a ha => Or.inr (by omega))) (FN.of F2 (fun a ha => by subst ha; exact ⟨by unfold Mc; omega, by decide⟩)) e972⟩
    · have X := LX FU (n_ (wI w 97)) 0 0 (by omega) (by unfold FU; omega)
      have Xo := x_or h1 bI1 hV.1 R1 (tk (wI w 97))
      rw [show (1 + 1 : Nat) = 2 from rfl] at X Xo
      rw [q2] at Xo
      simp only [f_X8_game, wi_X, bd2_s, c, ↓reduceIte, lk_0 h, lr_0_0 h, lr_0_4 h, lk_58 h, bd1_s, li_k h bI1, li_r0 h bI1, x_taken h bI1 hV.1 hR.1, f1]
      by_cases z : v = 0
      · rw [if_pos z, if_pos z]
      · rw [if_neg z, if_neg z]
        simp only [lk_0 h1, lr_0_0 h1, lr_0_4 h1, lk_58 h1, bd1_s, li_k h1 bI1, li_r0 h1 bI1, ↓reduceIte, f_X2_winning, q2, show (1 + 1 : Nat) = 2 from rfl, li_k1 h1 bI1, Xo, bd2_s]
        rw [show L_X2_winning_12 FU 58 2 (nI t0) (orS (wI w 97) (nI t0)) 0 0 w1 = _ from X, bd2_s]
    · have X := LM FU (n_ (wI w 97)) 0 0 (by omega) (by unfold FU; omega)
      simp only [f_X9_game, wi_M, bd2_s, c, ↓reduceIte, lk_96 h1, f2, lk_96 h2, m_taken h2 e972 hV.1, q2]
      exact X
