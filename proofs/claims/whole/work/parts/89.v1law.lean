/-! THE LAW: every call answers alike -/
set_option maxRecDepth 100000 in
theorem law_st {xs : Nat → Int32} {L n i : Nat} {w : Wd} (hL : L ≤ 3072) (hi : i + 6 ≤ L) (I : Iv w) : ∃ w', Iv w' ∧ L_L_law_18 xs L (n + 1) 0 96 (nI i) w = L_L_law_18 xs L n 0 96 (nI (i + 6)) w' := by
  have h := I.1
  have g : ¬ (nI L - 6 < nI i) := fun q => by
    rw [show nI L - 6 = nI (L - 6) from nI_sub (b := 6) (by omega)] at q
    have := (nI_lt' (by omega) (by omega)).mp q
    omega
  have i0 : ib (nI i) L = true := ib_y (by omega) (by omega)
  have i1 : ib (nI i + 1) L = true := by rw [show nI i + 1 = nI (i + 1) from nI_add i 1]; exact ib_y (by omega) (by omega)
  have i2 : ib (nI i + 2) L = true := by rw [show nI i + 2 = nI (i + 2) from nI_add i 2]; exact ib_y (by omega) (by omega)
  have i3 : ib (nI i + 3) L = true := by rw [show nI i + 3 = nI (i + 3) from nI_add i 3]; exact ib_y (by omega) (by omega)
  have i4 : ib (nI i + 4) L = true := by rw [show nI i + 4 = nI (i + 4) from nI_add i 4]; exact ib_y (by omega) (by omega)
  have i5 : ib (nI i + 5) L = true := by rw [show nI i + 5 = nI (i + 5) from nI_add i 5]; exact ib_y (by omega) (by omega)
  have e6 : nI i + 6 = nI (i + 6) := nI_add i 6
  rw [show L_L_law_18 xs L (n + 1) 0 96 (nI i) w = _ from by unfold L_L_law_18; rfl, if_neg g, if_pos i0]
  by_cases c0 : (xs (nx (nI i)) &&& 63) = 0
  · rw [if_pos c0]
    obtain ⟨r, w1, w2, f1, h1, g1, I2⟩ := E_bench I (xs (nx (nI i + 1))) (xs (nx (nI i + 2))) (xs (nx (nI i + 3)))
    exact ⟨w2, I2, by simp only [i1, i2, i3, lk_0 h, ↓reduceIte, f1, bd2_s, lk_96 h1, g1, lb_e, e6]⟩
  rw [if_neg c0]
  by_cases c1 : (xs (nx (nI i)) &&& 63) = 1
  · rw [if_pos c1]
    obtain ⟨r, w1, w2, f1, h1, g1, I2⟩ := E_sitter I (xs (nx (nI i + 1)))
    exact ⟨w2, I2, by simp only [i1, lk_0 h, ↓reduceIte, f1, bd2_s, lk_96 h1, g1, lb_e, e6]⟩
  rw [if_neg c1]
  by_cases c2 : (xs (nx (nI i)) &&& 63) = 2
  · rw [if_pos c2]
    obtain ⟨r, w1, w2, f1, h1, g1, I2⟩ := E_told I (xs (nx (nI i + 1))) (xs (nx (nI i + 2)))
    exact ⟨w2, I2, by simp only [i1, i2, lk_0 h, ↓reduceIte, f1, bd2_s, lk_96 h1, g1, lb_e, e6]⟩
  rw [if_neg c2]
  by_cases c3 : (xs (nx (nI i)) &&& 63) = 3
  · rw [if_pos c3]
    obtain ⟨r, w1, w2, f1, h1, g1, I2⟩ := E_as I (xs (nx (nI i + 1))) (xs (nx (nI i + 2)))
    exact ⟨w2, I2, by simp only [i1, i2, lk_0 h, ↓reduceIte, f1, bd2_s, lk_96 h1, g1, lb_e, e6]⟩
  rw [if_neg c3]
  by_cases c4 : (xs (nx (nI i)) &&& 63) = 4
  · rw [if_pos c4]
    obtain ⟨r, w1, w2, f1, h1, g1, I2⟩ := E_turns I (xs (nx (nI i + 1))) (xs (nx (nI i + 2)))
    exact ⟨w2, I2, by simp only [i1, i2, lk_0 h, ↓reduceIte, f1, bd2_s, lk_96 h1, g1, lb_e, e6]⟩
  rw [if_neg c4]
  by_cases c5 : (xs (nx (nI i)) &&& 63) = 5
  · rw [if_pos c5]
    obtain ⟨r, w1, w2, f1, h1, g1, I2⟩ := E_sits I (xs (nx (nI i + 1))) (xs (nx (nI i + 2)))
    exact ⟨w2, I2, by simp only [i1, i2, lk_0 h, ↓reduceIte, f1, bd2_s, lk_96 h1, g1, lb_e, e6]⟩
  rw [if_neg c5]
  by_cases c6 : (xs (nx (nI i)) &&& 63) = 6
  · rw [if_pos c6]
    obtain ⟨r, w1, w2, f1, h1, g1, I2⟩ := E_rises I (xs (nx (nI i + 1)))
    exact ⟨w2, I2, by simp only [i1, lk_0 h, ↓reduceIte, f1, bd2_s, lk_96 h1, g1, lb_e, e6]⟩
  rw [if_neg c6]
  by_cases c7 : (xs (nx (nI i)) &&& 63) = 7
  · rw [if_pos c7]
    obtain ⟨r, w1, w2, f1, h1, g1, I2⟩ := E_who I (xs (nx (nI i + 1)))
    exact ⟨w2, I2, by simp only [i1, lk_0 h, ↓reduceIte, f1, bd2_s, lk_96 h1, g1, lb_e, e6]⟩
  rw [if_neg c7]
  by_cases c8 : (xs (nx (nI i)) &&& 63) = 8
  · rw [if_pos c8]
    obtain ⟨r, w1, w2, f1, h1, g1, I2⟩ := E_cushion I (xs (nx (nI i + 1))) (xs (nx (nI i + 2)))
    exact ⟨w2, I2, by simp only [i1, i2, lk_0 h, ↓reduceIte, f1, bd2_s, lk_96 h1, g1, lb_e, e6]⟩
  rw [if_neg c8]
  by_cases c9 : (xs (nx (nI i)) &&& 63) = 9
  · rw [if_pos c9]
    obtain ⟨r, w1, w2, f1, h1, g1, I2⟩ := E_rule I (xs (nx (nI i + 1))) (xs (nx (nI i + 2)))
    exact ⟨w2, I2, by simp only [i1, i2, lk_0 h, ↓reduceIte, f1, bd2_s, lk_96 h1, g1, lb_e, e6]⟩
  rw [if_neg c9]
  by_cases c10 : (xs (nx (nI i)) &&& 63) = 10
  · rw [if_pos c10]
    obtain ⟨r, w1, w2, f1, h1, g1, I2⟩ := E_deal I (xs (nx (nI i + 1)))
    exact ⟨w2, I2, by simp only [i1, lk_0 h, ↓reduceIte, f1, bd2_s, lk_96 h1, g1, lb_e, e6]⟩
  rw [if_neg c10]
  by_cases c11 : (xs (nx (nI i)) &&& 63) = 11
  · rw [if_pos c11]
    obtain ⟨r, w1, w2, f1, h1, g1, I2⟩ := E_seed I (xs (nx (nI i + 1)))
    exact ⟨w2, I2, by simp only [i1, lk_0 h, ↓reduceIte, f1, bd2_s, lk_96 h1, g1, lb_e, e6]⟩
  rw [if_neg c11]
  by_cases c12 : (xs (nx (nI i)) &&& 63) = 12
  · rw [if_pos c12]
    obtain ⟨r, w1, w2, f1, h1, g1, I2⟩ := E_minutes I (xs (nx (nI i + 1)))
    exact ⟨w2, I2, by simp only [i1, lk_0 h, ↓reduceIte, f1, bd2_s, lk_96 h1, g1, lb_e, e6]⟩
  rw [if_neg c12]
  by_cases c13 : (xs (nx (nI i)) &&& 63) = 13
  · rw [if_pos c13]
    obtain ⟨r, w1, w2, f1, h1, g1, I2⟩ := E_inn I (xs (nx (nI i + 1)))
    exact ⟨w2, I2, by simp only [i1, lk_0 h, ↓reduceIte, f1, bd2_s, lk_96 h1, g1, lb_e, e6]⟩
  rw [if_neg c13]
  by_cases c14 : (xs (nx (nI i)) &&& 63) = 14
  · rw [if_pos c14]
    obtain ⟨r, w1, w2, f1, h1, g1, I2⟩ := E_goes I (xs (nx (nI i + 1)))
    exact ⟨w2, I2, by simp only [i1, lk_0 h, ↓reduceIte, f1, bd2_s, lk_96 h1, g1, lb_e, e6]⟩
  rw [if_neg c14]
  by_cases c15 : (xs (nx (nI i)) &&& 63) = 15
  · rw [if_pos c15]
    obtain ⟨r, w1, w2, f1, h1, g1, I2⟩ := E_game I (xs (nx (nI i + 1)))
    exact ⟨w2, I2, by simp only [i1, lk_0 h, ↓reduceIte, f1, bd2_s, lk_96 h1, g1, lb_e, e6]⟩
  rw [if_neg c15]
  by_cases c16 : (xs (nx (nI i)) &&& 63) = 16
  · rw [if_pos c16]
    obtain ⟨r, w1, w2, f1, h1, g1, I2⟩ := E_worthy I (xs (nx (nI i + 1)))
    exact ⟨w2, I2, by simp only [i1, lk_0 h, ↓reduceIte, f1, bd2_s, lk_96 h1, g1, lb_e, e6]⟩
  rw [if_neg c16]
  by_cases c17 : (xs (nx (nI i)) &&& 63) = 17
  · rw [if_pos c17]
    obtain ⟨r, w1, w2, f1, h1, g1, I2⟩ := E_behind I (xs (nx (nI i + 1))) (xs (nx (nI i + 2)))
    exact ⟨w2, I2, by simp only [i1, i2, lk_0 h, ↓reduceIte, f1, bd2_s, lk_96 h1, g1, lb_e, e6]⟩
  rw [if_neg c17]
  by_cases c18 : (xs (nx (nI i)) &&& 63) = 18
  · rw [if_pos c18]
    obtain ⟨r, w1, w2, f1, h1, g1, I2⟩ := E_fullUp I
    exact ⟨w2, I2, by simp only [lk_0 h, ↓reduceIte, f1, bd2_s, lk_96 h1, g1, lb_e, e6]⟩
  rw [if_neg c18]
  by_cases c19 : (xs (nx (nI i)) &&& 63) = 19
  · rw [if_pos c19]
    obtain ⟨r, w1, w2, f1, h1, g1, I2⟩ := E_rose I (xs (nx (nI i + 1))) (xs (nx (nI i + 2)))
    exact ⟨w2, I2, by simp only [i1, i2, lk_0 h, ↓reduceIte, f1, bd2_s, lk_96 h1, g1, lb_e, e6]⟩
  rw [if_neg c19]
  by_cases c20 : (xs (nx (nI i)) &&& 63) = 20
  · rw [if_pos c20]
    obtain ⟨r, w1, w2, f1, h1, g1, I2⟩ := E_book I (xs (nx (nI i + 1)))
    exact ⟨w2, I2, by simp only [i1, lk_0 h, ↓reduceIte, f1, bd2_s, lk_96 h1, g1, lb_e, e6]⟩
  rw [if_neg c20]
  by_cases c21 : (xs (nx (nI i)) &&& 63) = 21
  · rw [if_pos c21]
    obtain ⟨r, w1, w2, f1, h1, g1, I2⟩ := E_fee I
    exact ⟨w2, I2, by simp only [lk_0 h, ↓reduceIte, f1, bd2_s, lk_96 h1, g1, lb_e, e6]⟩
  rw [if_neg c21]
  by_cases c22 : (xs (nx (nI i)) &&& 63) = 22
  · rw [if_pos c22]
    obtain ⟨r, w1, w2, f1, h1, g1, I2⟩ := E_fine I (xs (nx (nI i + 1)))
    exact ⟨w2, I2, by simp only [i1, lk_0 h, ↓reduceIte, f1, bd2_s, lk_96 h1, g1, lb_e, e6]⟩
  rw [if_neg c22]
  by_cases c23 : (xs (nx (nI i)) &&& 63) = 23
  · rw [if_pos c23]
    obtain ⟨r, w1, w2, f1, h1, g1, I2⟩ := E_feed I (xs (nx (nI i + 1))) (xs (nx (nI i + 2))) (xs (nx (nI i + 3)))
    exact ⟨w2, I2, by simp only [i1, i2, i3, lk_0 h, ↓reduceIte, f1, bd2_s, lk_96 h1, g1, lb_e, e6]⟩
  rw [if_neg c23]
  by_cases c24 : (xs (nx (nI i)) &&& 63) = 24
  · rw [if_pos c24]
    obtain ⟨r, w1, w2, f1, h1, g1, I2⟩ := E_trim I (xs (nx (nI i + 1)))
    exact ⟨w2, I2, by simp only [i1, lk_0 h, ↓reduceIte, f1, bd2_s, lk_96 h1, g1, lb_e, e6]⟩
  rw [if_neg c24]
  by_cases c25 : (xs (nx (nI i)) &&& 63) = 25
  · rw [if_pos c25]
    obtain ⟨r, w1, w2, f1, h1, g1, I2⟩ := E_text I
    exact ⟨w2, I2, by simp only [lk_0 h, ↓reduceIte, f1, bd2_s, lk_96 h1, g1, lb_e, e6]⟩
  rw [if_neg c25]
  by_cases c26 : (xs (nx (nI i)) &&& 63) = 26
  · rw [if_pos c26]
    obtain ⟨r, w1, w2, f1, h1, g1, I2⟩ := E_textTold I (xs (nx (nI i + 1))) (xs (nx (nI i + 2)))
    exact ⟨w2, I2, by simp only [i1, i2, lk_0 h, ↓reduceIte, f1, bd2_s, lk_96 h1, g1, lb_e, e6]⟩
  rw [if_neg c26]
  by_cases c27 : (xs (nx (nI i)) &&& 63) = 27
  · rw [if_pos c27]
    obtain ⟨r, w1, w2, f1, h1, g1, I2⟩ := E_why I (xs (nx (nI i + 1)))
    exact ⟨w2, I2, by simp only [i1, lk_0 h, ↓reduceIte, f1, bd2_s, lk_96 h1, g1, lb_e, e6]⟩
  rw [if_neg c27]
  by_cases c28 : (xs (nx (nI i)) &&& 63) = 28
  · rw [if_pos c28]
    obtain ⟨r, w1, w2, f1, h1, g1, I2⟩ := E_sheet I (xs (nx (nI i + 1))) (xs (nx (nI i + 2))) (xs (nx (nI i + 3)))
    exact ⟨w2, I2, by simp only [i1, i2, i3, lk_0 h, ↓reduceIte, f1, bd2_s, lk_96 h1, g1, lb_e, e6]⟩
  rw [if_neg c28]
  by_cases c29 : (xs (nx (nI i)) &&& 63) = 29
  · rw [if_pos c29]
    obtain ⟨r, w1, w2, f1, h1, g1, I2⟩ := E_mark I (xs (nx (nI i + 1))) (xs (nx (nI i + 2))) (xs (nx (nI i + 3)))
    exact ⟨w2, I2, by simp only [i1, i2, i3, lk_0 h, ↓reduceIte, f1, bd2_s, lk_96 h1, g1, lb_e, e6]⟩
  rw [if_neg c29]
  by_cases c30 : (xs (nx (nI i)) &&& 63) = 30
  · rw [if_pos c30]
    obtain ⟨r, w1, w2, f1, h1, g1, I2⟩ := E_pour I (xs (nx (nI i + 1)))
    exact ⟨w2, I2, by simp only [i1, lk_0 h, ↓reduceIte, f1, bd2_s, lk_96 h1, g1, lb_e, e6]⟩
  rw [if_neg c30]
  by_cases c31 : (xs (nx (nI i)) &&& 63) = 31
  · rw [if_pos c31]
    obtain ⟨r, w1, w2, f1, h1, g1, I2⟩ := E_reads I (xs (nx (nI i + 1)))
    exact ⟨w2, I2, by simp only [i1, lk_0 h, ↓reduceIte, f1, bd2_s, lk_96 h1, g1, lb_e, e6]⟩
  rw [if_neg c31]
  by_cases c32 : (xs (nx (nI i)) &&& 63) = 32
  · rw [if_pos c32]
    obtain ⟨r, w1, w2, f1, h1, g1, I2⟩ := E_copy I (xs (nx (nI i + 1))) (xs (nx (nI i + 2))) (xs (nx (nI i + 3))) (xs (nx (nI i + 4))) (xs (nx (nI i + 5)))
    exact ⟨w2, I2, by simp only [i1, i2, i3, i4, i5, lk_0 h, ↓reduceIte, f1, bd2_s, lk_96 h1, g1, lb_e, e6]⟩
  rw [if_neg c32]
  by_cases c33 : (xs (nx (nI i)) &&& 63) = 33
  · rw [if_pos c33]
    obtain ⟨r, w1, w2, f1, h1, g1, I2⟩ := E_lay I (xs (nx (nI i + 1))) (xs (nx (nI i + 2))) (xs (nx (nI i + 3)))
    exact ⟨w2, I2, by simp only [i1, i2, i3, lk_0 h, ↓reduceIte, f1, bd2_s, lk_96 h1, g1, lb_e, e6]⟩
  rw [if_neg c33]
  by_cases c34 : (xs (nx (nI i)) &&& 63) = 34
  · rw [if_pos c34]
    obtain ⟨r, w1, w2, f1, h1, g1, I2⟩ := E_ask I (xs (nx (nI i + 1))) (xs (nx (nI i + 2)))
    exact ⟨w2, I2, by simp only [i1, i2, lk_0 h, ↓reduceIte, f1, bd2_s, lk_96 h1, g1, lb_e, e6]⟩
  rw [if_neg c34]
  by_cases c35 : (xs (nx (nI i)) &&& 63) = 35
  · rw [if_pos c35]
    obtain ⟨r, w1, w2, f1, h1, g1, I2⟩ := E_item I (xs (nx (nI i + 1))) (xs (nx (nI i + 2)))
    exact ⟨w2, I2, by simp only [i1, i2, lk_0 h, ↓reduceIte, f1, bd2_s, lk_96 h1, g1, lb_e, e6]⟩
  rw [if_neg c35]
  by_cases c36 : (xs (nx (nI i)) &&& 63) = 36
  · rw [if_pos c36]
    obtain ⟨r, w1, w2, f1, h1, g1, I2⟩ := E_rest I (xs (nx (nI i + 1))) (xs (nx (nI i + 2)))
    exact ⟨w2, I2, by simp only [i1, i2, lk_0 h, ↓reduceIte, f1, bd2_s, lk_96 h1, g1, lb_e, e6]⟩
  rw [if_neg c36]
  by_cases c37 : (xs (nx (nI i)) &&& 63) = 37
  · rw [if_pos c37]
    obtain ⟨r, w1, w2, f1, h1, g1, I2⟩ := E_tell I (xs (nx (nI i + 1)))
    exact ⟨w2, I2, by simp only [i1, lk_0 h, ↓reduceIte, f1, bd2_s, lk_96 h1, g1, lb_e, e6]⟩
  rw [if_neg c37]
  by_cases c38 : (xs (nx (nI i)) &&& 63) = 38
  · rw [if_pos c38]
    obtain ⟨r, w1, w2, f1, h1, g1, I2⟩ := E_check I (xs (nx (nI i + 1)))
    exact ⟨w2, I2, by simp only [i1, lk_0 h, ↓reduceIte, f1, bd2_s, lk_96 h1, g1, lb_e, e6]⟩
  rw [if_neg c38]
  by_cases c39 : (xs (nx (nI i)) &&& 63) = 39
  · rw [if_pos c39]
    obtain ⟨r, w1, w2, f1, h1, g1, I2⟩ := E_keep I
    exact ⟨w2, I2, by simp only [lk_0 h, ↓reduceIte, f1, bd2_s, lk_96 h1, g1, lb_e, e6]⟩
  rw [if_neg c39]
  by_cases c40 : (xs (nx (nI i)) &&& 63) = 40
  · rw [if_pos c40]
    obtain ⟨r, w1, w2, f1, h1, g1, I2⟩ := E_back I
    exact ⟨w2, I2, by simp only [lk_0 h, ↓reduceIte, f1, bd2_s, lk_96 h1, g1, lb_e, e6]⟩
  rw [if_neg c40]
  by_cases c41 : (xs (nx (nI i)) &&& 63) = 41
  · rw [if_pos c41]
    obtain ⟨r, w1, w2, f1, h1, g1, I2⟩ := E_count I (xs (nx (nI i + 1)))
    exact ⟨w2, I2, by simp only [i1, lk_0 h, ↓reduceIte, f1, bd2_s, lk_96 h1, g1, lb_e, e6]⟩
  rw [if_neg c41]
  exact ⟨w, I, by rw [lb_e, e6]⟩
theorem law_l {xs : Nat → Int32} {L : Nat} (hL : L ≤ 3072) : ∀ n i (w : Wd), L < i + n → i ≤ L → Iv w → ∃ w', L_L_law_18 xs L n 0 96 (nI i) w = some (1, w') := by
  intro n
  induction n with
  | zero => intro i w q1 q2 _; omega
  | succ n ih =>
    intro i w q1 q2 I
    by_cases c : i + 6 ≤ L
    · obtain ⟨w', I', e⟩ := law_st (xs := xs) (n := n) hL c I
      rw [e]
      exact ih (i + 6) w' (by omega) c I'
    · refine ⟨w, ?_⟩
      unfold L_L_law_18
      rw [if_pos]
      rw [lt_I, nI_toInt (by omega)]
      by_cases d : 6 ≤ L
      · rw [show nI L - 6 = nI (L - 6) from nI_sub (b := 6) d, nI_toInt (by omega)]
        omega
      · have : ∀ l, l < 6 → (nI l - 6).toInt < 0 := by decide +kernel
        have := this L (by omega)
        omega
theorem pure_ok : Pure_ := fun xs L hL => by
  rw [law_0]
  exact law_l hL FU 0 w_0 (by unfold FU; omega) (Nat.zero_le _) Iv_0
