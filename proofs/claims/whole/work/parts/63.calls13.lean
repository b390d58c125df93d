/-! THE CALLS: copy, lay -/
theorem sub_I {a b : Nat} (ha : a < 2 ^ 30) (hb : b < 2 ^ 31) : (nI a - nI b).toInt = (a : Int) - b := by
  rw [Int32.toInt_sub, nI_toInt (by omega), nI_toInt hb]
  exact Int.bmod_eq_of_le (by omega) (by omega)
theorem x_hasP {w : Wd} {a nn : Nat} (h3 : wK w a = 3) (hn : nn ≤ 24) (n1 : wI w a 1 = nI nn) (v u : Int32) : f_X3_hasPlaces a v u w = some (if 0 ≤ v.toInt ∧ 0 ≤ u.toInt ∧ v.toInt + u.toInt ≤ nn then 1 else 0, w) := by
  simp only [f_X3_hasPlaces, h3, ↓reduceIte, wi_X, bd2_s, n1]
  by_cases c1 : wi_ v 0 (nI nn) = 0
  · have : ¬ (0 ≤ v.toInt ∧ 0 ≤ u.toInt ∧ v.toInt + u.toInt ≤ nn) := fun q => by
      have := wi_1 (v := v) (a := 0) (b := nI nn) (by rw [show (0 : Int32).toInt = 0 from rfl]; exact q.1) (by rw [nI_toInt (by omega)]; omega)
      rw [this] at c1
      exact absurd c1 (by decide)
    rw [if_pos c1, if_neg this]
  · obtain ⟨g1, g2⟩ := wi_i c1
    rw [show (0 : Int32).toInt = 0 from rfl] at g1
    rw [nI_toInt (by omega)] at g2
    rw [if_neg c1]
    obtain ⟨i, i1, i2, rfl⟩ := of_Int g1
    have es : (nI nn - nI i).toInt = (nn : Int) - i := sub_I (by omega) (by omega)
    by_cases c2 : wi_ u 0 (nI nn - nI i) = 0
    · have : ¬ (0 ≤ (nI i).toInt ∧ 0 ≤ u.toInt ∧ (nI i).toInt + u.toInt ≤ nn) := fun q => by
        have := wi_1 (v := u) (a := 0) (b := nI nn - nI i) (by rw [show (0 : Int32).toInt = 0 from rfl]; exact q.2.1) (by rw [es]; omega)
        rw [this] at c2
        exact absurd c2 (by decide)
      rw [if_pos c2, if_neg this]
    · obtain ⟨k1, k2⟩ := wi_i c2
      rw [show (0 : Int32).toInt = 0 from rfl] at k1
      rw [es] at k2
      rw [if_neg c2, if_pos (show 0 ≤ (nI i).toInt ∧ 0 ≤ u.toInt ∧ (nI i).toInt + u.toInt ≤ nn by omega)]
theorem ls_c1 {w : Wd} (h : Lay w) {s : Nat} (hs : s < 4) : wK w (69 + 2 * s) = 11 := by rcases s4 hs with e | e | e | e <;> subst e <;> exact h.k _ (by decide) rfl
theorem ls_cl {w : Wd} (h : Lay w) {s : Nat} (hs : s < 4) : wL w (69 + 2 * s) = 24 := by rcases s4 hs with e | e | e | e <;> subst e <;> exact h.l _ (by decide) rfl
theorem cpy_in {f g : Nat → Int32} {sp dp n k : Nat} (h : dp ≤ k ∧ k < dp + n) : va_cpy f g sp dp n k = f (sp + (k - dp)) := if_pos h
theorem cpy_out {f g : Nat → Int32} {sp dp n k : Nat} (h : ¬ (dp ≤ k ∧ k < dp + n)) : va_cpy f g sp dp n k = g k := if_neg h
theorem E_copy {w : Wd} (I : Iv w) (v i' u j' l' : Int32) : Ok2 (f_X8_copy 0 v i' u j' l') (f_X9_copy 96 v i' u j' l') w := by
  have h := I.1
  obtain ⟨hI, hT, hSh, hSl, hW⟩ := I.2.2
  by_cases c1 : wi_ v 0 3 = 0
  · exact Ok2.q I (r := -1000000001) (by simp only [f_X8_copy, x_isSheet, bd2_s, c1, ↓reduceIte]) (by simp only [f_X9_copy, m_isSheet, bd2_s, c1, ↓reduceIte])
  by_cases c2 : wi_ u 0 3 = 0
  · exact Ok2.q I (r := -1000000001) (by simp only [f_X8_copy, x_isSheet, bd2_s, c1, c2, ↓reduceIte]) (by simp only [f_X9_copy, m_isSheet, bd2_s, c1, c2, ↓reduceIte])
  obtain ⟨s, hs, rfl⟩ := wi_3 c1
  obtain ⟨d, hd, rfl⟩ := wi_3 c2
  obtain ⟨q, nn, hq, hn, q1, q2, n1, n2, hc⟩ := hSh s hs
  obtain ⟨p, mm, hp, hm, p1, p2, m1, m2, hc'⟩ := hSh d hd
  have ns := nx_nI (show s < 2 ^ 31 by omega)
  have nd := nx_nI (show d < 2 ^ 31 by omega)
  have sgn : ∀ x : Int32, (x = -1 ∨ x = 0 ∨ x = 1) → ¬ x = -1 → (0 : Int32) ≤ x ∧ ¬ x < 0 := fun x hx hn => by
    rcases hx with e | e | e
    · exact absurd e hn
    · subst e; decide
    · subst e; decide
  by_cases c3 : q = -1
  · refine Ok2.q I (r := -1000000011) ?_ ?_
    · simp only [f_X8_copy, x_isSheet, bd2_s, c1, c2, ↓reduceIte, lk_0 h, lr_0_6 h, bd1_s, ls_a h hs, ls_a h hd, ns, nd, ls_r h hs, ls_r h hd, ls_k h hs, q1, c3]
    · simp only [f_X9_copy, m_isSheet, bd2_s, c1, c2, ↓reduceIte, lk_96 h, lr_96_25 h, bd1_s, la_110 h hs, ns, q2, c3, show (-1 : Int32) < 0 by decide]
  obtain ⟨qa, qb⟩ := sgn q hq c3
  by_cases c4 : p = -1
  · refine Ok2.q I (r := -1000000011) ?_ ?_
    · simp only [f_X8_copy, x_isSheet, bd2_s, c1, c2, ↓reduceIte, lk_0 h, lr_0_6 h, bd1_s, ls_a h hs, ls_a h hd, ns, nd, ls_r h hs, ls_r h hd, ls_k h hs, ls_k h hd, q1, c3, p1, c4]
    · simp only [f_X9_copy, m_isSheet, bd2_s, c1, c2, ↓reduceIte, lk_96 h, lr_96_25 h, bd1_s, la_110 h hs, la_110 h hd, ns, nd, q2, qb, p2, c4, show ¬ (0 : Int32) ≤ -1 by decide]
  obtain ⟨pa, pb⟩ := sgn p hp c4
  by_cases c5 : q = p
  · have X0 : ∀ r w', f_X8_copy 0 (nI s) i' (nI d) j' l' w = some (r, w') ↔ (bd2 (f_X3_hasPlaces (68 + 2 * s) i' l' w) fun r20 w21 => if r20 = 0 then some (-1000000013, w21) else if wK w21 (68 + 2 * d) = 3 then bd2 (f_X3_hasPlaces (68 + 2 * d) j' l' w21) fun r24 w25 => if r24 = 0 then some (-1000000013, w25) else if wK w25 (68 + 2 * s) = 3 then bd1 (wR w25 (68 + 2 * s) 2) fun a28 => if wK w25 (68 + 2 * d) = 3 then bd1 (wR w25 (68 + 2 * d) 2) fun a31 => if cp_ok w25 a28 i' a31 j' l' = true then lb_ (cp_W w25 a28 i' a31 j' l') fun w34 => some (l', w34) else none else none else none else none) = some (r, w') := by
      intro r w'
      simp only [f_X8_copy, x_isSheet, bd2_s, c1, c2, ↓reduceIte, lk_0 h, lr_0_6 h, bd1_s, ls_a h hs, ls_a h hd, ns, nd, ls_r h hs, ls_r h hd, ls_k h hs, ls_k h hd, q1, c3, p1, c4, c5]
    have hX := x_hasP (ls_k h hs) hn n1 i' l'
    have hX' := x_hasP (ls_k h hd) hm m1 j' l'
    by_cases ok : (0 ≤ i'.toInt ∧ 0 ≤ l'.toInt ∧ i'.toInt + l'.toInt ≤ nn) ∧ (0 ≤ j'.toInt ∧ 0 ≤ l'.toInt ∧ j'.toInt + l'.toInt ≤ mm)
    · obtain ⟨⟨o1, o2, o3⟩, o4, -, o5⟩ := ok
      rw [if_pos ⟨o1, o2, o3⟩] at hX
      rw [if_pos ⟨o4, o2, o5⟩] at hX'
      obtain ⟨i, i1, i2, rfl⟩ := of_Int o1
      obtain ⟨j, j1, j2, rfl⟩ := of_Int o4
      obtain ⟨l, l1, l2, rfl⟩ := of_Int o2
      have hil : i + l ≤ nn := by omega
      have hjl : j + l ≤ mm := by omega
      have ni := nx_nI (show i < 2 ^ 31 by omega)
      have nj := nx_nI (show j < 2 ^ 31 by omega)
      have nl := nx_nI (show l < 2 ^ 31 by omega)
      have cpk : cp_ok w (69 + 2 * s) (nI i) (69 + 2 * d) (nI j) (nI l) = true := by
        unfold cp_ok
        rw [ls_c1 h hs, ls_c1 h hd, ls_cl h hs, ls_cl h hd, ni, nj, nl]
        simp only [decide_true, Bool.true_and, Bool.and_eq_true, decide_eq_true_eq]
        exact ⟨nI_nlt0 (by omega), nI_nlt0 (by omega), nI_nlt0 (by omega), by omega, by omega⟩
      obtain ⟨w1, ew1⟩ : ∃ x, x = cp_W w (69 + 2 * s) (nI i) (69 + 2 * d) (nI j) (nI l) := ⟨_, rfl⟩
      have F1 : Fr (fun a => a = 69 + 2 * d) w w1 := by rw [ew1]; exact Fr.cp _ _ _ _ rfl
      have h1 := F1.lay h
      have e69 : wI w1 (69 + 2 * d) = va_cpy (wI w (69 + 2 * s)) (wI w (69 + 2 * d)) i j l := by rw [ew1, wI_c1, ni, nj, nl]
      have L1 : ∀ n k (w2 : Wd), Fr (fun a => a = 117) w1 w2 → (∀ y, y < k → wI w2 117 y = wI w1 112 (24 * s + i + y)) → k ≤ l → l - k < n → ∃ w3, L_X9_copy_104 n 96 (nI s) (nI i) (nI d) (nI j) (nI l) (nI k) w2 = L_X9_copy_141 FU 96 (nI d) (nI j) (nI l) 0 w3 ∧ Fr (fun a => a = 117) w1 w3 ∧ ∀ y, y < l → wI w3 117 y = wI w1 112 (24 * s + i + y) := by
        intro n
        induction n with
        | zero => intro k w2 _ _ _ g; omega
        | succ n ih =>
          intro k w2 F2 y2 hk g
          have h2 := F2.lay h1
          unfold L_X9_copy_104
          by_cases z : k = l
          · subst z
            rw [if_pos ((nI_le' (by omega) (by omega)).mpr (Nat.le_refl _))]
            exact ⟨w2, rfl, F2, y2⟩
          · rw [if_neg (fun y => by have := (nI_le' (by omega) (by omega)).mp y; omega), e24, nI_add]
            simp only [lk_96 h2, ↓reduceIte, lr_96_32 h2, lr_96_27 h2, bd1_s, la_112 h2 (show 24 * s + i + k < 96 by omega), la_117 h2 (show k < 24 by omega), nx_nI (show 24 * s + i + k < 2 ^ 31 by omega), nx_nI (show k < 2 ^ 31 by omega), lb_e, nI_s1]
            refine ih (k + 1) _ (F2.tr (Fr.sI _ _ _ rfl)) (fun y hy => ?_) (by omega) (by omega)
            rw [wI_s1]
            by_cases e : y = k
            · subst e; rw [upd_s, F2.2.2.2.2 112 (by decide)]
            · rw [upd_n _ _ e]; exact y2 y (by omega)
      obtain ⟨w3, f3, F3, y3⟩ := L1 FU 0 w1 (Fr.rf w1) (fun y hy => absurd hy (Nat.not_lt_zero y)) (by omega) (by unfold FU; omega)
      have h3 := F3.lay h1
      have L2 : ∀ n k (w4 : Wd), Fr (fun a => a = 112) w3 w4 → (∀ y, wI w4 112 y = if 24 * d + j ≤ y ∧ y < 24 * d + j + k then wI w3 117 (y - (24 * d + j)) else wI w3 112 y) → k ≤ l → l - k < n → ∃ w5, L_X9_copy_141 n 96 (nI d) (nI j) (nI l) (nI k) w4 = some (nI l, w5) ∧ Fr (fun a => a = 112) w3 w5 ∧ ∀ y, wI w5 112 y = if 24 * d + j ≤ y ∧ y < 24 * d + j + l then wI w3 117 (y - (24 * d + j)) else wI w3 112 y := by
        intro n
        induction n with
        | zero => intro k w4 _ _ _ g; omega
        | succ n ih =>
          intro k w4 F4 y4 hk g
          have h4 := F4.lay h3
          unfold L_X9_copy_141
          by_cases z : k = l
          · subst z
            rw [if_pos ((nI_le' (by omega) (by omega)).mpr (Nat.le_refl _))]
            exact ⟨w4, rfl, F4, y4⟩
          · rw [if_neg (fun y => by have := (nI_le' (by omega) (by omega)).mp y; omega), e24, nI_add]
            simp only [lk_96 h4, ↓reduceIte, lr_96_32 h4, lr_96_27 h4, bd1_s, la_112 h4 (show 24 * d + j + k < 96 by omega), la_117 h4 (show k < 24 by omega), nx_nI (show 24 * d + j + k < 2 ^ 31 by omega), nx_nI (show k < 2 ^ 31 by omega), lb_e, nI_s1]
            refine ih (k + 1) _ (F4.tr (Fr.sI _ _ _ rfl)) (fun y => ?_) (by omega) (by omega)
            rw [wI_s1, F4.2.2.2.2 117 (by decide)]
            by_cases e : y = 24 * d + j + k
            · subst e
              rw [upd_s, if_pos (by omega)]
              congr 1
              omega
            · rw [upd_n _ _ e, y4 y]
              by_cases e2 : 24 * d + j ≤ y ∧ y < 24 * d + j + k
              · rw [if_pos e2, if_pos (by omega)]
              · rw [if_neg e2, if_neg (by omega)]
      obtain ⟨w5, f5, F5, y5⟩ := L2 FU 0 w3 (Fr.rf w3) (fun y => by rw [if_neg (by omega)]) (by omega) (by unfold FU; omega)
      have F35 : Fr (fun a => (110 ≤ a ∧ a < 113) ∨ a = 117) w1 w5 := (F3.mono (fun a ha => Or.inr ha)).tr (F5.mono (fun a ha => by omega))
      refine ⟨nI l, w1, w5, ?_, h1, ?_, I.sh (F1.mono (fun a ha => by omega)) F35 ?_⟩
      · rw [X0, hX, bd2_s, if_neg (by decide), if_pos (ls_k h hd), hX', bd2_s, if_neg (by decide), if_pos (ls_k h hs), ls_2 h hs, bd1_s, if_pos (ls_k h hd), ls_2 h hd, bd1_s, if_pos cpk, lb_e, ← ew1]
      · have e110 : wI w1 110 = wI w 110 := F1.2.2.2.2 110 (by omega)
        have e111 : wI w1 111 = wI w 111 := F1.2.2.2.2 111 (by omega)
        simp only [f_X9_copy, m_isSheet, bd2_s, c1, c2, ↓reduceIte, lk_96 h1, lr_96_25 h1, lr_96_26 h1, bd1_s, la_110 h1 hs, la_110 h1 hd, la_111 h1 hs, la_111 h1 hd, ns, nd, e110, e111, q2, qb, pb, p2, pa, c5, n2, m2]
        rw [if_neg (nI_nlt0 (by omega)), if_neg (nI_nlt0 (by omega)), if_neg (nI_nlt0 (by omega)), nI_sub (by omega), nI_sub (by omega), if_neg (fun y => by have := (nI_lt' (by omega) (by omega)).mp y; omega), if_pos ((nI_le' (by omega) (by omega)).mpr (by omega))]
        exact f3.trans f5
      · intro a ha
        obtain ⟨qq, n', hq', hn', r1, r2, r3, r4, r5⟩ := hSh a ha
        have eA : ∀ x, x ≠ 69 + 2 * d → x ≠ 112 → x ≠ 117 → wI w5 x = wI w x := fun x x1 x2 x3 => by rw [F5.2.2.2.2 x x2, F3.2.2.2.2 x x3, F1.2.2.2.2 x x1]
        refine ⟨qq, n', hq', hn', by rw [eA _ (by omega) (by omega) (by omega)]; exact r1, by rw [eA _ (by omega) (by omega) (by omega)]; exact r2, by rw [eA _ (by omega) (by omega) (by omega)]; exact r3, by rw [eA _ (by omega) (by omega) (by omega)]; exact r4, fun k hk => ?_⟩
        have e112 : wI w3 112 = wI w 112 := by rw [F3.2.2.2.2 112 (by decide), F1.2.2.2.2 112 (by omega)]
        have e112' : wI w1 112 = wI w 112 := F1.2.2.2.2 112 (by omega)
        rw [y5, e112]
        by_cases z : a = d
        · subst z
          rw [F5.2.2.2.2 _ (by omega), F3.2.2.2.2 _ (by omega), e69]
          by_cases e : j ≤ k ∧ k < j + l
          · rw [cpy_in e, if_pos (by omega), y3 _ (by omega), e112', hc _ (by omega)]
            congr 1
            omega
          · rw [cpy_out e, if_neg (by omega)]; exact r5 k hk
        · rw [eA _ (by omega) (by omega) (by omega), if_neg (by omega)]; exact r5 k hk
    · have M13 : f_X9_copy 96 (nI s) i' (nI d) j' l' w = some (-1000000013, w) := by
        simp only [f_X9_copy, m_isSheet, bd2_s, c1, c2, ↓reduceIte, lk_96 h, lr_96_25 h, lr_96_26 h, bd1_s, la_110 h hs, la_110 h hd, la_111 h hs, la_111 h hd, ns, nd, q2, qb, pb, p2, pa, c5, n2, m2]
        by_cases z1 : i' < 0
        · rw [if_pos z1]
        rw [if_neg z1]
        by_cases z2 : j' < 0
        · rw [if_pos z2]
        rw [if_neg z2]
        by_cases z3 : l' < 0
        · rw [if_pos z3]
        rw [if_neg z3]
        rw [lt_I, show (0 : Int32).toInt = 0 from rfl] at z1 z2 z3
        obtain ⟨l, l1, l2, rfl⟩ := of_Int (v := l') (by omega)
        by_cases z4 : nI nn - nI l < i'
        · rw [if_pos z4]
        rw [if_neg z4]
        by_cases z5 : j' ≤ nI mm - nI l
        · rw [lt_I, sub_I (by omega) (by omega)] at z4
          rw [le_I, sub_I (by omega) (by omega)] at z5
          exact absurd ⟨⟨by omega, by omega, by omega⟩, by omega, by omega, by omega⟩ ok
        · rw [if_neg z5]
      refine Ok2.q I (r := -1000000013) ?_ M13
      rw [X0, hX, bd2_s]
      by_cases z : 0 ≤ i'.toInt ∧ 0 ≤ l'.toInt ∧ i'.toInt + l'.toInt ≤ nn
      · rw [if_pos z, if_neg (by decide), if_pos (ls_k h hd), hX', bd2_s, if_neg (fun y => ok ⟨z, y⟩), if_pos rfl]
      · rw [if_neg z, if_pos rfl]
  · refine Ok2.q I (r := -1000000012) ?_ ?_
    · simp only [f_X8_copy, x_isSheet, bd2_s, c1, c2, ↓reduceIte, lk_0 h, lr_0_6 h, bd1_s, ls_a h hs, ls_a h hd, ns, nd, ls_r h hs, ls_r h hd, ls_k h hs, ls_k h hd, q1, c3, p1, c4, c5]
    · simp only [f_X9_copy, m_isSheet, bd2_s, c1, c2, ↓reduceIte, lk_96 h, lr_96_25 h, bd1_s, la_110 h hs, la_110 h hd, ns, nd, q2, qb, p2, pa, c5]
