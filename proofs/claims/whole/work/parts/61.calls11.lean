/-! THE CALLS: tell, sheet, mark, pour, copy, lay -/
theorem Iv.rs {w w1 w2 : Wd} {A B : Nat → Prop} (I : Iv w) (h1 : Fr A w w1) (h2 : Fr B w1 w2) (hA : ∀ a, A a → a = 0 ∨ (61 ≤ a ∧ a < 96)) (hB : ∀ a, B a → 96 ≤ a ∧ a < 119 ∧ a ≠ 97 ∧ a ≠ 98) (e0 : wI w1 0 3 = wI w 0 3) (e96 : wI w2 96 3 = wI w1 96 3) (hT : Tp w2) (hSh : Sh w2) (hSl : Sl w2) (hW : Wq w2) : Iv w2 := by
  obtain ⟨hV, hM, hR⟩ := I.2.1
  have F : Fr (fun a => A a ∨ B a) w w2 := (h1.mono (fun a ha => Or.inl ha)).tr (h2.mono (fun a ha => Or.inr ha))
  have hAB : ∀ x, A x ∨ B x → x = 0 ∨ (61 ≤ x ∧ x < 119 ∧ x ≠ 97 ∧ x ≠ 98) := fun x hx => by
    rcases hx with q | q
    · have := hA x q; omega
    · have := hB x q; omega
  have e : ∀ a, a = 97 ∨ a = 98 → wI w2 a = wI w a := fun a ha => F.2.2.2.2 a (fun q => by have := hAB a q; omega)
  have fb : ∀ b, bI b → ∀ x, A x ∨ B x → (x < b ∨ b + 19 ≤ x) ∧ (x < 119 ∨ x % 3 = 1) := fun b hb x hx => by have := hAB x hx; have := bI_lt hb; rcases hb with q | q | q <;> omega
  refine ⟨F.lay I.1, ⟨by rw [e 97 (by omega)]; exact hV, by rw [e 97 (by omega)]; exact hM, by rw [e 97 (by omega)]; exact hR.fr bI1 hV.1 F (fb 1 bI1)⟩, ?_, hT, hSh, hSl, hW⟩
  have k0 : wI w2 0 3 = wI w 0 3 := by rw [h2.2.2.2.2 0 (fun q => by have := hB 0 q; omega)]; exact e0
  have k96 : wI w2 96 3 = wI w 96 3 := by rw [e96, h1.2.2.2.2 96 (fun q => by have := hA 96 q; omega)]
  unfold Im
  rw [k0, k96, e 98 (by omega)]
  rcases I.2.2.1 with q | ⟨q1, q2, q3, q4, q5⟩
  · exact Or.inl q
  · exact Or.inr ⟨q1, q2, q3, q4, q5.fr bI20 q3.1 F (fb 20 bI20)⟩
theorem E_tell {w : Wd} (I : Iv w) (v : Int32) : Ok2 (f_X8_tell 0 v) (f_X9_tell 96 v) w := by
  have h := I.1
  obtain ⟨hI, hT, hSh, hSl, n, hn, n0, n96, hc⟩ := I.2.2
  by_cases z : n = 60
  · subst z
    refine Ok2.q I (r := -1000000003) ?_ ?_
    · simp only [f_X8_tell, lk_0 h, ↓reduceIte, n0, show ¬ nI 60 < 60 by decide]
    · simp only [f_X9_tell, lk_96 h, ↓reduceIte, n96, show nI 60 = 60 from rfl]
  have nn := nx_nI (show n < 2 ^ 31 by omega)
  have lt : nI n < (60 : Int32) := (nI_lt' (b := 60) (by omega) (by omega)).mpr (by omega)
  have ne : ¬ nI n = (60 : Int32) := fun q => z (nI_inj (b := 60) (by omega) (by omega) q)
  obtain ⟨w1, ew1⟩ : ∃ x, x = sI (sI w 67 n v) 0 9 (nI (n + 1)) := ⟨_, rfl⟩
  have F1 : Fr (fun a => a = 67 ∨ a = 0) w w1 := by rw [ew1]; exact (Fr.sI (A := fun a => a = 67 ∨ a = 0) _ _ _ (Or.inl rfl)).tr (Fr.sI _ _ _ (Or.inr rfl))
  have h1 := F1.lay h
  obtain ⟨w2, ew2⟩ : ∃ x, x = sI (sI w1 118 n v) 96 34 (nI (n + 1)) := ⟨_, rfl⟩
  have F2 : Fr (fun a => a = 118 ∨ a = 96) w1 w2 := by rw [ew2]; exact (Fr.sI (A := fun a => a = 118 ∨ a = 96) _ _ _ (Or.inl rfl)).tr (Fr.sI _ _ _ (Or.inr rfl))
  have e : ∀ a, a ≠ 67 → a ≠ 0 → a ≠ 118 → a ≠ 96 → wI w2 a = wI w a := fun a a1 a2 a3 a4 => by rw [F2.2.2.2.2 a (by omega), F1.2.2.2.2 a (by omega)]
  have e67 : wI w2 67 = upd (wI w 67) n v := by rw [F2.2.2.2.2 67 (by decide), ew1, wI_s2 _ _ _ (by decide), wI_s1]
  have e118 : wI w2 118 = upd (wI w 118) n v := by rw [ew2, wI_s2 _ _ _ (by decide), wI_s1, F1.2.2.2.2 118 (by decide)]
  refine ⟨nI (n + 1), w1, w2, ?_, h1, ?_, I.rs F1 F2 (fun a ha => by omega) (fun a ha => by omega) ?_ ?_ (hT.cg (e 61 (by decide) (by decide) (by decide) (by decide)) (e 62 (by decide) (by decide) (by decide) (by decide)) (fun a a1 a2 => e a (by omega) (by omega) (by omega) (by omega)) ?_) (hSh.cg (fun a ha => e a (by omega) (by omega) (by omega) (by omega))) (hSl.cg (fun a ha => e a (by omega) (by omega) (by omega) (by omega))) ⟨n + 1, by omega, ?_, ?_, fun k hk => ?_⟩⟩
  · have s9 : wI (sI w 67 n v) 0 9 = nI n := by rw [wI_s2 _ _ _ (by decide)]; exact n0
    simp only [f_X8_tell, lk_0 h, ↓reduceIte, n0, lt, lr_0_8 h, bd1_s, la_67 h (show n < 60 by omega), nn, lb_e, s9, nI_s1]
    rw [← ew1, show wI w1 0 9 = nI (n + 1) by rw [ew1, wI_ss]]
  · have s34 : wI w1 96 34 = nI n := by rw [F1.2.2.2.2 96 (by decide)]; exact n96
    have s35 : wI (sI w1 118 n v) 96 34 = nI n := by rw [wI_s2 _ _ _ (by decide)]; exact s34
    simp only [f_X9_tell, lk_96 h1, ↓reduceIte, s34, ne, lr_96_33 h1, bd1_s, la_118 h1 (show n < 60 by omega), nn, lb_e, s35, nI_s1]
    rw [← ew2, show wI w2 96 34 = nI (n + 1) by rw [ew2, wI_ss]]
  · rw [ew1, wI_sn _ _ (Or.inr (by decide)), wI_s2 _ _ _ (by decide)]
  · rw [ew2, wI_sn _ _ (Or.inr (by decide)), wI_s2 _ _ _ (by decide)]
  · rw [ew2, wI_sn _ _ (Or.inr (by decide)), wI_s2 _ _ _ (by decide), F1.2.2.2.2 96 (by decide)]
  · rw [F2.2.2.2.2 0 (by decide), ew1, wI_ss]
  · rw [ew2, wI_ss]
  · rw [e67, e118]
    by_cases y : k = n
    · subst y; rw [upd_s, upd_s]
    · rw [upd_n _ _ y, upd_n _ _ y]; exact hc k (by omega)
theorem wi_m1 {u : Int32} (h : ¬ wi_ u (-1) 1 = 0) : u = -1 ∨ u = 0 ∨ u = 1 := by
  obtain ⟨h1, h2⟩ := wi_i h
  rw [show (-1 : Int32).toInt = -1 from rfl] at h1
  rw [show (1 : Int32).toInt = 1 from rfl] at h2
  rcases (show u.toInt = -1 ∨ u.toInt = 0 ∨ u.toInt = 1 by omega) with e | e | e
  · exact Or.inl (eq_I (by rw [e]; rfl))
  · exact Or.inr (Or.inl (eq_I (by rw [e]; rfl)))
  · exact Or.inr (Or.inr (eq_I (by rw [e]; rfl)))
/-- only sheets change -/
theorem Iv.sh {w w1 w2 : Wd} (I : Iv w) (h1 : Fr (fun a => 68 ≤ a ∧ a < 76) w w1) (h2 : Fr (fun a => (110 ≤ a ∧ a < 113) ∨ a = 117) w1 w2) (hSh : Sh w2) : Iv w2 := by
  obtain ⟨hI, hT, -, hSl, hW⟩ := I.2.2
  have e : ∀ a, ¬ (68 ≤ a ∧ a < 76) → ¬ ((110 ≤ a ∧ a < 113) ∨ a = 117) → wI w2 a = wI w a := fun a a1 a2 => by rw [h2.2.2.2.2 a a2, h1.2.2.2.2 a a1]
  refine I.rs h1 h2 (fun a ha => by omega) (fun a ha => by omega) (by rw [h1.2.2.2.2 0 (by omega)]) (by rw [h2.2.2.2.2 96 (by omega)]) (hT.cg (e 61 (by omega) (by omega)) (e 62 (by omega) (by omega)) (fun a a1 a2 => e a (by omega) (by omega)) (by rw [e 96 (by omega) (by omega)])) hSh (hSl.cg (fun a ha => e a (by omega) (by omega))) (hW.cg (by rw [e 0 (by omega) (by omega)]) (by rw [e 96 (by omega) (by omega)]) (e 67 (by omega) (by omega)) (e 118 (by omega) (by omega)))
theorem x_clear {w : Wd} (h : Lay w) {s : Nat} (hs : s < 4) (v u : Int32) : ∃ w', f_X3_clear (68 + 2 * s) v u w = some ((), w') ∧ Fr (fun a => a = 68 + 2 * s ∨ a = 69 + 2 * s) w w' ∧ wI w' (68 + 2 * s) 0 = v ∧ wI w' (68 + 2 * s) 1 = u ∧ ∀ k, k < 24 → wI w' (69 + 2 * s) k = 0 := by
  obtain ⟨w1, ew1⟩ : ∃ x, x = sI (sI w (68 + 2 * s) 0 v) (68 + 2 * s) 1 u := ⟨_, rfl⟩
  have F1 : Fr (fun a => a = 68 + 2 * s) w w1 := by rw [ew1]; exact (Fr.sI (A := fun a => a = 68 + 2 * s) _ _ _ rfl).tr (Fr.sI _ _ _ rfl)
  have h1 := F1.lay h
  have L : ∀ n k (w2 : Wd), Fr (fun a => a = 69 + 2 * s) w1 w2 → (∀ j, j < k → wI w2 (69 + 2 * s) j = 0) → k ≤ 24 → 24 - k < n → ∃ w', L_X3_clear_12 n (68 + 2 * s) (nI k) w2 = some ((), w') ∧ Fr (fun a => a = 69 + 2 * s) w1 w' ∧ ∀ j, j < 24 → wI w' (69 + 2 * s) j = 0 := by
    intro n
    induction n with
    | zero => intro k w2 _ _ _ g; omega
    | succ n ih =>
      intro k w2 F2 q hk g
      have h2 := F2.lay h1
      unfold L_X3_clear_12
      rw [show (24 : Int32) = nI 24 from rfl]
      by_cases z : k = 24
      · subst z
        rw [if_pos ((nI_le' (by omega) (by omega)).mpr (Nat.le_refl _))]
        exact ⟨w2, rfl, F2, q⟩
      · rw [if_neg (fun y => by have := (nI_le' (by omega) (by omega)).mp y; omega)]
        simp only [ls_k h2 hs, ↓reduceIte, ls_2 h2 hs, bd1_s, ls_c h2 hs (show k < 24 by omega), nx_nI (show k < 2 ^ 31 by omega), lb_e, nI_s1]
        refine ih (k + 1) _ (F2.tr (Fr.sI _ _ _ rfl)) (fun j hj => ?_) (by omega) (by omega)
        by_cases y : j = k
        · subst y; rw [wI_ss]
        · rw [wI_sn _ _ (Or.inr y)]; exact q j (by omega)
  obtain ⟨w2, f2, F2, q2⟩ := L FU 0 w1 (Fr.rf w1) (fun j hj => absurd hj (Nat.not_lt_zero j)) (by omega) (by unfold FU; omega)
  have e2 : wI w2 (68 + 2 * s) = wI w1 (68 + 2 * s) := F2.2.2.2.2 _ (by omega)
  refine ⟨w2, ?_, (F1.mono (fun a ha => Or.inl ha)).tr (F2.mono (fun a ha => Or.inr ha)), ?_, ?_, q2⟩
  · simp only [f_X3_clear, ls_k h hs, ↓reduceIte, lb_e]
    rw [← ew1]
    exact f2
  · rw [e2, ew1, wI_sn _ _ (Or.inr (by decide)), wI_ss]
  · rw [e2, ew1, wI_ss]
theorem m_clear {w : Wd} (h : Lay w) {s : Nat} (hs : s < 4) (v u t : Int32) (ht : (if 0 ≤ v then u else 0) = t) : ∃ w', j_X9_sheet_41 96 (nI s) v u w = some (t, w') ∧ Fr (fun a => 110 ≤ a ∧ a < 113) w w' ∧ wI w' 110 = upd (wI w 110) s v ∧ wI w' 111 = upd (wI w 111) s t ∧ ∀ k, wI w' 112 k = if 24 * s ≤ k ∧ k < 24 * s + 24 then 0 else wI w 112 k := by
  have ns := nx_nI (show s < 2 ^ 31 by omega)
  have F0 : Fr (fun a => 110 ≤ a ∧ a < 113) w (sI w 110 s v) := Fr.sI _ _ _ (by omega)
  have h0 := F0.lay h
  obtain ⟨w1, ew1⟩ : ∃ x, x = sI (sI w 110 s v) 111 s t := ⟨_, rfl⟩
  have F1 : Fr (fun a => 110 ≤ a ∧ a < 113) w w1 := by rw [ew1]; exact F0.tr (Fr.sI _ _ _ (by omega))
  have h1 := F1.lay h
  have e110 : wI w1 110 = upd (wI w 110) s v := by rw [ew1, wI_s2 _ _ _ (by decide), wI_s1]
  have e111 : wI w1 111 = upd (wI w 111) s t := by rw [ew1, wI_s1, wI_s2 _ _ _ (by decide)]
  have e112 : wI w1 112 = wI w 112 := by rw [ew1, wI_s2 _ _ _ (by decide), wI_s2 _ _ _ (by decide)]
  have L : ∀ n k (w2 : Wd), Fr (fun a => a = 112) w1 w2 → (∀ j, wI w2 112 j = if 24 * s ≤ j ∧ j < 24 * s + k then 0 else wI w 112 j) → k ≤ 24 → 24 - k < n → ∃ w', L_X9_sheet_66 n 96 (nI s) (nI k) w2 = some (t, w') ∧ Fr (fun a => a = 112) w1 w' ∧ ∀ j, wI w' 112 j = if 24 * s ≤ j ∧ j < 24 * s + 24 then 0 else wI w 112 j := by
    intro n
    induction n with
    | zero => intro k w2 _ _ _ g; omega
    | succ n ih =>
      intro k w2 F2 q hk g
      have h2 := F2.lay h1
      unfold L_X9_sheet_66
      rw [e24, show (24 : Int32) = nI 24 from rfl]
      by_cases z : k = 24
      · subst z
        rw [if_pos ((nI_le' (by omega) (by omega)).mpr (Nat.le_refl _))]
        simp only [lk_96 h2, lr_96_26 h2, bd1_s, ↓reduceIte, la_111 h2 hs, ns]
        rw [F2.2.2.2.2 111 (by decide), e111, upd_s]
        exact ⟨w2, rfl, F2, q⟩
      · rw [if_neg (fun y => by have := (nI_le' (by omega) (by omega)).mp y; omega)]
        simp only [lk_96 h2, lr_96_27 h2, bd1_s, ↓reduceIte, la_112 h2 (show 24 * s + k < 96 by omega), nx_nI (show 24 * s + k < 2 ^ 31 by omega), lb_e, nI_s1]
        refine ih (k + 1) _ (F2.tr (Fr.sI _ _ _ rfl)) (fun j => ?_) (by omega) (by omega)
        rw [wI_s1]
        by_cases y : j = 24 * s + k
        · subst y; rw [upd_s, if_pos (by omega)]
        · rw [upd_n _ _ y, q j]
          by_cases y2 : 24 * s ≤ j ∧ j < 24 * s + k
          · rw [if_pos y2, if_pos (by omega)]
          · rw [if_neg y2, if_neg (show ¬ (24 * s ≤ j ∧ j < 24 * s + (k + 1)) by omega)]
  obtain ⟨w2, f2, F2, q2⟩ := L FU 0 w1 (Fr.rf w1) (fun j => by rw [if_neg (by omega), e112]) (by omega) (by unfold FU; omega)
  refine ⟨w2, ?_, F1.tr (F2.mono (fun a ha => by omega)), by rw [F2.2.2.2.2 110 (by decide)]; exact e110, by rw [F2.2.2.2.2 111 (by decide)]; exact e111, q2⟩
  simp only [j_X9_sheet_41, lk_96 h, lr_96_25 h, bd1_s, ↓reduceIte, la_110 h hs, ns, lb_e, lr_96_26 h0, la_111 h0 hs, ht]
  rw [← ew1]
  exact f2
theorem Sh.clear {w w1 w2 : Wd} (hSh : Sh w) {s : Nat} (hs : s < 4) {v : Int32} {n : Nat} (hv : v = -1 ∨ v = 0 ∨ v = 1) (hn : n ≤ 24) (F1 : Fr (fun a => a = 68 + 2 * s ∨ a = 69 + 2 * s) w w1) (x0 : wI w1 (68 + 2 * s) 0 = v) (x1 : wI w1 (68 + 2 * s) 1 = nI n) (x2 : ∀ k, k < 24 → wI w1 (69 + 2 * s) k = 0) (F2 : Fr (fun a => 110 ≤ a ∧ a < 113) w1 w2) (y0 : wI w2 110 = upd (wI w1 110) s v) (y1 : wI w2 111 = upd (wI w1 111) s (nI n)) (y2 : ∀ k, wI w2 112 k = if 24 * s ≤ k ∧ k < 24 * s + 24 then 0 else wI w1 112 k) : Sh w2 := by
  intro i hi
  have g : ∀ a, 110 ≤ a → a < 113 → wI w1 a = wI w a := fun a a1 a2 => F1.2.2.2.2 a (by omega)
  by_cases z : i = s
  · subst z
    refine ⟨v, n, hv, hn, ?_, ?_, ?_, ?_, fun k hk => ?_⟩
    · rw [F2.2.2.2.2 _ (by omega)]; exact x0
    · rw [y0, upd_s]
    · rw [F2.2.2.2.2 _ (by omega)]; exact x1
    · rw [y1, upd_s]
    · rw [F2.2.2.2.2 _ (by omega), x2 k hk, y2, if_pos (by omega)]
  · obtain ⟨q, nn, hq, hnn, q1, q2, q3, q4, q5⟩ := hSh i hi
    have e1 : ∀ a, a = 68 + 2 * i ∨ a = 69 + 2 * i → wI w2 a = wI w a := fun a ha => by rw [F2.2.2.2.2 a (by omega), F1.2.2.2.2 a (by omega)]
    refine ⟨q, nn, hq, hnn, ?_, ?_, ?_, ?_, fun k hk => ?_⟩
    · rw [e1 _ (Or.inl rfl)]; exact q1
    · rw [y0, upd_n _ _ z, g 110 (by omega) (by omega)]; exact q2
    · rw [e1 _ (Or.inl rfl)]; exact q3
    · rw [y1, upd_n _ _ z, g 111 (by omega) (by omega)]; exact q4
    · rw [e1 _ (Or.inr rfl), y2, if_neg (by omega), g 112 (by omega) (by omega)]; exact q5 k hk
theorem E_sheet {w : Wd} (I : Iv w) (v u t : Int32) : Ok2 (f_X8_sheet 0 v u t) (f_X9_sheet 96 v u t) w := by
  have h := I.1
  obtain ⟨hI, hT, hSh, hSl, hW⟩ := I.2.2
  by_cases c1 : wi_ v 0 3 = 0
  · exact Ok2.q I (r := -1000000001) (by simp only [f_X8_sheet, x_isSheet, bd2_s, c1, ↓reduceIte]) (by simp only [f_X9_sheet, m_isSheet, bd2_s, c1, ↓reduceIte])
  by_cases c2 : wi_ u (-1) 1 = 0
  · exact Ok2.q I (r := -1000000001) (by simp only [f_X8_sheet, x_isSheet, bd2_s, c1, wi_X, c2, ↓reduceIte]) (by simp only [f_X9_sheet, m_isSheet, bd2_s, c1, wi_M, c2, ↓reduceIte])
  obtain ⟨s, hs, rfl⟩ := wi_3 c1
  have ns := nx_nI (show s < 2 ^ 31 by omega)
  have hu : u = -1 ∨ u = 0 ∨ u = 1 := wi_m1 c2
  have go : ∀ (n : Nat), n ≤ 24 → (if 0 ≤ u then t else 0) = nI n → (∀ w1, f_X3_clear (68 + 2 * s) u (nI n) w = some ((), w1) → f_X8_sheet 0 (nI s) u t w = some (nI n, w1)) → (∀ w1, f_X9_sheet 96 (nI s) u t w1 = j_X9_sheet_41 96 (nI s) u t w1) → Ok2 (f_X8_sheet 0 (nI s) u t) (f_X9_sheet 96 (nI s) u t) w := by
    intro n hn ht g1 g2
    obtain ⟨w1, f1, F1, x0, x1, x2⟩ := x_clear h hs u (nI n)
    have h1 := F1.lay h
    obtain ⟨w2, f2, F2, y0, y1, y2⟩ := m_clear h1 hs u t (nI n) ht
    exact ⟨nI n, w1, w2, g1 w1 f1, h1, by rw [g2]; exact f2, I.sh (F1.mono (fun a ha => by omega)) (F2.mono (fun a ha => Or.inl ha)) (hSh.clear hs hu hn F1 x0 x1 x2 F2 y0 y1 y2)⟩
  by_cases c3 : u = -1
  · subst c3
    refine go 0 (by decide) (if_neg (by decide)) (fun w1 f1 => ?_) (fun w1 => ?_)
    · rw [show nI 0 = (0 : Int32) from rfl] at f1 ⊢
      simp only [f_X8_sheet, x_isSheet, bd2_s, c1, wi_X, c2, ↓reduceIte, lk_0 h, lr_0_6 h, bd1_s, ls_a h hs, ns, ls_r h hs, ls_k h hs, f1]
    · simp only [f_X9_sheet, j_X9_sheet_29, m_isSheet, bd2_s, c1, wi_M, c2, ↓reduceIte, show (-1 : Int32) < 0 by decide]
  have u0 : (0 : Int32) ≤ u ∧ ¬ u < 0 := by
    rcases hu with e | e | e
    · exact absurd e c3
    · subst e; decide
    · subst e; decide
  by_cases c4 : t ≤ 24
  · by_cases c5 : 0 ≤ t
    · obtain ⟨n, hn, rfl⟩ := nI_of (fun y : t < 0 => by rw [lt_I] at y; rw [le_I] at c5; omega)
      have hn' : n ≤ 24 := (nI_le' (b := 24) (by omega) (by omega)).mp c4
      refine go n hn' (if_pos u0.1) (fun w1 f1 => ?_) (fun w1 => ?_)
      · simp only [f_X8_sheet, x_isSheet, bd2_s, c1, wi_X, c2, c3, c4, c5, ↓reduceIte, lk_0 h, lr_0_6 h, bd1_s, ls_a h hs, ns, ls_r h hs, ls_k h hs, f1]
      · simp only [f_X9_sheet, j_X9_sheet_29, m_isSheet, bd2_s, c1, wi_M, c2, ↓reduceIte, u0.2, c4, c5]
    · exact Ok2.q I (r := -1000000014) (by simp only [f_X8_sheet, x_isSheet, bd2_s, c1, wi_X, c2, c3, c4, c5, ↓reduceIte]) (by simp only [f_X9_sheet, j_X9_sheet_29, m_isSheet, bd2_s, c1, wi_M, c2, ↓reduceIte, u0.2, c4, c5])
  · exact Ok2.q I (r := -1000000001) (by simp only [f_X8_sheet, x_isSheet, bd2_s, c1, wi_X, c2, c3, c4, ↓reduceIte]) (by simp only [f_X9_sheet, m_isSheet, bd2_s, c1, wi_M, c2, ↓reduceIte, u0.2, c4])
