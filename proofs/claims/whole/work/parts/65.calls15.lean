/-! THE CALLS: fee, fine, textTold, why -/
theorem wt_both {w : Wd} {σ : Nat → Int32} (h : Lay w) (hσ : wI w 97 = σ) (hV : Vd σ) (hR : RI w 1 σ) {key t : Nat} (hk : key < 3) (hk0 : key ≠ 0) (e : lst σ key (T_ σ) = some t) (x y : Int32) : ∃ (a : Nat) (r : Int32) (w1 : Wd), f_X1_lawOf 1 (nI key) w = some (some a, w) ∧ wK w a = 7 ∧ f_X7_value a x y 0 w = some (r, w1) ∧ Fr Sk w w1 ∧ ∃ w2, f_X9_worksOut 96 (nI t) (sI (sI w1 109 0 x) 109 1 y) = some (r, w2) ∧ FM w1 w2 ∧ wI w2 97 = wI w1 97 := by
  obtain ⟨a, f1, T1⟩ := (x_lawOf h bI1 hV.2.2.1 hR.2.2 hk).2 t e
  obtain ⟨ht, hky⟩ := lst_lt e
  have h14 := hV.2.2.1.2.1
  obtain ⟨v1, v2, v3, v4, v5⟩ := hV.2.2.1.2.2 t ht
  have nm2 : nmK (kyT σ t) = 2 := by unfold nmK; rw [hky, if_neg hk0]
  rw [nm2] at v5
  obtain ⟨w1, f2, F2⟩ := x_value T1 v5 (by decide) (F := fun j => if j = 0 then x else if j = 2 then 0 else y) (v1 := x) (v2 := y) (v3 := 0) (fun j _ => rfl)
  have h1 := F2.lay h
  obtain ⟨w3, e3⟩ : ∃ z, z = sI (sI w1 109 0 x) 109 1 y := ⟨_, rfl⟩
  have F3 : FM w1 w3 := by rw [e3]; exact FM.of ((Fr.sI (A := fun a => a = 97 ∨ a = 108 ∨ a = 109) _ _ _ (by omega)).tr (Fr.sI _ _ _ (by omega)))
  have h3 := F3.1.lay h1
  have n3 : wI w3 97 = σ := by
    rw [e3, wI_s2 _ _ _ (by decide), wI_s2 _ _ _ (by decide), F2.2.2.2.2 97 (fun q => by have := q.1; omega)]; exact hσ
  obtain ⟨w2, f4, F4⟩ := m_worksOut h3 n3 (show t < 14 by omega) v1 v2 v4 v5 (by decide) (F := fun j => if j = 0 then x else if j = 2 then 0 else y) (fun j hj => by
    rcases (show j = 0 ∨ j = 1 by omega) with q | q <;> subst q
    · rw [e3, wI_sn _ _ (Or.inr (by decide)), wI_ss]; rfl
    · rw [e3, wI_ss]; rfl)
  exact ⟨a, _, w1, f1, T1.2.1.1, f2, F2, w2, by rw [← e3]; exact f4, F3.tr (FM.of (F4.mono (fun a ha => Or.inr (Or.inl ha)))), by rw [F4.2.2.2.2 97 (by decide), e3, wI_s2 _ _ _ (by decide), wI_s2 _ _ _ (by decide)]⟩
theorem Iv.wt {w w1 w2 : Wd} (I : Iv w) (F1 : Fr Sk w w1) (F2 : FM w1 w2) (e : wI w2 97 = wI w1 97) : Iv w2 := by
  obtain ⟨hV, hM, hR⟩ := I.2.1
  refine I.now (F1.mono (fun a ha => Or.inr ha)) (hR.fr bI1 hV.1 F1 (fun x hx => ⟨Or.inr (by have := hx.1; omega), Or.inr hx.2⟩)) hV hM F2 ?_
  rw [e]
  exact F1.2.2.2.2 97 (fun q => by have := q.1; omega)
theorem E_fee {w : Wd} (I : Iv w) : Ok2 (f_X8_fee 0) (f_X9_fee 96) w := by
  have h := I.1
  obtain ⟨hV, hM, hR⟩ := I.2.1
  have r5 : wI w 1 5 = wI w 97 10 := hR.2.1.2.2.1
  have r6 : wI w 1 6 = wI w 97 5 := hR.2.1.2.2.2.1
  have mc : ∀ w1, Lay w1 → wI w1 97 = wI w 97 → f_X9_counts 96 1 w1 = some (match lst (wI w 97) 1 (T_ (wI w 97)) with | none => -1 | some t => nI t, w1) := fun w1 h1 e => m_counts h1 e hV.2.2.1 (key := 1) (by decide)
  have m0 : ∀ (w1 : Wd), Lay w1 → aK 11 w1 97 10 = true ∧ aK 11 w1 97 5 = true ∧ aK 11 w1 109 0 = true ∧ aK 11 w1 109 1 = true := fun w1 h1 => ⟨la_97 h1 (show 10 < 1444 by decide), la_97 h1 (show 5 < 1444 by decide), la_109 h1 (show 0 < 4 by decide), la_109 h1 (show 1 < 4 by decide)⟩
  cases e : lst (wI w 97) 1 (T_ (wI w 97)) with
  | none =>
    have f1 := (x_lawOf h bI1 hV.2.2.1 hR.2.2 (key := 1) (by decide)).1 e
    rw [show nI 1 = (1 : Int32) from rfl] at f1
    have c := mc w h rfl
    rw [e] at c
    have Fa : FM w (sI w 109 0 (wI w 97 10)) := FM.of (Fr.sI _ _ _ (by omega))
    have ha := Fa.1.lay h
    have Fb : FM w (sI (sI w 109 0 (wI w 97 10)) 109 1 (wI w 97 5)) := Fa.tr (FM.of (Fr.sI _ _ _ (by omega)))
    have hb := Fb.1.lay h
    have na : wI (sI w 109 0 (wI w 97 10)) 97 = wI w 97 := wI_s2 _ _ _ (by decide)
    have nb : wI (sI (sI w 109 0 (wI w 97 10)) 109 1 (wI w 97 5)) 97 = wI w 97 := by rw [wI_s2 _ _ _ (by decide)]; exact na
    refine ⟨wI w 97 10, w, _, ?_, h, ?_, I.wt (Fr.rf w) Fb nb⟩
    · simp only [f_X8_fee, lk_0 h, lr_0_0 h, bd1_s, bd2_s, lb_e, ↓reduceIte, li_k h bI1, li_r0 h bI1, li_r1 h bI1, li_r3 h bI1, li_r4 h bI1, li_k1 h bI1, f1, mt_, r5]
    · simp only [f_X9_fee, lk_96 h, ↓reduceIte, c, bd2_s, lr_96_24 h, lr_96_0 h, bd1_s, m0 w h, show nx 0 = 0 from rfl, show nx 10 = 10 from rfl, lb_e, lr_96_24 ha, lr_96_0 ha, m0 _ ha, show nx 1 = 1 from rfl, show nx 5 = 5 from rfl, na, show ¬ (0 : Int32) ≤ -1 by decide, lr_96_0 hb, m0 _ hb, nb]
  | some t =>
    obtain ⟨a, r, w1, f1, k7, f2, F1, w2, f3, F2, n2⟩ := wt_both h rfl hV hR (key := 1) (by decide) (by decide) e (wI w 97 10) (wI w 97 5)
    have h1 := F1.lay h
    have n1 : wI w1 97 = wI w 97 := F1.2.2.2.2 97 (fun q => by have := q.1; omega)
    rw [show nI 1 = (1 : Int32) from rfl] at f1
    have c := mc w1 h1 n1
    rw [e] at c
    have ht := (lst_lt e).1
    have h14 := hV.2.2.1.2.1
    have ha := (Fr.sI (A := fun a => a = 109) w1 0 (wI w 97 10) rfl).lay h1
    have na : wI (sI w1 109 0 (wI w 97 10)) 97 = wI w 97 := by rw [wI_s2 _ _ _ (by decide)]; exact n1
    refine ⟨r, w1, w2, ?_, h1, ?_, I.wt F1 F2 n2⟩
    · simp only [f_X8_fee, lk_0 h, lr_0_0 h, bd1_s, bd2_s, lb_e, ↓reduceIte, li_k h bI1, li_r0 h bI1, li_r1 h bI1, li_r3 h bI1, li_r4 h bI1, li_k1 h bI1, f1, mt_, r5, r6, k7, f2]
    · simp only [f_X9_fee, lk_96 h1, ↓reduceIte, c, bd2_s, lr_96_24 h1, lr_96_0 h1, bd1_s, m0 w1 h1, show nx 0 = 0 from rfl, show nx 10 = 10 from rfl, lb_e, lr_96_24 ha, lr_96_0 ha, m0 _ ha, show nx 1 = 1 from rfl, show nx 5 = 5 from rfl, na, n1, show (0 : Int32) ≤ nI t from nI_pos' (by omega), f3]
theorem E_fine {w : Wd} (I : Iv w) (v : Int32) : Ok2 (f_X8_fine 0 v) (f_X9_fine 96 v) w := by
  have h := I.1
  obtain ⟨hV, hM, hR⟩ := I.2.1
  have hS := hV.1
  have h12 := hS.c12
  by_cases c1 : wi_ v 0 (wI w 97 1 - 1) = 0
  · exact Ok2.q I (r := -1000000001) (by simp only [f_X8_fine, lk_0 h, ↓reduceIte, x_isSitter I, bd2_s, c1]) (by simp only [f_X9_fine, lk_96 h, ↓reduceIte, m_isSitter h rfl, bd2_s, c1])
  have c1' := c1
  rw [hS.c] at c1
  obtain ⟨i, hi, rfl⟩ := wi_n (by omega) c1
  have hi12 : i < 12 := by omega
  have r5 : wI w (1 + 7 + i) 2 = sv (wI w 97) i 2 := hR.1.2.2 i hi 2 (by decide)
  have r6 : wI w (1 + 7 + i) 3 = sv (wI w 97) i 3 := hR.1.2.2 i hi 3 (by decide)
  have of2 : ∀ w1, Lay w1 → wI w1 97 = wI w 97 → f_X9_of 96 (nI i) 2 w1 = some (sv (wI w 97) i 2, w1) := fun w1 h1 e => by
    have := m_of h1 hi12 (k := 2) (by decide)
    rw [e] at this
    exact this
  have of3 : ∀ w1, Lay w1 → wI w1 97 = wI w 97 → f_X9_of 96 (nI i) 3 w1 = some (sv (wI w 97) i 3, w1) := fun w1 h1 e => by
    have := m_of h1 hi12 (k := 3) (by decide)
    rw [e] at this
    exact this
  have mc : ∀ w1, Lay w1 → wI w1 97 = wI w 97 → f_X9_counts 96 2 w1 = some (match lst (wI w 97) 2 (T_ (wI w 97)) with | none => -1 | some t => nI t, w1) := fun w1 h1 e => m_counts h1 e hV.2.2.1 (key := 2) (by decide)
  have m0 : ∀ (w1 : Wd), Lay w1 → aK 11 w1 109 0 = true ∧ aK 11 w1 109 1 = true := fun w1 h1 => ⟨la_109 h1 (show 0 < 4 by decide), la_109 h1 (show 1 < 4 by decide)⟩
  cases e : lst (wI w 97) 2 (T_ (wI w 97)) with
  | none =>
    have f1 := (x_lawOf h bI1 hV.2.2.1 hR.2.2 (key := 2) (by decide)).1 e
    rw [show nI 2 = (2 : Int32) from rfl] at f1
    have c := mc w h rfl
    rw [e] at c
    have Fa : FM w (sI w 109 0 (sv (wI w 97) i 2)) := FM.of (Fr.sI _ _ _ (by omega))
    have ha := Fa.1.lay h
    have Fb : FM w (sI (sI w 109 0 (sv (wI w 97) i 2)) 109 1 (sv (wI w 97) i 3)) := Fa.tr (FM.of (Fr.sI _ _ _ (by omega)))
    have hb := Fb.1.lay h
    have na : wI (sI w 109 0 (sv (wI w 97) i 2)) 97 = wI w 97 := wI_s2 _ _ _ (by decide)
    have nb : wI (sI (sI w 109 0 (sv (wI w 97) i 2)) 109 1 (sv (wI w 97) i 3)) 97 = wI w 97 := by rw [wI_s2 _ _ _ (by decide)]; exact na
    refine ⟨sv (wI w 97) i 3, w, _, ?_, h, ?_, I.wt (Fr.rf w) Fb nb⟩
    · simp only [f_X8_fine, lk_0 h, lr_0_0 h, bd1_s, bd2_s, lb_e, ↓reduceIte, li_k h bI1, li_r0 h bI1, li_r1 h bI1, li_r3 h bI1, li_r4 h bI1, li_k1 h bI1, x_isSitter I, c1', li_a2 h bI1 hi12, nx_nI (show i < 2 ^ 31 by omega), li_s h bI1 hi12, li_sk h bI1 hi12, f1, mt_, r6]
    · simp only [f_X9_fine, lk_96 h, ↓reduceIte, m_isSitter h rfl, c1', c, bd2_s, lr_96_24 h, bd1_s, of2 w h rfl, m0 w h, show nx 0 = 0 from rfl, lb_e, lk_96 ha, lr_96_24 ha, of3 _ ha na, m0 _ ha, show nx 1 = 1 from rfl, show ¬ (0 : Int32) ≤ -1 by decide, lk_96 hb, of3 _ hb nb]
  | some t =>
    obtain ⟨a, r, w1, f1, k7, f2, F1, w2, f3, F2, n2⟩ := wt_both h rfl hV hR (key := 2) (by decide) (by decide) e (sv (wI w 97) i 2) (sv (wI w 97) i 3)
    have h1 := F1.lay h
    have n1 : wI w1 97 = wI w 97 := F1.2.2.2.2 97 (fun q => by have := q.1; omega)
    rw [show nI 2 = (2 : Int32) from rfl] at f1
    have c := mc w1 h1 n1
    rw [e] at c
    have ht := (lst_lt e).1
    have h14 := hV.2.2.1.2.1
    have ha := (Fr.sI (A := fun a => a = 109) w1 0 (sv (wI w 97) i 2) rfl).lay h1
    have na : wI (sI w1 109 0 (sv (wI w 97) i 2)) 97 = wI w 97 := by rw [wI_s2 _ _ _ (by decide)]; exact n1
    have hb := (Fr.sI (A := fun a => a = 109) _ 1 (sv (wI w 97) i 3) rfl).lay ha
    refine ⟨r, w1, w2, ?_, h1, ?_, I.wt F1 F2 n2⟩
    · simp only [f_X8_fine, lk_0 h, lr_0_0 h, bd1_s, bd2_s, lb_e, ↓reduceIte, li_k h bI1, li_r0 h bI1, li_r1 h bI1, li_r3 h bI1, li_r4 h bI1, li_k1 h bI1, x_isSitter I, c1', li_a2 h bI1 hi12, nx_nI (show i < 2 ^ 31 by omega), li_s h bI1 hi12, li_sk h bI1 hi12, f1, mt_, r5, r6, k7, f2]
    · simp only [f_X9_fine, lk_96 h1, ↓reduceIte, m_isSitter h1 n1, c1', c, bd2_s, lr_96_24 h1, bd1_s, of2 w1 h1 n1, m0 w1 h1, show nx 0 = 0 from rfl, lb_e, lk_96 ha, lr_96_24 ha, of3 _ ha na, m0 _ ha, show nx 1 = 1 from rfl, show (0 : Int32) ≤ nI t from nI_pos' (by omega), lk_96 hb, f3]
theorem E_textTold {w : Wd} (I : Iv w) (v u : Int32) : Ok2 (f_X8_textTold 0 v u) (f_X9_textTold 96 v u) w := by
  have h := I.1
  obtain ⟨hV, hM, hR⟩ := I.2.1
  have hT := hV.2.2.1
  have h14 := hT.2.1
  have r9 : wI w 1 9 = wI w 97 11 := hR.2.2.1
  have a11 : aK 11 w 97 11 = true := la_97 h (show 11 < 1444 by decide)
  by_cases c1 : wi_ v 0 (wI w 97 11 - 1) = 0
  · exact Ok2.q I (r := -1000000001) (by simp only [f_X8_textTold, lk_0 h, lr_0_0 h, bd1_s, bd2_s, lb_e, ↓reduceIte, li_k h bI1, li_r0 h bI1, li_r1 h bI1, li_r3 h bI1, li_r4 h bI1, li_k1 h bI1, r9, wi_X, c1]) (by simp only [f_X9_textTold, lk_96 h, lr_96_0 h, bd1_s, bd2_s, lb_e, ↓reduceIte, a11, show nx 11 = 11 from rfl, wi_M, c1])
  by_cases c2 : wi_ u 0 1 = 0
  · exact Ok2.q I (r := -1000000001) (by simp only [f_X8_textTold, lk_0 h, lr_0_0 h, bd1_s, bd2_s, lb_e, ↓reduceIte, li_k h bI1, li_r0 h bI1, li_r1 h bI1, li_r3 h bI1, li_r4 h bI1, li_k1 h bI1, r9, wi_X, c1, c2]) (by simp only [f_X9_textTold, lk_96 h, lr_96_0 h, bd1_s, bd2_s, lb_e, ↓reduceIte, a11, show nx 11 = 11 from rfl, wi_M, c1, c2])
  have c1' := c1
  rw [hT.1] at c1
  obtain ⟨t, ht, rfl⟩ := wi_n (by omega) c1
  obtain ⟨v1, v2, v3, v4, v5⟩ := hT.2.2 t ht
  obtain ⟨a, ra, T1⟩ := hR.2.2.2.2 t ht
  have hl := v5.1.1
  have e1 : (72 : Int32) + 2 * nI t = nI (72 + 2 * t) := by rw [show (72 : Int32) = nI 72 from rfl, show (2 : Int32) = nI 2 from rfl, nI_mul, nI_add]
  have hm : nI (1000 * kyT (wI w 97) t + lenT (wI w 97) t) / 1000 = nI (kyT (wI w 97) t) := by
    apply eq_I
    rw [Int32.toInt_div, nI_toInt (by omega), nI_toInt (by omega), show (1000 : Int32).toInt = 1000 from rfl, Int.tdiv_eq_ediv_of_nonneg (by omega)]
    rw [Int.bmod_eq_of_le (by omega) (by omega)]
    omega
  by_cases c3 : u = 0
  · subst c3
    refine Ok2.q I (r := nI (kyT (wI w 97) t)) ?_ ?_
    · simp only [f_X8_textTold, lk_0 h, lr_0_0 h, bd1_s, bd2_s, lb_e, ↓reduceIte, li_k h bI1, li_r0 h bI1, li_r1 h bI1, li_r3 h bI1, li_r4 h bI1, li_k1 h bI1, r9, wi_X, c1', c2, li_r8 h bI1, li_a5 h bI1 (show t < 14 by omega), nx_nI (show t < 2 ^ 31 by omega), ra, T1.2.1.1, T1.2.1.2.1]
    · simp only [f_X9_textTold, lk_96 h, lr_96_0 h, bd1_s, bd2_s, lb_e, ↓reduceIte, a11, show nx 11 = 11 from rfl, wi_M, c1', c2, e1, la_97 h (show 72 + 2 * t < 1444 by omega), nx_nI (show 72 + 2 * t < 2 ^ 31 by omega), v2, hm]
  · refine Ok2.q I (r := nI (atT (wI w 97) t)) ?_ ?_
    · simp only [f_X8_textTold, lk_0 h, lr_0_0 h, bd1_s, bd2_s, lb_e, ↓reduceIte, li_k h bI1, li_r0 h bI1, li_r1 h bI1, li_r3 h bI1, li_r4 h bI1, li_k1 h bI1, r9, wi_X, c1', c2, li_r8 h bI1, li_a5 h bI1 (show t < 14 by omega), nx_nI (show t < 2 ^ 31 by omega), ra, c3, T1.2.1.1, T1.2.1.2.2.1]
    · simp only [f_X9_textTold, lk_96 h, lr_96_0 h, bd1_s, bd2_s, lb_e, ↓reduceIte, a11, show nx 11 = 11 from rfl, wi_M, c1', c2, c3, e1, nI_s1, la_97 h (show 72 + 2 * t + 1 < 1444 by omega), nx_nI (show 72 + 2 * t + 1 < 2 ^ 31 by omega), v3]
theorem E_why {w : Wd} (I : Iv w) (v : Int32) : Ok2 (f_X8_why 0 v) (f_X9_why 96 v) w := by
  have h := I.1
  obtain ⟨hV, hM, hR⟩ := I.2.1
  have hT := hV.2.2.1
  have h14 := hT.2.1
  by_cases c1 : wi_ v 0 2 = 0
  · exact Ok2.q I (r := -1000000001) (by simp only [f_X8_why, wi_X, bd2_s, c1, ↓reduceIte]) (by simp only [f_X9_why, wi_M, bd2_s, c1, ↓reduceIte])
  obtain ⟨k, -, hk, rfl⟩ := wi_ab (v := v) (a := 0) (b := 2) (by decide) c1 (by decide)
  refine Ok2.q I (r := cnI (wI w 97) k) ?_ ?_
  · simp only [f_X8_why, wi_X, lk_0 h, lr_0_0 h, bd1_s, bd2_s, lb_e, ↓reduceIte, li_k h bI1, li_r0 h bI1, li_r1 h bI1, li_r3 h bI1, li_r4 h bI1, li_k1 h bI1, c1, li_r10 h bI1, li_a6 h bI1 (show k < 3 by omega), nx_nI (show k < 2 ^ 31 by omega), hR.2.2.2.1 k (by omega)]
  · simp only [f_X9_why, wi_M, bd2_s, c1, ↓reduceIte, lk_96 h, m_counts h rfl hT (show k < 3 by omega), cnI]
    cases e : lst (wI w 97) k (T_ (wI w 97)) with
    | none => rfl
    | some t =>
      have ht := (lst_lt e).1
      show some ((if (0 : Int32) ≤ nI t then nI t else -1000000005), w) = some (nI t, w)
      rw [if_pos (nI_pos' (by omega))]
