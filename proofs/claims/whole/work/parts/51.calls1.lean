/-! THE CALLS: the bench, sitters -/
theorem m_isUnder {k j : Nat} (hk : k < 6) (hj : j < 6) (w : Wd) : f_X9_isUnder (nI k) (nI j) w = some (if j = 0 ∨ j = k ∨ (j = 1 ∧ k = 3) ∨ (j = 2 ∧ k = 4) then 1 else 0, w) := by
  have d : ∀ k, k < 6 → ∀ j, j < 6 → (match f_X9_isUnder (nI k) (nI j) w_e with | some (r, _) => r | none => 7) = (if j = 0 ∨ j = k ∨ (j = 1 ∧ k = 3) ∨ (j = 2 ∧ k = 4) then (1 : Int32) else 0) := by decide +kernel
  have := d k hk j hj
  rw [← this]
  rfl
theorem E_as {w : Wd} (I : Iv w) (s k : Int32) : Ok2 (f_X8_as 0 s k) (f_X9_as 96 s k) w := by
  have h := I.1
  obtain ⟨hV, hM, hR⟩ := I.2.1
  have hS := hV.1
  have h12 := hS.c12
  have xi := x_isSitter I s
  have mi := m_isSitter h rfl s
  by_cases c1 : wi_ s 0 (wI w 97 1 - 1) = 0
  · exact Ok2.q I (r := -1000000001) (by simp only [f_X8_as, lk_0 h, lr_0_0 h, bd1_s, bd2_s, lb_e, ↓reduceIte, li_k h bI1, li_r0 h bI1, li_r1 h bI1, li_r3 h bI1, li_r4 h bI1, li_k1 h bI1, xi, c1]) (by simp only [f_X9_as, lk_96 h, lr_96_0 h, bd1_s, bd2_s, lb_e, ↓reduceIte, mi, c1])
  by_cases c2 : wi_ k 0 5 = 0
  · exact Ok2.q I (r := -1000000001) (by simp only [f_X8_as, lk_0 h, lr_0_0 h, bd1_s, bd2_s, lb_e, ↓reduceIte, li_k h bI1, li_r0 h bI1, li_r1 h bI1, li_r3 h bI1, li_r4 h bI1, li_k1 h bI1, xi, c1, x_isKind, c2]) (by simp only [f_X9_as, lk_96 h, lr_96_0 h, bd1_s, bd2_s, lb_e, ↓reduceIte, mi, c1, wi_M, c2])
  rw [hS.c] at c1
  obtain ⟨i, hi, rfl⟩ := wi_n (by omega) c1
  obtain ⟨j, hj, rfl⟩ := wi_5 c2
  rw [← hS.c] at c1
  have hi12 : i < 12 := by omega
  obtain ⟨⟨kk, hkk, ek⟩, -⟩ := hS.2.2.2.2 i hi
  have h4 := li_sk h bI1 hi12
  have hO := x_isOf hj hkk h4 ((hR.1.2.2 i hi 0 (by decide)).trans ek)
  have e3 : wI w (1 + 7 + i) 3 = sv (wI w 97) i 3 := hR.1.2.2 i hi 3 (by decide)
  have o0 := m_of0 h hi12
  rw [ek] at o0
  by_cases c : j = 0 ∨ j = kk ∨ (j = 1 ∧ kk = 3) ∨ (j = 2 ∧ kk = 4)
  · refine Ok2.q I (r := sv (wI w 97) i 3) ?_ ?_
    · simp only [f_X8_as, lk_0 h, lr_0_0 h, bd1_s, bd2_s, lb_e, ↓reduceIte, li_k h bI1, li_r0 h bI1, li_r1 h bI1, li_r3 h bI1, li_r4 h bI1, li_k1 h bI1, xi, c1, x_isKind, c2, li_a2 h bI1 hi12, nx_nI (show i < 2 ^ 31 by omega), li_s h bI1 hi12, h4, hO, c, show ¬ (1 : Int32) = 0 by decide, e3]
    · simp only [f_X9_as, lk_96 h, lr_96_0 h, bd1_s, bd2_s, lb_e, ↓reduceIte, mi, c1, wi_M, c2, o0, m_isUnder hkk hj, c, show ¬ (1 : Int32) = 0 by decide, m_of3 h hi12]
  · refine Ok2.q I (r := -1000000012) ?_ ?_
    · simp only [f_X8_as, lk_0 h, lr_0_0 h, bd1_s, bd2_s, lb_e, ↓reduceIte, li_k h bI1, li_r0 h bI1, li_r1 h bI1, li_r3 h bI1, li_r4 h bI1, li_k1 h bI1, xi, c1, x_isKind, c2, li_a2 h bI1 hi12, nx_nI (show i < 2 ^ 31 by omega), li_s h bI1 hi12, h4, hO, c]
    · simp only [f_X9_as, lk_96 h, lr_96_0 h, bd1_s, bd2_s, lb_e, ↓reduceIte, mi, c1, wi_M, c2, o0, m_isUnder hkk hj, c]
/-- one that stands turns into another kind -/
theorem Vd.kind {σ : Nat → Int32} (hV : Vd σ) {i k : Nat} (hi : i < c_ σ) (hs : sv σ i 1 < 0) (hk : k < 6) : Vd (upd σ (24 + 4 * i + 0) (nI k)) := by
  obtain ⟨hS, hP, hT, hD⟩ := hV
  have h12 := hS.c12
  have u : ∀ x, x < 24 → upd σ (24 + 4 * i + 0) (nI k) x = σ x := fun x hx => upd_n _ _ (by omega)
  have s1 : ∀ j, sv (upd σ (24 + 4 * i + 0) (nI k)) j 1 = sv σ j 1 := fun j => by unfold sv; exact upd_n _ _ (by omega)
  have s0 : ∀ j, j ≠ i → sv (upd σ (24 + 4 * i + 0) (nI k)) j 0 = sv σ j 0 := fun j hj => by unfold sv; exact upd_n _ _ (by omega)
  have s0i : sv (upd σ (24 + 4 * i + 0) (nI k)) i 0 = nI k := by unfold sv; exact upd_s _ _ _
  have eso : ∀ j, so (upd σ (24 + 4 * i + 0) (nI k)) j = so σ j := by
    intro j
    unfold so
    rw [s1, n_upd _ (by omega)]
    by_cases z : j = i
    · subst z; rw [if_pos hs, if_pos hs]
    · rw [s0 j z]
  refine ⟨?_, ⟨by rw [u 6 (by decide)]; exact hP.1, fun p hp => by rw [u _ (by omega)]; exact hP.2 p hp⟩, (Tsm.upd _ (by omega) (by omega)).tv hT, ?_⟩
  · unfold Sv
    rw [c_upd _ (by omega), n_upd _ (by omega), u 1 (by omega), u 2 (by omega), u 3 (by omega), u 4 (by omega)]
    refine ⟨hS.1, hS.2.1, hS.2.2.1, hS.2.2.2.1, fun j hj => ?_⟩
    rw [s1]
    by_cases z : j = i
    · subst z
      rw [s0i]
      refine ⟨⟨k, hk, rfl⟩, ?_⟩
      rcases (hS.2.2.2.2 j hj).2 with q | ⟨p, q1, q2, q3⟩
      · exact Or.inl q
      · rw [q2] at hs; exact absurd hs (nI_nlt0 (by have := hS.n12; omega))
    · rw [s0 j z]; exact hS.2.2.2.2 j hj
  · intro a b hab hb p hp
    rw [c_upd _ (by omega)] at hb
    rw [eso, eso]
    exact hD a b hab hb p hp
theorem Mn.upd {σ : Nat → Int32} (h : Mn σ) {j : Nat} (v : Int32) (hj : j ≠ 5) : Mn (upd σ j v) := by
  obtain ⟨m, q1, q2⟩ := h
  exact ⟨m, q1, by rw [upd_n _ _ (fun e => hj e.symm)]; exact q2⟩
theorem E_turns {w : Wd} (I : Iv w) (s k : Int32) : Ok2 (f_X8_turns 0 s k) (f_X9_turns 96 s k) w := by
  have h := I.1
  obtain ⟨hV, hM, hR⟩ := I.2.1
  have hS := hV.1
  have h12 := hS.c12
  have xi := x_isSitter I s
  have mi := m_isSitter h rfl s
  by_cases c1 : wi_ s 0 (wI w 97 1 - 1) = 0
  · exact Ok2.q I (r := -1000000001) (by simp only [f_X8_turns, lk_0 h, lr_0_0 h, bd1_s, bd2_s, lb_e, ↓reduceIte, li_k h bI1, li_r0 h bI1, li_r1 h bI1, li_r3 h bI1, li_r4 h bI1, li_k1 h bI1, xi, c1]) (by simp only [f_X9_turns, lk_96 h, lr_96_0 h, bd1_s, bd2_s, lb_e, ↓reduceIte, mi, c1])
  by_cases c2 : wi_ k 0 5 = 0
  · exact Ok2.q I (r := -1000000001) (by simp only [f_X8_turns, lk_0 h, lr_0_0 h, bd1_s, bd2_s, lb_e, ↓reduceIte, li_k h bI1, li_r0 h bI1, li_r1 h bI1, li_r3 h bI1, li_r4 h bI1, li_k1 h bI1, xi, c1, x_isKind, c2]) (by simp only [f_X9_turns, lk_96 h, lr_96_0 h, bd1_s, bd2_s, lb_e, ↓reduceIte, mi, c1, wi_M, c2])
  have c1' := c1
  rw [hS.c] at c1'
  obtain ⟨i, hi, rfl⟩ := wi_n (by omega) c1'
  obtain ⟨j, hj, rfl⟩ := wi_5 c2
  have hi12 : i < 12 := by omega
  have h4 := li_sk h bI1 hi12
  have e0 : wI w (1 + 7 + i) 0 = sv (wI w 97) i 0 := hR.1.2.2 i hi 0 (by decide)
  have e1 : wI w (1 + 7 + i) 1 = sv (wI w 97) i 1 := hR.1.2.2 i hi 1 (by decide)
  by_cases c : sv (wI w 97) i 1 < 0
  · have F1 : Fr (In_ 1) w (sI w (1 + 7 + i) 0 (nI j)) := Fr.sI _ _ _ (Or.inl ⟨by omega, by omega⟩)
    have h1 := F1.lay h
    have e97 : wI (sI w (1 + 7 + i) 0 (nI j)) 97 = wI w 97 := wI_s2 _ _ _ (by omega)
    have mi1 := m_isSitter h1 e97 (nI i)
    have o1 := m_of1 h1 hi12
    rw [e97] at o1
    have bc := m_becomes h1 (j := 24 + 4 * i + 0) (by omega) (nI j)
    rw [e97, show nI (24 + 4 * i + 0) = 24 + 4 * nI i by rw [Nat.add_zero, show (24 : Int32) = nI 24 from rfl, show (4 : Int32) = nI 4 from rfl, nI_mul, nI_add]] at bc
    refine ⟨sv (wI w 97) i 0, _, _, ?_, h1, ?_, I.now F1 (hR.sit bI1 hS hi (by decide) (nI j)) (hV.kind hi c hj) (hM.upd _ (by omega)) (FM.now (24 + 4 * i + 0) (nI j)) (by rw [wI_s1, e97])⟩
    · simp only [f_X8_turns, lk_0 h, lr_0_0 h, bd1_s, bd2_s, lb_e, ↓reduceIte, li_k h bI1, li_r0 h bI1, li_r1 h bI1, li_r3 h bI1, li_r4 h bI1, li_k1 h bI1, xi, c1, x_isKind, c2, li_a2 h bI1 hi12, nx_nI (show i < 2 ^ 31 by omega), li_s h bI1 hi12, h4, x_sitsNow h4, e1, c, e0]
    · simp only [f_X9_turns, lk_96 h1, bd2_s, ↓reduceIte, mi1, c1, wi_M, c2, o1, c, bc]
      rfl
  · refine Ok2.q I (r := -1000000002) ?_ ?_
    · simp only [f_X8_turns, lk_0 h, lr_0_0 h, bd1_s, bd2_s, lb_e, ↓reduceIte, li_k h bI1, li_r0 h bI1, li_r1 h bI1, li_r3 h bI1, li_r4 h bI1, li_k1 h bI1, xi, c1, x_isKind, c2, li_a2 h bI1 hi12, nx_nI (show i < 2 ^ 31 by omega), li_s h bI1 hi12, h4, x_sitsNow h4, e1, c, show ¬ (1 : Int32) = 0 by decide]
    · simp only [f_X9_turns, lk_96 h, lr_96_0 h, bd1_s, bd2_s, lb_e, ↓reduceIte, mi, c1, wi_M, c2, m_of1 h hi12, c]
theorem E_rises {w : Wd} (I : Iv w) (s : Int32) : Ok2 (f_X8_rises 0 s) (f_X9_rises 96 s) w := by
  have h := I.1
  obtain ⟨hV, hM, hR⟩ := I.2.1
  have hS := hV.1
  have h12 := hS.c12
  have xi := x_isSitter I s
  have mi := m_isSitter h rfl s
  by_cases c1 : wi_ s 0 (wI w 97 1 - 1) = 0
  · exact Ok2.q I (r := -1000000001) (by simp only [f_X8_rises, lk_0 h, lr_0_0 h, bd1_s, bd2_s, lb_e, ↓reduceIte, li_k h bI1, li_r0 h bI1, li_r1 h bI1, li_r3 h bI1, li_r4 h bI1, li_k1 h bI1, xi, c1]) (by simp only [f_X9_rises, lk_96 h, lr_96_0 h, bd1_s, bd2_s, lb_e, ↓reduceIte, mi, c1])
  have c1' := c1
  rw [hS.c] at c1'
  obtain ⟨i, hi, rfl⟩ := wi_n (by omega) c1'
  have hi12 : i < 12 := by omega
  have h4 := li_sk h bI1 hi12
  have e1 : wI w (1 + 7 + i) 1 = sv (wI w 97) i 1 := hR.1.2.2 i hi 1 (by decide)
  by_cases c : sv (wI w 97) i 1 < 0
  · refine Ok2.q I (r := -1000000002) ?_ ?_
    · simp only [f_X8_rises, lk_0 h, lr_0_0 h, bd1_s, bd2_s, lb_e, ↓reduceIte, li_k h bI1, li_r0 h bI1, li_r1 h bI1, li_r3 h bI1, li_r4 h bI1, li_k1 h bI1, xi, c1, li_a2 h bI1 hi12, nx_nI (show i < 2 ^ 31 by omega), li_s h bI1 hi12, h4, x_sitsNow h4, e1, c]
    · simp only [f_X9_rises, lk_96 h, lr_96_0 h, bd1_s, bd2_s, lb_e, ↓reduceIte, mi, c1, m_of1 h hi12, c, show ¬ (0 : Int32) ≤ sv (wI w 97) i 1 from fun q => not_lt0.mpr q c]
  · have F1 : Fr (In_ 1) w (sI w (1 + 7 + i) 1 (-1)) := Fr.sI _ _ _ (Or.inl ⟨by omega, by omega⟩)
    have h1 := F1.lay h
    have e97 : wI (sI w (1 + 7 + i) 1 (-1)) 97 = wI w 97 := wI_s2 _ _ _ (by omega)
    have mi1 := m_isSitter h1 e97 (nI i)
    have o1 := m_of1 h1 hi12
    rw [e97] at o1
    have bc := m_becomes h1 (j := 24 + 4 * i + 1) (by omega) (-1)
    rw [e97, show nI (24 + 4 * i + 1) = 24 + 4 * nI i + 1 by rw [show (24 : Int32) = nI 24 from rfl, show (4 : Int32) = nI 4 from rfl, show (1 : Int32) = nI 1 from rfl, nI_mul, nI_add, nI_add]] at bc
    refine ⟨sv (wI w 97) i 1, _, _, ?_, h1, ?_, I.now F1 (hR.sit bI1 hS hi (by decide) (-1)) (hV.rise hi12) (hM.upd _ (by omega)) (FM.now (24 + 4 * i + 1) (-1)) (by rw [wI_s1, e97])⟩
    · simp only [f_X8_rises, lk_0 h, lr_0_0 h, bd1_s, bd2_s, lb_e, ↓reduceIte, li_k h bI1, li_r0 h bI1, li_r1 h bI1, li_r3 h bI1, li_r4 h bI1, li_k1 h bI1, xi, c1, li_a2 h bI1 hi12, nx_nI (show i < 2 ^ 31 by omega), li_s h bI1 hi12, h4, x_sitsNow h4, e1, c, show ¬ (1 : Int32) = 0 by decide]
    · simp only [f_X9_rises, lk_96 h1, bd2_s, ↓reduceIte, mi1, c1, o1, c, show (0 : Int32) ≤ sv (wI w 97) i 1 from not_lt0.mp c, bc]
      rfl
