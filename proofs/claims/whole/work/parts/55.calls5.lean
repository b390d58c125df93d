/-! THE CALLS: fullUp, keep, back -/
def shF (σ : Nat → Int32) : Nat → Nat → Bool
  | 0, _ => true
  | m + 1, k => decide (pl σ k = 0) && shF σ m (k + 1)
def shS (σ : Nat → Int32) : Bool := shF σ (c_ σ) 0
theorem x_isShut {w : Wd} {b : Nat} {σ : Nat → Int32} (h : Lay w) (hb : bI b) (hS : Sv σ) (hR : RS w b σ) : f_X1_isShut b w = some (if shS σ then 1 else 0, w) := by
  have h12 := hS.c12
  have L : ∀ n m k, k + m = c_ σ → m < n → L_X1_isShut_12 n b (tk σ) (tf σ) (nI k) w = some (if shF σ m k then 1 else 0, w) := by
    intro n
    induction n with
    | zero => intro m k _ g; omega
    | succ n ih =>
      intro m k g1 g2
      unfold L_X1_isShut_12
      simp only [li_k h hb, li_r0 h hb, li_r1 h hb, li_r3 h hb, li_r4 h hb, li_r8 h hb, li_r10 h hb, li_k1 h hb, bd1_s, bd2_s, lb_e, ↓reduceIte, hR.1, hS.c]
      cases m with
      | zero => rw [if_pos ((nI_le' (by omega) (by omega)).mpr (by omega))]; rfl
      | succ m =>
        have hk : k < 12 := by omega
        have h4 := li_sk h hb hk
        obtain ⟨⟨q, hq, eq⟩, -⟩ := hS.2.2.2.2 k (by omega)
        have e0 : wI w (b + 7 + k) 0 = nI q := (hR.2.2 k (by omega) 0 (by decide)).trans eq
        have e1 : wI w (b + 7 + k) 1 = sv σ k 1 := hR.2.2 k (by omega) 1 (by decide)
        have hpl : pl σ k = if sv σ k 1 < 0 then plK σ (nI q) else 0 := by unfold pl; rw [eq]
        have ihk := ih m (k + 1) (by omega) (by omega)
        rw [if_neg (fun z => by have := (nI_le' (by omega) (by omega)).mp z; omega), shF, hpl]
        simp only [li_a2 h hb hk, nx_nI (show k < 2 ^ 31 by omega), li_s h hb hk, bd1_s, h4, x_sitsNow h4, bd2_s, e1, ↓reduceIte]
        by_cases c : sv σ k 1 < 0
        · simp only [c, ↓reduceIte, li_k h hb, li_r1 h hb, bd1_s, li_a2 h hb hk, li_s h hb hk, h4, e0, x_plK h hb hS hR hq (fun _ => rfl), bd2_s]
          by_cases z : plK σ (nI q) = 0
          · simp only [z, ↓reduceIte, lb_e, nI_s1, decide_true, Bool.true_and]
            exact ihk
          · simp only [z, ↓reduceIte, decide_false, Bool.false_and, Bool.false_eq_true]
        · simp only [c, ↓reduceIte, show ¬ (1 : Int32) = 0 by decide, lb_e, nI_s1, decide_true, Bool.true_and]
          exact ihk
  simp only [f_X1_isShut, li_k h hb, li_r0 h hb, li_r1 h hb, li_r3 h hb, li_r4 h hb, li_r8 h hb, li_r10 h hb, li_k1 h hb, bd1_s, bd2_s, lb_e, ↓reduceIte, x_taken h hb hS hR, x_takenF h hb hS hR]
  exact L FU (c_ σ) 0 (by omega) (by unfold FU; omega)
theorem m_isFullUp {w : Wd} {σ : Nat → Int32} (h : Lay w) (hσ : wI w 97 = σ) (hS : Sv σ) : f_X9_isFullUp 96 w = some (if shS σ then 1 else 0, w) := by
  have h12 := hS.c12
  have a1 : aK 11 w 97 1 = true := la_97 h (show 1 < 1444 by decide)
  have L : ∀ n m k (f : Bool), k + m = c_ σ → m < n → L_X9_isFullUp_4 n 96 (if f then 1 else 0) (nI k) w = some (if (f && shF σ m k) then 1 else 0, w) := by
    intro n
    induction n with
    | zero => intro m k f _ g; omega
    | succ n ih =>
      intro m k f g1 g2
      unfold L_X9_isFullUp_4
      simp only [lk_96 h, lr_96_0 h, bd1_s, bd2_s, lb_e, ↓reduceIte, a1, show nx 1 = 1 from rfl, hσ, hS.c]
      cases m with
      | zero =>
        rw [if_pos ((nI_le' (by omega) (by omega)).mpr (by omega))]
        cases f <;> rfl
      | succ m =>
        rw [if_neg (fun z => by have := (nI_le' (by omega) (by omega)).mp z; omega), shF]
        cases f
        · have ihk := ih m (k + 1) false (by omega) (by omega)
          simp only [Bool.false_eq_true, ↓reduceIte, nI_s1, Bool.false_and] at ihk ⊢
          exact ihk
        · simp only [↓reduceIte, show ¬ (1 : Int32) = 0 by decide, m_placesOf h hσ hS (show k < c_ σ by omega), bd2_s, nI_s1, Bool.true_and]
          by_cases z : pl σ k = 0
          · have ihk := ih m (k + 1) true (by omega) (by omega)
            simp only [↓reduceIte, Bool.true_and] at ihk
            simp only [z, ↓reduceIte, decide_true, Bool.true_and]
            exact ihk
          · have ihk := ih m (k + 1) false (by omega) (by omega)
            simp only [Bool.false_eq_true, ↓reduceIte, Bool.false_and] at ihk
            simp only [z, ↓reduceIte, decide_false, Bool.false_and, Bool.false_eq_true]
            exact ihk
  have := L FU (c_ σ) 0 true (by omega) (by unfold FU; omega)
  simp only [↓reduceIte, Bool.true_and] at this
  exact this
def fuF (σ : Nat → Int32) : Nat → Nat → Int32
  | 0, _ => NONE_
  | m + 1, k => if shS (pasS σ k) = true then nI k else fuF σ m (k + 1)
theorem E_fullUp {w : Wd} (I : Iv w) : Ok2 (f_X8_fullUp 0) (f_X9_fullUp 96) w := by
  have h := I.1
  obtain ⟨hV, hM, hR⟩ := I.2.1
  obtain ⟨w1, f1, R1, F1⟩ := x_trial I
  have h1 := F1.lay bI39 h
  have LX : ∀ n m k (w2 : Wd), Fq Tc 39 w w2 → RI w2 39 (pasS (wI w 97) k) → k + m = 201 → m < n → ∃ w3, L_X8_fullUp_13 n 0 (nI k) w2 = some (fuF (wI w 97) m k, w3) ∧ Fq Tc 39 w w3 := by
    intro n
    induction n with
    | zero => intro m k w2 _ _ _ g; omega
    | succ n ih =>
      intro m k w2 F2 R2' g1 g2
      have h2 := F2.lay bI39 h
      unfold L_X8_fullUp_13
      rw [show (200 : Int32) = nI 200 from rfl]
      cases m with
      | zero =>
        rw [if_pos ((nI_lt' (by omega) (by omega)).mpr (by omega))]
        exact ⟨w2, rfl, F2⟩
      | succ m =>
        rw [if_neg (fun z => by have := (nI_lt' (by omega) (by omega)).mp z; omega)]
        simp only [lk_0 h2, lr_0_2 h2, bd1_s, li_k h2 bI39, ↓reduceIte, x_isShut h2 bI39 (pasS_ok hV k).1 R2'.1, bd2_s]
        rw [fuF]
        by_cases c : shS (pasS (wI w 97) k) = true
        · simp only [c, ↓reduceIte, show ¬ (1 : Int32) = 0 by decide]
          exact ⟨w2, rfl, F2⟩
        · obtain ⟨w3, f3, R3, F3⟩ := x_passOne h2 bI39 (pasS_ok hV k) R2'
          simp only [c, ↓reduceIte, f3, bd2_s, lb_e, nI_s1, Bool.false_eq_true]
          exact ih m (k + 1) w3 (F2.tr (Fq.of F3 (fun a ha => Or.inl ha))) R3 (by omega) (by omega)
  obtain ⟨w3, f3, F3⟩ := LX FU 201 0 w1 F1 R1 (by omega) (by unfold FU; omega)
  have h3 := F3.lay bI39 h
  have e97 : wI w3 97 = wI w 97 := F3.e97 (by decide)
  obtain ⟨w4, f4, b4, F4⟩ := m_thinks h3 e97
  have h4 := F4.lay h3
  have n4 : wI w4 97 = wI w 97 := by rw [F4.2.2.2.2 97 (by decide)]; exact e97
  have FN4 : FN w3 w4 := FN.of F4 (fun a ha => by subst ha; exact ⟨by unfold Mc; omega, by decide⟩)
  have J30 : ∀ (w5 : Wd) (k : Nat), k ≤ 201 → FM w4 w5 → wI w5 97 = pasS (wI w 97) k → ∃ w6, j_X9_fullUp_30 96 (nI k) w5 = some (if k ≤ 200 then nI k else NONE_, w6) ∧ FN w3 w6 ∧ wI w6 97 = wI w 97 := by
    intro w5 k hk F5 n5
    have h5 := F5.1.lay h4
    obtain ⟨w6, f6, n6, F6⟩ := m_putsBack h5 (σ := wI w 97) (fun j hj => by rw [F5.1.2.2.2.2 101 (by decide)]; exact b4 j hj) (fun j hj => by rw [n5]; exact pasS_hi hV hj k)
    refine ⟨w6, ?_, (FN4.tr F5.n).tr (FN.of F6 (fun a ha => by subst ha; exact ⟨by unfold Mc; omega, by decide⟩)), n6⟩
    simp only [j_X9_fullUp_30, lk_96 h5, ↓reduceIte, f6, bd2_s]
    rw [show (200 : Int32) = nI 200 from rfl]
    by_cases z : k ≤ 200
    · rw [if_pos ((nI_le' (by omega) (by omega)).mpr z), if_pos z]
    · rw [if_neg (fun q => z ((nI_le' (by omega) (by omega)).mp q)), if_neg z]; rfl
  have LM : ∀ n m k (w5 : Wd), FM w4 w5 → wI w5 97 = pasS (wI w 97) k → k + m = 201 → m < n → ∃ w6, L_X9_fullUp_6 n 96 (nI k) w5 = some (fuF (wI w 97) m k, w6) ∧ FN w3 w6 ∧ wI w6 97 = wI w 97 := by
    intro n
    induction n with
    | zero => intro m k w5 _ _ _ g; omega
    | succ n ih =>
      intro m k w5 F5 n5 g1 g2
      have h5 := F5.1.lay h4
      obtain ⟨w6, f6, F6, n6⟩ := J30 w5 k (by omega) F5 n5
      unfold L_X9_fullUp_6
      rw [show (200 : Int32) = nI 200 from rfl]
      cases m with
      | zero =>
        rw [if_pos ((nI_lt' (by omega) (by omega)).mpr (by omega)), f6, if_neg (by omega)]
        exact ⟨w6, rfl, F6, n6⟩
      | succ m =>
        rw [if_neg (fun z => by have := (nI_lt' (by omega) (by omega)).mp z; omega)]
        simp only [lk_96 h5, ↓reduceIte, m_isFullUp h5 n5 (pasS_ok hV k).1, bd2_s]
        rw [fuF]
        by_cases c : shS (pasS (wI w 97) k) = true
        · simp only [c, ↓reduceIte, show ¬ (1 : Int32) = 0 by decide, f6, show k ≤ 200 by omega]
          exact ⟨w6, rfl, F6, n6⟩
        · obtain ⟨w7, f7, n7, -, F7⟩ := m_minute h5 n5 (pasS_ok hV k)
          simp only [c, ↓reduceIte, f7, bd2_s, lb_e, nI_s1, Bool.false_eq_true]
          exact ih m (k + 1) w7 (F5.tr F7) n7 (by omega) (by omega)
  obtain ⟨w6, f6, F6, n6⟩ := LM FU 201 0 w4 (FM.rf w4) n4 (by omega) (by unfold FU; omega)
  refine ⟨fuF (wI w 97) 201 0, w3, w6, ?_, h3, ?_, I.think F3 F6 n6⟩
  · simp only [f_X8_fullUp, lk_0 h, lr_0_0 h, bd1_s, bd2_s, lb_e, ↓reduceIte, li_k h bI1, li_r0 h bI1, li_r1 h bI1, li_r3 h bI1, li_r4 h bI1, li_k1 h bI1, lr_0_2 h, li_k h bI39, f1]
    exact f3
  · simp only [f_X9_fullUp, lk_96 h3, ↓reduceIte, f4, bd2_s]
    exact f6
/-! images -/
theorem m_copyAll {w : Wd} {a b : Nat} (h : Lay w) (hab : a ≠ b) (ha : ∀ w, Lay w → ∀ i, i < 1444 → aK 11 w a (nI i) = true) (hb : ∀ w, Lay w → ∀ i, i < 1444 → aK 11 w b (nI i) = true) : ∃ w', f_X9_copyAll a b w = some ((), w') ∧ (∀ j, j < 1444 → wI w' b j = wI w a j) ∧ (∀ j, 1444 ≤ j → wI w' b j = wI w b j) ∧ Fr (fun x => x = b) w w' := by
  have L : ∀ n k (w1 : Wd), Fr (fun x => x = b) w w1 → (∀ j, j < k → wI w1 b j = wI w a j) → (∀ j, 1444 ≤ j → wI w1 b j = wI w b j) → k ≤ 1444 → 1444 - k < n → ∃ w', L_X9_copyAll_2 n a b (nI k) w1 = some ((), w') ∧ (∀ j, j < 1444 → wI w' b j = wI w a j) ∧ (∀ j, 1444 ≤ j → wI w' b j = wI w b j) ∧ Fr (fun x => x = b) w w' := by
    intro n
    induction n with
    | zero => intro k w1 _ _ _ _ g; omega
    | succ n ih =>
      intro k w1 F1 c1 c2 hk hn
      have h1 := F1.lay h
      have ea : wI w1 a = wI w a := F1.2.2.2.2 a hab
      unfold L_X9_copyAll_2
      rw [show (1444 : Int32) = nI 1444 from rfl]
      by_cases e : k = 1444
      · subst e
        rw [if_pos ((nI_le' (by decide) (by decide)).mpr (Nat.le_refl _))]
        exact ⟨w1, rfl, c1, c2, F1⟩
      · rw [if_neg (fun z => by have := (nI_le' (by omega) (by omega)).mp z; omega)]
        simp only [ha w1 h1 k (by omega), hb w1 h1 k (by omega), ↓reduceIte, lb_e, nx_nI (show k < 2 ^ 31 by omega), nI_s1, ea]
        refine ih (k + 1) _ (F1.tr (Fr.sI _ _ _ rfl)) (fun j hj => ?_) (fun j hj => ?_) (by omega) (by omega)
        · by_cases z : j = k
          · subst z; rw [wI_ss]
          · rw [wI_sn _ _ (Or.inr z)]; exact c1 j (by omega)
        · rw [wI_sn _ _ (Or.inr (by omega))]; exact c2 j hj
  exact L FU 0 w (Fr.rf w) (fun j hj => absurd hj (Nat.not_lt_zero j)) (fun _ _ => rfl) (by omega) (by unfold FU; omega)
theorem Tp.cg {w w2 : Wd} (q : Tp w) (h1 : wI w2 61 = wI w 61) (h2 : wI w2 62 = wI w 62) (h3 : ∀ a, 102 ≤ a → a < 105 → wI w2 a = wI w a) (h4 : wI w2 96 8 = wI w 96 8) : Tp w2 := by
  unfold Tp KY Tq at q ⊢
  rw [h1, h2, h3 102 (by omega) (by omega), h3 103 (by omega) (by omega), h3 104 (by omega) (by omega), h4]
  exact q
theorem Sh.cg {w w2 : Wd} (q : Sh w) (h : ∀ a, (68 ≤ a ∧ a < 76) ∨ (110 ≤ a ∧ a < 113) → wI w2 a = wI w a) : Sh w2 := by
  intro s hs
  rw [h 110 (by omega), h 111 (by omega), h 112 (by omega), h (68 + 2 * s) (by omega), h (69 + 2 * s) (by omega)]
  exact q s hs
theorem Sl.cg {w w2 : Wd} (q : Sl w) (h : ∀ a, (76 ≤ a ∧ a < 96) ∨ (113 ≤ a ∧ a < 117) → wI w2 a = wI w a) : Sl w2 := by
  intro s hs
  rw [h 113 (by omega), h 114 (by omega), h 115 (by omega), h 116 (by omega), h (76 + 4 * s) (by omega), h (77 + 4 * s) (by omega), h (78 + 4 * s) (by omega), h (79 + 4 * s) (by omega)]
  exact q s hs
theorem Wq.cg {w w2 : Wd} (q : Wq w) (h1 : wI w2 0 9 = wI w 0 9) (h2 : wI w2 96 34 = wI w 96 34) (h3 : wI w2 67 = wI w 67) (h4 : wI w2 118 = wI w 118) : Wq w2 := by
  unfold Wq at q ⊢
  rw [h1, h2, h3, h4]
  exact q
theorem Ag.mn {σ σ' : Nat → Int32} (h : Ag σ σ') (q : Mn σ) : Mn σ' := by
  obtain ⟨m, q1, q2⟩ := q
  exact ⟨m, q1, by rw [h 5 (by decide)]; exact q2⟩
theorem E_keep {w : Wd} (I : Iv w) : Ok2 (f_X8_keep 0) (f_X9_keep 96) w := by
  have h := I.1
  obtain ⟨hV, hM, hR⟩ := I.2.1
  obtain ⟨hI, hT, hSh, hSl, hW⟩ := I.2.2
  obtain ⟨w1, f1, R1, F1⟩ := x_become h bI20 bI1 (by decide) hV hR
  have h1 := F1.lay bI20 h
  have e1 : ∀ x, ¬ Ic 20 x → wI w1 x = wI w x := fun x hx => F1.2.2.2.2 x hx
  have R11 : RI w1 1 (wI w 97) := hR.fq bI20 bI1 (by decide) hV.1 F1 (fun x hx => by unfold Ic at hx; omega)
  obtain ⟨w2, ew2⟩ : ∃ x, x = sI w1 0 3 1 := ⟨_, rfl⟩
  have F2 : Fr (fun x => x = 0) w1 w2 := by rw [ew2]; exact Fr.sI _ _ _ rfl
  have h2 := F2.lay h1
  have e97 : wI w2 97 = wI w 97 := by rw [F2.2.2.2.2 97 (by decide), e1 97 (by unfold Ic; omega)]
  obtain ⟨w3, f3, c3, -, F3⟩ := m_copyAll h2 (a := 97) (b := 98) (by decide) (fun w h i hi => la_97 h hi) (fun w h i hi => la_98 h hi)
  have h3 := F3.lay h2
  have F4 : Fr (fun x => x = 96) w3 (sI w3 96 3 1) := Fr.sI _ _ _ rfl
  have h4 := F4.lay h3
  have F24 : Fr (fun x => x = 98 ∨ x = 96) w2 (sI w3 96 3 1) := (F3.mono (fun a ha => Or.inl ha)).tr (F4.mono (fun a ha => Or.inr ha))
  have e : ∀ x, x ≠ 0 → x ≠ 96 → x ≠ 98 → ¬ Ic 20 x → wI (sI w3 96 3 1) x = wI w x := fun x x0 x1 x2 x3 => by rw [F24.2.2.2.2 x (by omega), F2.2.2.2.2 x x0, e1 x x3]
  have n4 : wI (sI w3 96 3 1) 97 = wI w 97 := e 97 (by decide) (by decide) (by decide) (by unfold Ic; omega)
  have e96 : ∀ j, j ≠ 3 → wI (sI w3 96 3 1) 96 j = wI w 96 j := fun j hj => by rw [wI_sn _ _ (Or.inr hj), F3.2.2.2.2 96 (by decide), F2.2.2.2.2 96 (by decide), e1 96 (by unfold Ic; omega)]
  have hAg : Ag (wI w 97) (wI (sI w3 96 3 1) 98) := fun j hj => by rw [wI_s2 _ _ _ (by decide), c3 j hj, e97]
  have frx : ∀ b, bI b → ∀ x, (x = 0 ∨ x = 98 ∨ x = 96) → (x < b ∨ b + 19 ≤ x) ∧ (x < 119 ∨ x % 3 = 1) := fun b hb x hx => by have := bI_lt hb; rcases hb with q | q | q <;> omega
  have F14 : Fr (fun x => x = 0 ∨ x = 98 ∨ x = 96) w1 (sI w3 96 3 1) := (F2.mono (fun a ha => Or.inl ha)).tr (F24.mono (fun a ha => Or.inr ha))
  refine ⟨wI w 97 1, w2, sI w3 96 3 1, ?_, h2, ?_, h4, ⟨by rw [n4]; exact hV, by rw [n4]; exact hM, by rw [n4]; exact R11.fr bI1 hV.1 F14 (frx 1 bI1)⟩, Or.inr ⟨wI_ss _ _ _ _, ?_, hAg.vd hV, hAg.mn hM, hAg.ri hV (R1.fr bI20 hV.1 F14 (frx 20 bI20))⟩, hT.cg (e 61 (by decide) (by decide) (by decide) (by unfold Ic; omega)) (e 62 (by decide) (by decide) (by decide) (by unfold Ic; omega)) (fun a a1 a2 => e a (by omega) (by omega) (by omega) (by unfold Ic; omega)) (e96 8 (by decide)), hSh.cg (fun a ha => e a (by omega) (by omega) (by omega) (by unfold Ic; omega)), hSl.cg (fun a ha => e a (by omega) (by omega) (by omega) (by unfold Ic; omega)), hW.cg ?_ (e96 34 (by decide)) (e 67 (by decide) (by decide) (by decide) (by unfold Ic; omega)) (e 118 (by decide) (by decide) (by decide) (by unfold Ic; omega))⟩
  · simp only [f_X8_keep, lk_0 h, lr_0_0 h, bd1_s, bd2_s, lb_e, ↓reduceIte, li_k h bI1, li_r0 h bI1, li_r1 h bI1, li_r3 h bI1, li_r4 h bI1, li_k1 h bI1, lr_0_1 h, li_k h bI20, f1, lk_0 h1]
    rw [← ew2]
    simp only [lr_0_1 h2, bd1_s, li_k h2 bI20, ↓reduceIte]
    rw [F2.2.2.2.2 20 (by decide), R1.1.1]
  · have a1 : aK 11 (sI w3 96 3 1) 97 1 = true := la_97 h4 (show 1 < 1444 by decide)
    simp only [f_X9_keep, lk_96 h2, ↓reduceIte, lr_96_0 h2, lr_96_1 h2, bd1_s, f3, bd2_s, lk_96 h3, lb_e, lr_96_0 h4, a1, show nx 1 = 1 from rfl, n4]
  · rw [F24.2.2.2.2 0 (by decide), ew2, wI_ss]
  · rw [F24.2.2.2.2 0 (by decide), ew2, wI_sn _ _ (Or.inr (by decide)), e1 0 (by unfold Ic; omega)]
theorem E_back {w : Wd} (I : Iv w) : Ok2 (f_X8_back 0) (f_X9_back 96) w := by
  have h := I.1
  obtain ⟨hV, hM, hR⟩ := I.2.1
  obtain ⟨hI, hT, hSh, hSl, hW⟩ := I.2.2
  rcases hI with ⟨i1, i2⟩ | ⟨i1, i2, i3, i4, i5⟩
  · exact Ok2.q I (r := -1000000002) (by simp only [f_X8_back, lk_0 h, lr_0_0 h, bd1_s, bd2_s, lb_e, ↓reduceIte, li_k h bI1, li_r0 h bI1, li_r1 h bI1, li_r3 h bI1, li_r4 h bI1, li_k1 h bI1, i2]) (by simp only [f_X9_back, lk_96 h, lr_96_0 h, bd1_s, bd2_s, lb_e, ↓reduceIte, i1])
  obtain ⟨w1, f1, R1, F1⟩ := x_become h bI1 bI20 (by decide) i3 i5
  have h1 := F1.lay bI1 h
  have e1 : ∀ x, ¬ Ic 1 x → wI w1 x = wI w x := fun x hx => F1.2.2.2.2 x hx
  have R20 : RI w1 20 (wI w 98) := i5.fq bI1 bI20 (by decide) i3.1 F1 (fun x hx => by unfold Ic at hx; omega)
  have e98 : wI w1 98 = wI w 98 := e1 98 (by unfold Ic; omega)
  have e963 : wI w1 96 3 = 1 := by rw [e1 96 (by unfold Ic; omega)]; exact i1
  obtain ⟨w3, f3, c3, -, F3⟩ := m_copyAll h1 (a := 98) (b := 97) (by decide) (fun w h i hi => la_98 h hi) (fun w h i hi => la_97 h hi)
  have h3 := F3.lay h1
  have e : ∀ x, x ≠ 97 → ¬ Ic 1 x → wI w3 x = wI w x := fun x x1 x3 => by rw [F3.2.2.2.2 x x1, e1 x x3]
  have hAg : Ag (wI w 98) (wI w3 97) := fun j hj => by rw [c3 j hj, e98]
  have frx : ∀ b, bI b → ∀ x, x = 97 → (x < b ∨ b + 19 ≤ x) ∧ (x < 119 ∨ x % 3 = 1) := fun b hb x hx => by have := bI_lt hb; rcases hb with q | q | q <;> omega
  have n98 : wI w3 98 = wI w 98 := e 98 (by decide) (by unfold Ic; omega)
  have n96 : wI w3 96 = wI w 96 := e 96 (by decide) (by unfold Ic; omega)
  have n0 : wI w3 0 = wI w 0 := e 0 (by decide) (by unfold Ic; omega)
  refine ⟨wI w 98 1, w1, w3, ?_, h1, ?_, h3, ⟨hAg.vd i3, hAg.mn i4, hAg.ri i3 (R1.fr bI1 i3.1 F3 (frx 1 bI1))⟩, Or.inr ⟨by rw [n96]; exact i1, by rw [n0]; exact i2, by rw [n98]; exact i3, by rw [n98]; exact i4, by rw [n98]; exact R20.fr bI20 i3.1 F3 (frx 20 bI20)⟩, hT.cg (e 61 (by decide) (by unfold Ic; omega)) (e 62 (by decide) (by unfold Ic; omega)) (fun a a1 a2 => e a (by omega) (by unfold Ic; omega)) (by rw [n96]), hSh.cg (fun a ha => e a (by omega) (by unfold Ic; omega)), hSl.cg (fun a ha => e a (by omega) (by unfold Ic; omega)), hW.cg (by rw [n0]) (by rw [n96]) (e 67 (by decide) (by unfold Ic; omega)) (e 118 (by decide) (by unfold Ic; omega))⟩
  · simp only [f_X8_back, lk_0 h, lr_0_0 h, bd1_s, bd2_s, lb_e, ↓reduceIte, li_k h bI1, li_r0 h bI1, li_r1 h bI1, li_r3 h bI1, li_r4 h bI1, li_k1 h bI1, i2, show ¬ (1 : Int32) = 0 by decide, lr_0_1 h, f1, lk_0 h1, lr_0_0 h1, li_k h1 bI1, R1.1.1]
  · have a1 : aK 11 w3 97 1 = true := la_97 h3 (show 1 < 1444 by decide)
    simp only [f_X9_back, lk_96 h1, ↓reduceIte, e963, show ¬ (1 : Int32) = 0 by decide, lr_96_0 h1, lr_96_1 h1, bd1_s, f3, bd2_s, lk_96 h3, lr_96_0 h3, a1, show nx 1 = 1 from rfl]
    rw [c3 1 (by decide), e98]
