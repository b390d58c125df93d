/-! WHO MAY SIT WHERE: the reference's way and the class's -/
theorem sat_pos : ∀ p, p < 12 → ∀ q, q < 12 → ¬ (ps p ||| ps q) < 0 ∧ ¬ ps p < 0 := by decide +kernel
theorem sat_nn {σ : Nat → Int32} (hS : Sv σ) (k : Int32) {p : Nat} (hp : p < n_ σ) : ¬ sat_ σ k p < 0 := by
  have hn := hS.n12
  unfold sat_ nxt
  split
  · split
    · exact (sat_pos p (by omega) (p + 1) (by omega)).1
    · exact (sat_pos p (by omega) 0 (by omega)).1
  · exact (sat_pos p (by omega) 0 (by omega)).2
theorem not_lt0 {x : Int32} : ¬ x < 0 ↔ 0 ≤ x := Int32.not_lt
theorem m_may {w : Wd} {σ : Nat → Int32} (h : Lay w) (hσ : wI w 97 = σ) (hS : Sv σ) {i p : Nat} (hi : i < c_ σ) (hp : p < n_ σ) : f_X9_may 96 (nI i) (nI p) (tk σ) w = some (if sv σ i 1 < 0 ∧ myS σ (sv σ i 0) p = true then 1 else 0, w) := by
  have hc := hS.c12
  have hn := hS.n12
  obtain ⟨⟨kk, hkk, ek⟩, -⟩ := hS.2.2.2.2 i hi
  have o0 := m_of0 h (show i < 12 by omega)
  have o1 := m_of1 h (show i < 12 by omega)
  rw [hσ] at o0 o1
  have s1 := m_isSome h hσ hS (tk σ) (j := p) (by omega)
  have s2 : f_X9_isSome 96 (tk σ) (nI p + 1) w = some (if sd σ (tk σ) (p + 2) then 1 else 0, w) := by
    have := m_isSome h hσ hS (tk σ) (j := p + 2) (by omega)
    rwa [pr_nI (by omega), show p + 2 - 1 = p + 1 by omega, ← nI_s1] at this
  have s3 : f_X9_isSome 96 (tk σ) (nI p + 2) w = some (if sd σ (tk σ) (p + 3) then 1 else 0, w) := by
    have := m_isSome h hσ hS (tk σ) (j := p + 3) (by omega)
    rwa [pr_nI (by omega), show p + 3 - 1 = p + 2 by omega, ← nI_s2] at this
  have f1 := m_isByFriend h hσ hS (j := p) (by omega)
  have f2 : f_X9_isByFriend 96 (nI p + 1) w = some (if fs_ σ (p + 2) then 1 else 0, w) := by
    have := m_isByFriend h hσ hS (j := p + 2) (by omega)
    rwa [pr_nI (by omega), show p + 2 - 1 = p + 1 by omega, ← nI_s1] at this
  have hM := m_setAt h hσ hS (sv σ i 0) hp
  have hnn := sat_nn hS (sv σ i 0) hp
  generalize hsat : sat_ σ (sv σ i 0) p = sa at hM hnn
  by_cases hs : sv σ i 1 < 0
  rotate_left
  · rw [if_neg (fun q => hs q.1)]
    have h0 : 0 ≤ sv σ i 1 := not_lt0.mp hs
    by_cases hf : fit_ σ (sv σ i 0) p
    · simp only [f_X9_may, lk_96 h, lr_96_0 h, bd1_s, bd2_s, lb_e, ↓reduceIte, o0, hM.1 hf, o1, h0]
    · simp only [f_X9_may, lk_96 h, lr_96_0 h, bd1_s, bd2_s, lb_e, ↓reduceIte, o0, hM.2 hf, o1, h0]
  have h0 : ¬ 0 ≤ sv σ i 1 := fun q => not_lt0.mpr q hs
  by_cases hf : fit_ σ (sv σ i 0) p
  rotate_left
  · have e : myS σ (sv σ i 0) p = false := by
      unfold myS
      rw [decide_eq_false (show ¬ ((sv σ i 0 = 1 ∨ sv σ i 0 = 3) → p + 1 < n_ σ ∨ (σ 3 = 1 ∧ 2 ≤ n_ σ)) from hf), Bool.false_and]
    rw [if_neg (fun q => by rw [e] at q; cases q.2)]
    simp only [f_X9_may, lk_96 h, lr_96_0 h, bd1_s, bd2_s, lb_e, ↓reduceIte, o0, hM.2 hf, o1, h0, show ((-1 : Int32) < 0) by decide]
  have e : myS σ (sv σ i 0) p = (decide (sa &&& tk σ = 0) && cnd (sv σ i 0) (sd σ (tk σ) p) (sd σ (tk σ) (if sv σ i 0 = 1 ∨ sv σ i 0 = 3 then p + 3 else p + 2)) (decide (sv σ i 0 = 2 ∨ sv σ i 0 = 4) && (fs_ σ p || fs_ σ (p + 2)))) := by
    unfold myS
    rw [hsat, decide_eq_true (show ((sv σ i 0 = 1 ∨ sv σ i 0 = 3) → p + 1 < n_ σ ∨ (σ 3 = 1 ∧ 2 ≤ n_ σ)) from hf), Bool.true_and]
  rw [e]
  by_cases hz : sa &&& tk σ = 0
  rotate_left
  · rw [decide_eq_false hz, Bool.false_and, if_neg (fun q => by cases q.2)]
    simp only [f_X9_may, lk_96 h, lr_96_0 h, bd1_s, bd2_s, lb_e, ↓reduceIte, o0, hM.1 hf, o1, h0, hnn, hz]
  rw [decide_eq_true hz, Bool.true_and]
  generalize sd σ (tk σ) p = x at s1
  generalize fs_ σ p = y1 at f1
  generalize fs_ σ (p + 2) = y2 at f2
  generalize hz2 : sd σ (tk σ) (p + 2) = z2 at s2
  generalize hz3 : sd σ (tk σ) (p + 3) = z3 at s3
  generalize sv σ i 1 = a1 at o1 hs h0
  have hq : kk = 0 ∨ kk = 1 ∨ kk = 2 ∨ kk = 3 ∨ kk = 4 ∨ kk = 5 := by omega
  generalize sv σ i 0 = kd at o0 hM ek hf
  rcases hq with rfl | rfl | rfl | rfl | rfl | rfl
  · have ek : kd = 0 := ek
    subst ek
    simp only [f_X9_may, lk_96 h, lr_96_0 h, bd1_s, bd2_s, lb_e, ↓reduceIte, o0, hM.1 hf, o1, h0, hnn, hz, m_isBroad, m_isFriend, s1, s2, show ¬ ((0 : Int32) = 1 ∨ (0 : Int32) = 3) by decide, show ¬ ((0 : Int32) = 2 ∨ (0 : Int32) = 4) by decide, hs, hz2, j_X9_may_109, j_X9_may_110]
    cases x <;> cases z2 <;> rfl
  · have ek : kd = 1 := ek
    subst ek
    simp only [f_X9_may, lk_96 h, lr_96_0 h, bd1_s, bd2_s, lb_e, ↓reduceIte, o0, hM.1 hf, o1, h0, hnn, hz, m_isBroad, m_isFriend, s1, s3, show ((1 : Int32) = 1 ∨ (1 : Int32) = 3) by decide, show ¬ ((1 : Int32) = 2 ∨ (1 : Int32) = 4) by decide, hs, hz3, true_or, or_true, show ¬ (1 : Int32) = 0 by decide, j_X9_may_109, j_X9_may_110]
    cases x <;> cases z3 <;> rfl
  · have ek : kd = 2 := ek
    subst ek
    simp only [f_X9_may, lk_96 h, lr_96_0 h, bd1_s, bd2_s, lb_e, ↓reduceIte, o0, hM.1 hf, o1, h0, hnn, hz, m_isBroad, m_isFriend, s1, s2, f1, f2, show ¬ ((2 : Int32) = 1 ∨ (2 : Int32) = 3) by decide, show ((2 : Int32) = 2 ∨ (2 : Int32) = 4) by decide, hs, hz2, true_or, or_true, show ¬ (1 : Int32) = 0 by decide, j_X9_may_105, j_X9_may_110]
    cases x <;> cases z2 <;> cases y1 <;> cases y2 <;> rfl
  · have ek : kd = 3 := ek
    subst ek
    simp only [f_X9_may, lk_96 h, lr_96_0 h, bd1_s, bd2_s, lb_e, ↓reduceIte, o0, hM.1 hf, o1, h0, hnn, hz, m_isBroad, m_isFriend, s1, s3, show ((3 : Int32) = 1 ∨ (3 : Int32) = 3) by decide, show ¬ ((3 : Int32) = 2 ∨ (3 : Int32) = 4) by decide, hs, hz3, true_or, or_true, show ¬ (1 : Int32) = 0 by decide, j_X9_may_109, j_X9_may_110]
    cases x <;> cases z3 <;> rfl
  · have ek : kd = 4 := ek
    subst ek
    simp only [f_X9_may, lk_96 h, lr_96_0 h, bd1_s, bd2_s, lb_e, ↓reduceIte, o0, hM.1 hf, o1, h0, hnn, hz, m_isBroad, m_isFriend, s1, s2, f1, f2, show ¬ ((4 : Int32) = 1 ∨ (4 : Int32) = 3) by decide, show ((4 : Int32) = 2 ∨ (4 : Int32) = 4) by decide, hs, hz2, true_or, or_true, show ¬ (1 : Int32) = 0 by decide, j_X9_may_105, j_X9_may_110]
    cases x <;> cases z2 <;> cases y1 <;> cases y2 <;> rfl
  · have ek : kd = 5 := ek
    subst ek
    simp only [f_X9_may, lk_96 h, lr_96_0 h, bd1_s, bd2_s, lb_e, ↓reduceIte, o0, hM.1 hf, o1, h0, hnn, hz, m_isBroad, m_isFriend, s1, s2, show ¬ ((5 : Int32) = 1 ∨ (5 : Int32) = 3) by decide, show ¬ ((5 : Int32) = 2 ∨ (5 : Int32) = 4) by decide, hs, hz2, j_X9_may_109, j_X9_may_110]
    cases x <;> cases z2 <;> rfl
theorem oU_0 : ∀ n, oU (fun _ => 0) n = 0 := by
  intro n
  induction n with
  | zero => rfl
  | succ n ih => rw [oU, ih]; rfl
theorem m_placesOf {w : Wd} {σ : Nat → Int32} (h : Lay w) (hσ : wI w 97 = σ) (hS : Sv σ) {i : Nat} (hi : i < c_ σ) : f_X9_placesOf 96 (nI i) w = some (pl σ i, w) := by
  have hn := hS.n12
  have e2 : aK 11 w 97 2 = true := la_97 h (show 2 < 1444 by decide)
  have L : ∀ n k, k ≤ n_ σ → n_ σ - k < n → L_X9_placesOf_10 n 96 (nI i) (tk σ) (oU (fun p => if sv σ i 1 < 0 ∧ myS σ (sv σ i 0) p = true then ps p else 0) k) (nI k) w = some (oU (fun p => if sv σ i 1 < 0 ∧ myS σ (sv σ i 0) p = true then ps p else 0) (n_ σ), w) := by
    intro n
    induction n with
    | zero => intro k _ h2; omega
    | succ n ih =>
      intro k g1 g2
      unfold L_X9_placesOf_10
      simp only [lk_96 h, lr_96_0 h, bd1_s, bd2_s, lb_e, ↓reduceIte, e2, hσ, show nx 2 = 2 from rfl, hS.n]
      by_cases e : k = n_ σ
      · rw [if_pos ((nI_le' (by omega) (by omega)).mpr (by omega)), e]
      · rw [if_neg (fun q => e (by have := (nI_le' (by omega) (by omega)).mp q; omega)), m_may h hσ hS hi (by omega), bd2_s, nI_s1]
        have ihk := ih (k + 1) (by omega) (by omega)
        rw [oU] at ihk
        by_cases z : sv σ i 1 < 0 ∧ myS σ (sv σ i 0) k = true
        · rw [if_pos z] at ihk ⊢
          exact ihk
        · rw [if_neg z] at ihk ⊢
          exact ihk
  simp only [f_X9_placesOf, lk_96 h, lr_96_0 h, bd1_s, bd2_s, lb_e, ↓reduceIte, m_taken h hσ hS]
  rw [show (0 : Int32) = oU (fun p => if sv σ i 1 < 0 ∧ myS σ (sv σ i 0) p = true then ps p else 0) 0 from rfl]
  have := L FU 0 (by omega) (by unfold FU; omega)
  rw [show nI 0 = oU (fun p => if sv σ i 1 < 0 ∧ myS σ (sv σ i 0) p = true then ps p else 0) 0 from rfl] at this
  rw [this]
  unfold pl plK
  by_cases hs : sv σ i 1 < 0
  · simp only [hs, true_and, ↓reduceIte]
  · simp only [hs, false_and, ↓reduceIte, oU_0]
