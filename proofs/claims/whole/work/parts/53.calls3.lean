/-! THE CALLS: told, inn, count -/
theorem x_worth {w : Wd} {a : Nat} (h4 : wK w a = 4) : f_X4_worth a w = some (wrt (wI w a 0) (wI w a 3), w) := by
  have e : ∀ s : Int32, 99 - s - 4 = 95 - s := fun s => by
    rw [Int32.sub_eq_add_neg, Int32.sub_eq_add_neg, Int32.sub_eq_add_neg, Int32.add_assoc, Int32.add_comm (-s), ← Int32.add_assoc]
    rfl
  simp only [f_X4_worth, h4, ↓reduceIte, wrt]
  split
  · rfl
  · split
    · rfl
    · split
      · rfl
      · split
        · rw [e]
        · split <;> rfl
theorem m_worthOf {w : Wd} {i : Nat} (h : Lay w) (hi : i < 12) : f_X9_worthOf 96 (nI i) w = some (wrt (sv (wI w 97) i 0) (sv (wI w 97) i 3), w) := by
  simp only [f_X9_worthOf, lk_96 h, lr_96_0 h, bd1_s, bd2_s, lb_e, ↓reduceIte, m_of3 h hi, m_of0 h hi, wrt]
  split
  · rfl
  · split
    · rfl
    · split
      · rfl
      · split
        · rfl
        · split <;> rfl
theorem E_told {w : Wd} (I : Iv w) (s v : Int32) : Ok2 (f_X8_told 0 s v) (f_X9_told 96 s v) w := by
  have h := I.1
  obtain ⟨hV, hM, hR⟩ := I.2.1
  have hS := hV.1
  have h12 := hS.c12
  have xi := x_isSitter I s
  have mi := m_isSitter h rfl s
  by_cases c1 : wi_ s 0 (wI w 97 1 - 1) = 0
  · exact Ok2.q I (r := -1000000001) (by simp only [f_X8_told, lk_0 h, lr_0_0 h, bd1_s, bd2_s, lb_e, ↓reduceIte, li_k h bI1, li_r0 h bI1, li_r1 h bI1, li_r3 h bI1, li_r4 h bI1, li_k1 h bI1, xi, c1]) (by simp only [f_X9_told, lk_96 h, lr_96_0 h, bd1_s, bd2_s, lb_e, ↓reduceIte, mi, c1])
  have c1' := c1
  rw [hS.c] at c1'
  obtain ⟨i, hi, rfl⟩ := wi_n (by omega) c1'
  have hi12 : i < 12 := by omega
  have h4 := li_sk h bI1 hi12
  have e : ∀ j, j < 4 → wI w (1 + 7 + i) j = sv (wI w 97) i j := fun j hj => hR.1.2.2 i hi j hj
  have X : ∀ v : Int32, f_X8_told 0 (nI i) v w = (if v = 0 then some (sv (wI w 97) i 0, w) else if v = 1 then some (sv (wI w 97) i 1, w) else if v = 2 then some (sv (wI w 97) i 2, w) else if v = 3 then some (sv (wI w 97) i 3, w) else if v = 4 then some (so (wI w 97) i, w) else if v = 5 then some (pl (wI w 97) i, w) else if v = 6 then some (wrt (sv (wI w 97) i 0) (sv (wI w 97) i 3), w) else some (-1000000001, w)) := by
    intro v
    simp only [f_X8_told, lk_0 h, lr_0_0 h, bd1_s, bd2_s, lb_e, ↓reduceIte, li_k h bI1, li_r0 h bI1, li_r1 h bI1, li_r3 h bI1, li_r4 h bI1, li_k1 h bI1, xi, c1, li_a2 h bI1 hi12, nx_nI (show i < 2 ^ 31 by omega), li_s h bI1 hi12, h4, e 0 (by decide), e 1 (by decide), e 2 (by decide), e 3 (by decide), x_placesOf h bI1 hS hR.1 hi, x_placesFor h bI1 hS hR.1 hi, x_worth h4]
  have M : ∀ v : Int32, f_X9_told 96 (nI i) v w = (if v = 0 then some (sv (wI w 97) i 0, w) else if v = 1 then some (sv (wI w 97) i 1, w) else if v = 2 then some (sv (wI w 97) i 2, w) else if v = 3 then some (sv (wI w 97) i 3, w) else if v = 4 then some (so (wI w 97) i, w) else if v = 5 then some (pl (wI w 97) i, w) else if v = 6 then some (wrt (sv (wI w 97) i 0) (sv (wI w 97) i 3), w) else some (-1000000001, w)) := by
    intro v
    unfold f_X9_told
    simp only [lk_96 h, lr_96_0 h, bd1_s, bd2_s, lb_e, ↓reduceIte, mi, c1]
    by_cases v0 : v = 0
    · subst v0; simp only [↓reduceIte, m_of0 h hi12, bd2_s]
    by_cases v1 : v = 1
    · subst v1; simp only [↓reduceIte, m_of1 h hi12, bd2_s, show ¬ (1 : Int32) = 0 by decide]
    by_cases v2 : v = 2
    · subst v2; simp only [↓reduceIte, m_of2 h hi12, bd2_s, show ¬ (2 : Int32) = 0 by decide, show ¬ (2 : Int32) = 1 by decide]
    by_cases v3 : v = 3
    · subst v3; simp only [↓reduceIte, m_of3 h hi12, bd2_s, show ¬ (3 : Int32) = 0 by decide, show ¬ (3 : Int32) = 1 by decide, show ¬ (3 : Int32) = 2 by decide]
    simp only [v0, v1, v2, v3, ↓reduceIte, m_setOf h rfl hS hi, m_placesOf h rfl hS hi, m_worthOf h hi12, bd2_s]
  have hx := X v
  have hm := M v
  generalize (if v = 0 then some (sv (wI w 97) i 0, w) else if v = 1 then some (sv (wI w 97) i 1, w) else if v = 2 then some (sv (wI w 97) i 2, w) else if v = 3 then some (sv (wI w 97) i 3, w) else if v = 4 then some (so (wI w 97) i, w) else if v = 5 then some (pl (wI w 97) i, w) else if v = 6 then some (wrt (sv (wI w 97) i 0) (sv (wI w 97) i 3), w) else some (-1000000001, w)) = o at hx hm
  have ho : ∃ r, o = some (r, w) := by
    rw [← hx, X v]
    split
    · exact ⟨_, rfl⟩
    · split
      · exact ⟨_, rfl⟩
      · split
        · exact ⟨_, rfl⟩
        · split
          · exact ⟨_, rfl⟩
          · split
            · exact ⟨_, rfl⟩
            · split
              · exact ⟨_, rfl⟩
              · split
                · exact ⟨_, rfl⟩
                · exact ⟨_, rfl⟩
  obtain ⟨r, hr⟩ := ho
  rw [hr] at hx hm
  exact Ok2.q I hx hm
/-- how many stand, below k -/
def stC (σ : Nat → Int32) : Nat → Nat
  | 0 => 0
  | k + 1 => stC σ k + (if k < c_ σ ∧ sv σ k 1 < 0 then 1 else 0)
theorem sg_b {σ : Nat → Int32} (hS : Sv σ) {i : Nat} (hi : i < 32) : bt (sg σ) i = true ↔ (i < c_ σ ∧ sv σ i 1 < 0) := by
  have h12 := hS.c12
  unfold sg
  rw [oU_b]
  constructor
  · rintro ⟨k, h1, h2⟩
    by_cases z : sv σ k 1 < 0
    · rw [if_pos z, ps_b (by omega) hi, decide_eq_true_eq] at h2
      subst h2
      exact ⟨h1, z⟩
    · rw [if_neg z, b_0] at h2; cases h2
  · rintro ⟨h1, h2⟩
    exact ⟨i, h1, by rw [if_pos h2, ps_b (by omega) hi]; simp⟩
theorem ct_sg {σ : Nat → Int32} (hS : Sv σ) : ∀ k, k ≤ 32 → ct (sg σ) k = stC σ k := by
  intro k
  induction k with
  | zero => intro _; rfl
  | succ k ih =>
    intro hk
    rw [ct, stC, ih (by omega)]
    have := sg_b hS (show k < 32 by omega)
    by_cases c : k < c_ σ ∧ sv σ k 1 < 0
    · rw [if_pos c, if_pos (this.mpr c)]
    · rw [if_neg c, if_neg (fun q => c (this.mp q))]
theorem stC_le (σ : Nat → Int32) : ∀ k, stC σ k ≤ k := by
  intro k
  induction k with
  | zero => exact Nat.le_refl _
  | succ k ih => rw [stC]; split <;> omega
theorem stC_up {σ : Nat → Int32} (k : Nat) : stC σ (c_ σ + k) = stC σ (c_ σ) := by
  induction k with
  | zero => rfl
  | succ k ih =>
    rw [← Nat.add_assoc, stC, if_neg (fun q => by omega), ih]
    rfl
/-- how many sit -/
def sitC (σ : Nat → Int32) : Nat := c_ σ - stC σ (c_ σ)
theorem sg_B12 {σ : Nat → Int32} (hS : Sv σ) : B12 (sg σ) := fun i hi q => by
  have := ((sg_b hS hi).mp q).1
  have := hS.c12
  omega
theorem x_seatedCount {w : Wd} {b : Nat} {σ : Nat → Int32} (h : Lay w) (hb : bI b) (hS : Sv σ) (hR : RS w b σ) : f_X1_seatedCount b w = some (nI (sitC σ), w) := by
  have h12 := hS.c12
  have e : ct (sg σ) 12 = stC σ (c_ σ) := by
    rw [ct_sg hS 12 (by decide)]
    have := stC_up (σ := σ) (12 - c_ σ)
    rwa [show c_ σ + (12 - c_ σ) = 12 by omega] at this
  have := stC_le σ (c_ σ)
  simp only [f_X1_seatedCount, li_k h hb, li_r0 h hb, li_r1 h hb, li_r3 h hb, li_r4 h hb, li_r8 h hb, li_r10 h hb, li_k1 h hb, bd1_s, bd2_s, lb_e, ↓reduceIte, x_standing h hb hS hR, j_pc (sg_B12 hS), e, hR.1, hS.c, nI_sub this, sitC]
theorem m_manySit {w : Wd} {σ : Nat → Int32} (h : Lay w) (hσ : wI w 97 = σ) (hS : Sv σ) : f_X9_manySit 96 w = some (nI (sitC σ), w) := by
  have h12 := hS.c12
  have a1 : aK 11 w 97 1 = true := la_97 h (show 1 < 1444 by decide)
  have L : ∀ n k, k ≤ c_ σ → c_ σ - k < n → L_X9_manySit_4 n 96 (nI (k - stC σ k)) (nI k) w = some (nI (sitC σ), w) := by
    intro n
    induction n with
    | zero => intro k _ g; omega
    | succ n ih =>
      intro k g1 g2
      unfold L_X9_manySit_4
      simp only [lk_96 h, lr_96_0 h, bd1_s, bd2_s, lb_e, ↓reduceIte, a1, show nx 1 = 1 from rfl, hσ, hS.c]
      by_cases e : k = c_ σ
      · rw [if_pos ((nI_le' (by omega) (by omega)).mpr (by omega)), e]; rfl
      · have o1 := m_of1 h (show k < 12 by omega)
        rw [hσ] at o1
        rw [if_neg (fun z => by have := (nI_le' (by omega) (by omega)).mp z; omega), o1, bd2_s, nI_s1]
        have ihk := ih (k + 1) (by omega) (by omega)
        have hle := stC_le σ k
        rw [stC] at ihk
        by_cases c : sv σ k 1 < 0
        · rw [if_pos ⟨by omega, c⟩, show k + 1 - (stC σ k + 1) = k - stC σ k by omega] at ihk
          rw [if_neg (fun q => not_lt0.mpr q c), Int32.add_zero]
          exact ihk
        · rw [if_neg (fun q => c q.2), show k + 1 - (stC σ k + 0) = k - stC σ k + 1 by omega] at ihk
          rw [if_pos (not_lt0.mp c), nI_s1]
          exact ihk
  exact L FU 0 (by omega) (by unfold FU; omega)
theorem m_inn3 {w : Wd} {σ : Nat → Int32} (h : Lay w) (hσ : wI w 97 = σ) (hS : Sv σ) : L_X9_inn_54 FU 96 0 0 w = some (sg σ, w) := by
  have h12 := hS.c12
  have a1 : aK 11 w 97 1 = true := la_97 h (show 1 < 1444 by decide)
  have L : ∀ n k, k ≤ c_ σ → c_ σ - k < n → L_X9_inn_54 n 96 (oU (fun i => if sv σ i 1 < 0 then ps i else 0) k) (nI k) w = some (sg σ, w) := by
    intro n
    induction n with
    | zero => intro k _ g; omega
    | succ n ih =>
      intro k g1 g2
      unfold L_X9_inn_54
      simp only [lk_96 h, lr_96_0 h, bd1_s, bd2_s, lb_e, ↓reduceIte, a1, show nx 1 = 1 from rfl, hσ, hS.c]
      by_cases e : k = c_ σ
      · rw [if_pos ((nI_le' (by omega) (by omega)).mpr (by omega)), e]; rfl
      · have o1 := m_of1 h (show k < 12 by omega)
        rw [hσ] at o1
        rw [if_neg (fun z => by have := (nI_le' (by omega) (by omega)).mp z; omega), o1, bd2_s, nI_s1]
        have ihk := ih (k + 1) (by omega) (by omega)
        rw [oU] at ihk
        by_cases c : sv σ k 1 < 0
        · rw [if_pos c] at ihk
          rw [if_neg (fun q => not_lt0.mpr q c)]
          exact ihk
        · rw [if_neg c] at ihk
          rw [if_pos (not_lt0.mp c)]
          exact ihk
  exact L FU 0 (by omega) (by unfold FU; omega)
/-- inn, of any Inn as a row -/
def innS (σ : Nat → Int32) (v : Int32) : Int32 := if v = 0 then tk σ else if v = 1 then σ 10 else if v = 2 then nI (sitC σ) else if v = 3 then sg σ else -1000000001
theorem m_inn {w : Wd} {σ : Nat → Int32} (h : Lay w) (hσ : wI w 97 = σ) (hS : Sv σ) (v : Int32) : f_X9_inn 96 v w = some (innS σ v, w) := by
  have a10 : aK 11 w 97 10 = true := la_97 h (show 10 < 1444 by decide)
  unfold f_X9_inn innS
  simp only [lk_96 h, lr_96_0 h, bd1_s, bd2_s, lb_e, ↓reduceIte, m_taken h hσ hS, a10, show nx 10 = 10 from rfl, hσ, m_manySit h hσ hS, m_inn3 h hσ hS]
  split
  · rfl
  · split
    · rfl
    · split
      · rfl
      · split <;> rfl
theorem E_inn {w : Wd} (I : Iv w) (v : Int32) : Ok2 (f_X8_inn 0 v) (f_X9_inn 96 v) w := by
  have h := I.1
  obtain ⟨hV, hM, hR⟩ := I.2.1
  have hS := hV.1
  refine Ok2.q I (r := innS (wI w 97) v) ?_ (m_inn h rfl hS v)
  unfold f_X8_inn innS
  simp only [lk_0 h, lr_0_0 h, bd1_s, bd2_s, lb_e, ↓reduceIte, li_k h bI1, li_r0 h bI1, li_r1 h bI1, li_r3 h bI1, li_r4 h bI1, li_k1 h bI1, x_taken h bI1 hS hR.1, hR.2.1.2.2.1, x_seatedCount h bI1 hS hR.1, x_standing h bI1 hS hR.1]
  split
  · rfl
  · split
    · rfl
    · split
      · rfl
      · split <;> rfl
theorem E_count {w : Wd} (I : Iv w) (v : Int32) : Ok2 (f_X8_count 0 v) (f_X9_count 96 v) w := by
  have h := I.1
  obtain ⟨hV, hM, hR⟩ := I.2.1
  obtain ⟨-, t, -, t1, t2, -⟩ := I.2.2.2.1
  obtain ⟨n, -, n1, n2, -⟩ := I.2.2.2.2.2.2
  have a4 : ∀ j, j < 4 → aK 11 w (1 + 4) (nI j) = true := fun j hj => li_a4 h bI1 hj
  have a97 : ∀ j, j < 1444 → aK 11 w 97 (nI j) = true := fun j hj => la_97 h hj
  by_cases c : ∃ k, k < 13 ∧ v = nI k
  · obtain ⟨k, hk, rfl⟩ := c
    have hq : k = 0 ∨ k = 1 ∨ k = 2 ∨ k = 3 ∨ k = 4 ∨ k = 5 ∨ k = 6 ∨ k = 7 ∨ k = 8 ∨ k = 9 ∨ k = 10 ∨ k = 11 ∨ k = 12 := by omega
    rcases hq with rfl | rfl | rfl | rfl | rfl | rfl | rfl | rfl | rfl | rfl | rfl | rfl | rfl
    · refine Ok2.q I (r := wI w 97 1) ?_ ?_
      · show (if wK w 0 = 8 then _ else _) = _
        simp only [lk_0 h, lr_0_0 h, bd1_s, bd2_s, lb_e, ↓reduceIte, li_k h bI1, li_r0 h bI1, li_r1 h bI1, li_r3 h bI1, li_r4 h bI1, li_k1 h bI1, hR.1.1]
      · show (if wK w 96 = 9 then _ else _) = _
        simp only [lk_96 h, lr_96_0 h, bd1_s, bd2_s, lb_e, ↓reduceIte, show aK 11 w 97 1 = true from a97 1 (by decide), show nx 1 = 1 from rfl]
    · refine Ok2.q I (r := wI w 97 2) ?_ ?_
      · show (if wK w 0 = 8 then _ else _) = _
        simp only [lk_0 h, lr_0_0 h, bd1_s, bd2_s, lb_e, ↓reduceIte, li_k h bI1, li_r0 h bI1, li_r1 h bI1, li_r3 h bI1, li_r4 h bI1, li_k1 h bI1, hR.1.2.1.1]
      · show (if wK w 96 = 9 then _ else _) = _
        simp only [lk_96 h, lr_96_0 h, bd1_s, bd2_s, lb_e, ↓reduceIte, show aK 11 w 97 ((2 + nI 1) - 1) = true from a97 2 (by decide), show nx ((2 + nI 1) - 1) = 2 from rfl]
    · refine Ok2.q I (r := wI w 97 3) ?_ ?_
      · show (if wK w 0 = 8 then _ else _) = _
        simp only [lk_0 h, lr_0_0 h, bd1_s, bd2_s, lb_e, ↓reduceIte, li_k h bI1, li_r0 h bI1, li_r1 h bI1, li_r3 h bI1, li_r4 h bI1, li_k1 h bI1, hR.1.2.1.2.1]
      · show (if wK w 96 = 9 then _ else _) = _
        simp only [lk_96 h, lr_96_0 h, bd1_s, bd2_s, lb_e, ↓reduceIte, show aK 11 w 97 ((2 + nI 2) - 1) = true from a97 3 (by decide), show nx ((2 + nI 2) - 1) = 3 from rfl]
    · refine Ok2.q I (r := wI w 97 4) ?_ ?_
      · show (if wK w 0 = 8 then _ else _) = _
        simp only [lk_0 h, lr_0_0 h, bd1_s, bd2_s, lb_e, ↓reduceIte, li_k h bI1, li_r0 h bI1, li_r1 h bI1, li_r3 h bI1, li_r4 h bI1, li_k1 h bI1, hR.1.2.1.2.2.1]
      · show (if wK w 96 = 9 then _ else _) = _
        simp only [lk_96 h, lr_96_0 h, bd1_s, bd2_s, lb_e, ↓reduceIte, show aK 11 w 97 ((2 + nI 3) - 1) = true from a97 4 (by decide), show nx ((2 + nI 3) - 1) = 4 from rfl]
    · refine Ok2.q I (r := wI w 97 5) ?_ ?_
      · show (if wK w 0 = 8 then _ else _) = _
        simp only [lk_0 h, lr_0_0 h, bd1_s, bd2_s, lb_e, ↓reduceIte, li_k h bI1, li_r0 h bI1, li_r1 h bI1, li_r3 h bI1, li_r4 h bI1, li_k1 h bI1, hR.2.1.2.2.2.1]
      · show (if wK w 96 = 9 then _ else _) = _
        simp only [lk_96 h, lr_96_0 h, bd1_s, bd2_s, lb_e, ↓reduceIte, show aK 11 w 97 ((2 + nI 4) - 1) = true from a97 5 (by decide), show nx ((2 + nI 4) - 1) = 5 from rfl]
    · refine Ok2.q I (r := wI w 97 6) ?_ ?_
      · show (if wK w 0 = 8 then _ else _) = _
        simp only [lk_0 h, lr_0_0 h, bd1_s, bd2_s, lb_e, ↓reduceIte, li_k h bI1, li_r0 h bI1, li_r1 h bI1, li_r3 h bI1, li_r4 h bI1, li_k1 h bI1, show aK 11 w (1 + 4) 0 = true from a4 0 (by decide), show nx 0 = 0 from rfl, hR.2.1.2.1 0 (by decide)]
      · show (if wK w 96 = 9 then _ else _) = _
        simp only [lk_96 h, lr_96_0 h, bd1_s, bd2_s, lb_e, ↓reduceIte, show aK 11 w 97 ((2 + nI 5) - 1) = true from a97 6 (by decide), show nx ((2 + nI 5) - 1) = 6 from rfl]
    · refine Ok2.q I (r := wI w 97 7) ?_ ?_
      · show (if wK w 0 = 8 then _ else _) = _
        simp only [lk_0 h, lr_0_0 h, bd1_s, bd2_s, lb_e, ↓reduceIte, li_k h bI1, li_r0 h bI1, li_r1 h bI1, li_r3 h bI1, li_r4 h bI1, li_k1 h bI1, show aK 11 w (1 + 4) 1 = true from a4 1 (by decide), show nx 1 = 1 from rfl, hR.2.1.2.1 1 (by decide)]
      · show (if wK w 96 = 9 then _ else _) = _
        simp only [lk_96 h, lr_96_0 h, bd1_s, bd2_s, lb_e, ↓reduceIte, show aK 11 w 97 ((2 + nI 6) - 1) = true from a97 7 (by decide), show nx ((2 + nI 6) - 1) = 7 from rfl]
    · refine Ok2.q I (r := wI w 97 8) ?_ ?_
      · show (if wK w 0 = 8 then _ else _) = _
        simp only [lk_0 h, lr_0_0 h, bd1_s, bd2_s, lb_e, ↓reduceIte, li_k h bI1, li_r0 h bI1, li_r1 h bI1, li_r3 h bI1, li_r4 h bI1, li_k1 h bI1, show aK 11 w (1 + 4) 2 = true from a4 2 (by decide), show nx 2 = 2 from rfl, hR.2.1.2.1 2 (by decide)]
      · show (if wK w 96 = 9 then _ else _) = _
        simp only [lk_96 h, lr_96_0 h, bd1_s, bd2_s, lb_e, ↓reduceIte, show aK 11 w 97 ((2 + nI 7) - 1) = true from a97 8 (by decide), show nx ((2 + nI 7) - 1) = 8 from rfl]
    · refine Ok2.q I (r := wI w 97 9) ?_ ?_
      · show (if wK w 0 = 8 then _ else _) = _
        simp only [lk_0 h, lr_0_0 h, bd1_s, bd2_s, lb_e, ↓reduceIte, li_k h bI1, li_r0 h bI1, li_r1 h bI1, li_r3 h bI1, li_r4 h bI1, li_k1 h bI1, show aK 11 w (1 + 4) 3 = true from a4 3 (by decide), show nx 3 = 3 from rfl, hR.2.1.2.1 3 (by decide)]
      · show (if wK w 96 = 9 then _ else _) = _
        simp only [lk_96 h, lr_96_0 h, bd1_s, bd2_s, lb_e, ↓reduceIte, show aK 11 w 97 ((2 + nI 8) - 1) = true from a97 9 (by decide), show nx ((2 + nI 8) - 1) = 9 from rfl]
    · refine Ok2.q I (r := wI w 97 11) ?_ ?_
      · show (if wK w 0 = 8 then _ else _) = _
        simp only [lk_0 h, lr_0_0 h, bd1_s, bd2_s, lb_e, ↓reduceIte, li_k h bI1, li_r0 h bI1, li_r1 h bI1, li_r3 h bI1, li_r4 h bI1, li_k1 h bI1, hR.2.2.1]
      · show (if wK w 96 = 9 then _ else _) = _
        simp only [lk_96 h, lr_96_0 h, bd1_s, bd2_s, lb_e, ↓reduceIte, show aK 11 w 97 11 = true from a97 11 (by decide), show nx 11 = 11 from rfl]
    · refine Ok2.q I (r := nI n) ?_ ?_
      · show (if wK w 0 = 8 then _ else _) = _
        simp only [lk_0 h, lr_0_0 h, bd1_s, bd2_s, lb_e, ↓reduceIte, li_k h bI1, li_r0 h bI1, li_r1 h bI1, li_r3 h bI1, li_r4 h bI1, li_k1 h bI1, n1]
      · show (if wK w 96 = 9 then _ else _) = _
        simp only [lk_96 h, lr_96_0 h, bd1_s, bd2_s, lb_e, ↓reduceIte, n2]
    · refine Ok2.q I (r := nI t) ?_ ?_
      · show (if wK w 0 = 8 then _ else _) = _
        simp only [lk_0 h, lr_0_0 h, bd1_s, bd2_s, lb_e, ↓reduceIte, li_k h bI1, li_r0 h bI1, li_r1 h bI1, li_r3 h bI1, li_r4 h bI1, li_k1 h bI1, lr_0_5 h, lk_61 h, t1]
      · show (if wK w 96 = 9 then _ else _) = _
        simp only [lk_96 h, lr_96_0 h, bd1_s, bd2_s, lb_e, ↓reduceIte, t2]
    · refine Ok2.q I (r := wI w 97 0) ?_ ?_
      · show (if wK w 0 = 8 then _ else _) = _
        simp only [lk_0 h, lr_0_0 h, bd1_s, bd2_s, lb_e, ↓reduceIte, li_k h bI1, li_r0 h bI1, li_r1 h bI1, li_r3 h bI1, li_r4 h bI1, li_k1 h bI1, hR.2.1.2.2.2.2]
      · show (if wK w 96 = 9 then _ else _) = _
        simp only [lk_96 h, lr_96_0 h, bd1_s, bd2_s, lb_e, ↓reduceIte, show aK 11 w 97 0 = true from a97 0 (by decide), show nx 0 = 0 from rfl]
  · have ne : ∀ k, k < 13 → ¬ v = nI k := fun k hk e => c ⟨k, hk, e⟩
    have n0 : ¬ v = 0 := ne 0 (by decide)
    have n1' : ¬ v = 1 := ne 1 (by decide)
    have n2' : ¬ v = 2 := ne 2 (by decide)
    have n3 : ¬ v = 3 := ne 3 (by decide)
    have n4 : ¬ v = 4 := ne 4 (by decide)
    have n5 : ¬ v = 5 := ne 5 (by decide)
    have n6 : ¬ v = 6 := ne 6 (by decide)
    have n7 : ¬ v = 7 := ne 7 (by decide)
    have n8 : ¬ v = 8 := ne 8 (by decide)
    have n9 : ¬ v = 9 := ne 9 (by decide)
    have n10 : ¬ v = 10 := ne 10 (by decide)
    have n11 : ¬ v = 11 := ne 11 (by decide)
    have n12 : ¬ v = 12 := ne 12 (by decide)
    have hw : wi_ v 1 8 = 0 := by
      by_cases q : wi_ v 1 8 = 0
      · exact q
      · obtain ⟨k, h1, h2, h3⟩ := wi_ab (v := v) (a := 1) (b := 8) (by decide) q (by decide)
        exact absurd h3 (ne k (by omega))
    refine Ok2.q I (r := -1000000001) ?_ ?_
    · simp only [f_X8_count, n0, n1', n2', n3, n4, n5, n6, n7, n8, n9, n10, n11, n12, ↓reduceIte]
    · simp only [f_X9_count, wi_M, bd2_s, hw, n0, n1', n2', n3, n4, n5, n6, n7, n8, n9, n10, n11, n12, ↓reduceIte]
