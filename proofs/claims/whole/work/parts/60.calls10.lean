/-! SHEETS AND SLOTS: where they lie; reads, book, ask, item, rest, tell -/
theorem s4 {s : Nat} (h : s < 4) : s = 0 ∨ s = 1 ∨ s = 2 ∨ s = 3 := by omega
theorem s5 {s : Nat} (h : s < 5) : s = 0 ∨ s = 1 ∨ s = 2 ∨ s = 3 ∨ s = 4 := by omega
theorem ls_k {w : Wd} (h : Lay w) {s : Nat} (hs : s < 4) : wK w (68 + 2 * s) = 3 := by rcases s4 hs with e | e | e | e <;> subst e <;> exact h.k _ (by decide) rfl
theorem ls_a {w : Wd} (h : Lay w) {s : Nat} (hs : s < 4) : aK 13 w 65 (nI s) = true := aK_k (lk_65 h) (ll_65 h) hs (by decide)
theorem ls_r {w : Wd} (h : Lay w) {s : Nat} (hs : s < 4) : wR w 65 s = some (68 + 2 * s) := by rcases s4 hs with e | e | e | e <;> subst e <;> exact h.r _ _ (by decide) (by decide) (by decide) rfl
theorem ls_2 {w : Wd} (h : Lay w) {s : Nat} (hs : s < 4) : wR w (68 + 2 * s) 2 = some (69 + 2 * s) := by rcases s4 hs with e | e | e | e <;> subst e <;> exact h.r _ _ (by decide) (by decide) (by decide) rfl
theorem ls_c {w : Wd} (h : Lay w) {s k : Nat} (hs : s < 4) (hk : k < 24) : aK 11 w (69 + 2 * s) (nI k) = true := by rcases s4 hs with e | e | e | e <;> subst e <;> exact aK_k (h.k _ (by decide) rfl) (h.l _ (by decide) rfl) hk (by decide)
theorem lo_a {w : Wd} (h : Lay w) {s : Nat} (hs : s < 5) : aK 15 w 66 (nI s) = true := aK_k (lk_66 h) (ll_66 h) hs (by decide)
theorem lo_r {w : Wd} (h : Lay w) {s : Nat} (hs : s < 5) : wR w 66 s = some (76 + 4 * s) := by rcases s5 hs with e | e | e | e | e <;> subst e <;> exact h.r _ _ (by decide) (by decide) (by decide) rfl
theorem lo_k {w : Wd} (h : Lay w) {s : Nat} (hs : s < 5) : wK w (76 + 4 * s) = 5 := by rcases s5 hs with e | e | e | e | e <;> subst e <;> exact h.k _ (by decide) rfl
theorem lo_1 {w : Wd} (h : Lay w) {s : Nat} (hs : s < 5) : wR w (76 + 4 * s) 1 = some (77 + 4 * s) := by rcases s5 hs with e | e | e | e | e <;> subst e <;> exact h.r _ _ (by decide) (by decide) (by decide) rfl
theorem lo_2 {w : Wd} (h : Lay w) {s : Nat} (hs : s < 5) : wR w (76 + 4 * s) 2 = some (78 + 4 * s) := by rcases s5 hs with e | e | e | e | e <;> subst e <;> exact h.r _ _ (by decide) (by decide) (by decide) rfl
theorem lo_k4 {w : Wd} (h : Lay w) {s : Nat} (hs : s < 5) : wK w (77 + 4 * s) = 4 := by rcases s5 hs with e | e | e | e | e <;> subst e <;> exact h.k _ (by decide) rfl
theorem lo_k3 {w : Wd} (h : Lay w) {s : Nat} (hs : s < 5) : wK w (78 + 4 * s) = 3 := by rcases s5 hs with e | e | e | e | e <;> subst e <;> exact h.k _ (by decide) rfl
theorem lo_22 {w : Wd} (h : Lay w) {s : Nat} (hs : s < 5) : wR w (78 + 4 * s) 2 = some (79 + 4 * s) := by rcases s5 hs with e | e | e | e | e <;> subst e <;> exact h.r _ _ (by decide) (by decide) (by decide) rfl
theorem lo_c {w : Wd} (h : Lay w) {s k : Nat} (hs : s < 5) (hk : k < 24) : aK 11 w (79 + 4 * s) (nI k) = true := by rcases s5 hs with e | e | e | e | e <;> subst e <;> exact aK_k (h.k _ (by decide) rfl) (h.l _ (by decide) rfl) hk (by decide)
theorem e24 (s k : Nat) : (24 : Int32) * nI s + nI k = nI (24 * s + k) := by rw [show (24 : Int32) = nI 24 from rfl, nI_mul, nI_add]
theorem x_isSheet (v : Int32) (w : Wd) : f_X8_isSheet v w = some (wi_ v 0 3, w) := by simp only [f_X8_isSheet, wi_X, bd2_s, wi_z, ↓reduceIte]
theorem m_isSheet (v : Int32) (w : Wd) : f_X9_isSheet v w = some (wi_ v 0 3, w) := by simp only [f_X9_isSheet, wi_M, bd2_s, wi_z, ↓reduceIte]
theorem x_isSlot (v : Int32) (w : Wd) : f_X8_isSlot v w = some (wi_ v 0 4, w) := by simp only [f_X8_isSlot, wi_X, bd2_s, wi_z, ↓reduceIte]
theorem m_isSlot (v : Int32) (w : Wd) : f_X9_isSlot v w = some (wi_ v 0 4, w) := by simp only [f_X9_isSlot, wi_M, bd2_s, wi_z, ↓reduceIte]
theorem wi_3 {v : Int32} (h : ¬ wi_ v 0 3 = 0) : ∃ k, k < 4 ∧ v = nI k := by
  obtain ⟨k, -, h2, h3⟩ := wi_ab (v := v) (a := 0) (b := 3) (by decide) h (by decide)
  exact ⟨k, by omega, h3⟩
theorem wi_4 {v : Int32} (h : ¬ wi_ v 0 4 = 0) : ∃ k, k < 5 ∧ v = nI k := by
  obtain ⟨k, -, h2, h3⟩ := wi_ab (v := v) (a := 0) (b := 4) (by decide) h (by decide)
  exact ⟨k, by omega, h3⟩
theorem x_ref {w : Wd} (h : Lay w) {s : Nat} (hs : s < 4) (c : ¬ wi_ (nI s) 0 3 = 0) : f_X8_refusalOf 0 (nI s) w = some (if wI w (68 + 2 * s) 0 = -1 then -1000000011 else 0, w) := by
  simp only [f_X8_refusalOf, x_isSheet, bd2_s, c, ↓reduceIte, lk_0 h, lr_0_6 h, bd1_s, ls_a h hs, nx_nI (show s < 2 ^ 31 by omega), ls_r h hs, ls_k h hs]
theorem E_reads {w : Wd} (I : Iv w) (v : Int32) : Ok2 (f_X8_reads 0 v) (f_X9_reads 96 v) w := by
  have h := I.1
  obtain ⟨hV, hM, hR⟩ := I.2.1
  obtain ⟨hI, hT, hSh, hSl, hW⟩ := I.2.2
  have hS := hV.1
  have h12 := hS.c12
  by_cases c1 : wi_ v 0 3 = 0
  · exact Ok2.q I (r := -1000000001) (by simp only [f_X8_reads, f_X8_refusalOf, lk_0 h, x_isSheet, bd2_s, c1, ↓reduceIte, show ¬ (-1000000001 : Int32) = 0 by decide]) (by simp only [f_X9_reads, m_isSheet, bd2_s, c1, ↓reduceIte])
  obtain ⟨s, hs, rfl⟩ := wi_3 c1
  obtain ⟨q, nn, hq, hn, q1, q2, n1, n2, hc⟩ := hSh s hs
  have a25 : aK 11 w 110 (nI s) = true := la_110 h hs
  have a26 : aK 11 w 111 (nI s) = true := la_111 h hs
  have ns := nx_nI (show s < 2 ^ 31 by omega)
  by_cases c2 : q = -1
  · refine Ok2.q I (r := -1000000011) ?_ ?_
    · simp only [f_X8_reads, lk_0 h, ↓reduceIte, x_ref h hs c1, bd2_s, q1, c2, show ¬ (-1000000011 : Int32) = 0 by decide]
    · simp only [f_X9_reads, m_isSheet, bd2_s, c1, ↓reduceIte, lk_96 h, lr_96_25 h, bd1_s, a25, ns, q2, c2, show ¬ (0 : Int32) ≤ -1 by decide]
  have q0 : (0 : Int32) ≤ q := by
    rcases hq with e | e | e
    · exact absurd e c2
    · subst e; decide
    · subst e; decide
  have L : ∀ n k, k ≤ nn → nn - k < n → ∃ r, L_X8_reads_22 n 0 (68 + 2 * s) (nI k) w = some (r, w) ∧ L_X9_reads_24 n 96 (nI s) (nI k) w = some (r, w) := by
    intro n
    induction n with
    | zero => intro k _ g; omega
    | succ n ih =>
      intro k hk g
      unfold L_X8_reads_22 L_X9_reads_24
      simp only [ls_k h hs, ↓reduceIte, n1, lk_96 h, lr_96_26 h, bd1_s, a26, ns, n2]
      by_cases z : k = nn
      · subst z
        rw [if_pos ((nI_le' (by omega) (by omega)).mpr (Nat.le_refl _)), if_pos ((nI_le' (by omega) (by omega)).mpr (Nat.le_refl _))]
        exact ⟨_, rfl, rfl⟩
      · obtain ⟨r, i1, i2⟩ := ih (k + 1) (by omega) (by omega)
        rw [if_neg (show ¬ nI nn ≤ nI k from fun y => by have := (nI_le' (by omega) (by omega)).mp y; omega), if_neg (show ¬ nI nn ≤ nI k from fun y => by have := (nI_le' (by omega) (by omega)).mp y; omega)]
        simp only [ls_2 h hs, bd1_s, ls_c h hs (show k < 24 by omega), ↓reduceIte, nx_nI (show k < 2 ^ 31 by omega), hc k (by omega), lr_96_27 h, e24, la_112 h (show 24 * s + k < 96 by omega), nx_nI (show 24 * s + k < 2 ^ 31 by omega), lb_e, nI_s1, lk_0 h, x_isSitter I, m_isSitter h rfl, bd2_s]
        by_cases d : wI w 112 (24 * s + k) = -1000000005
        · rw [if_pos d, if_pos d]; exact ⟨r, i1, i2⟩
        · rw [if_neg d, if_neg d]
          by_cases e : wi_ (nI k) 0 (wI w 97 1 - 1) = 0
          · rw [if_pos e, if_pos e]; exact ⟨_, rfl, rfl⟩
          · rw [if_neg e, if_neg e]
            rw [hS.c] at e
            obtain ⟨k', hk', ek⟩ := wi_n (by omega) e
            have : k = k' := nI_inj (by omega) (by omega) ek
            subst this
            have hk12 : k < 12 := by omega
            have o2 := m_of h hk12 (k := 2) (by decide)
            rw [show nI 2 = (2 : Int32) from rfl] at o2
            have e2 : wI w (1 + 7 + k) 2 = sv (wI w 97) k 2 := hR.1.2.2 k hk' 2 (by decide)
            simp only [lr_0_0 h, bd1_s, li_k h bI1, li_r1 h bI1, li_a2 h bI1 hk12, li_s h bI1 hk12, li_sk h bI1 hk12, ↓reduceIte, e2, o2, bd2_s, lk_96 h, ls_k h hs]
            by_cases f : wI w 112 (24 * s + k) = sv (wI w 97) k 2
            · rw [if_pos f, if_pos f]; exact ⟨r, i1, i2⟩
            · rw [if_neg f, if_neg f]; exact ⟨_, rfl, rfl⟩
  obtain ⟨r, i1, i2⟩ := L FU 0 (by omega) (by unfold FU; omega)
  refine Ok2.q I (r := r) ?_ ?_
  · simp only [f_X8_reads, lk_0 h, ↓reduceIte, x_ref h hs c1, bd2_s, q1, c2, lr_0_6 h, bd1_s, ls_a h hs, ns, ls_r h hs]
    exact i1
  · simp only [f_X9_reads, m_isSheet, bd2_s, c1, ↓reduceIte, lk_96 h, lr_96_25 h, bd1_s, a25, ns, q2, q0]
    exact i2
theorem m_mayOrd {w : Wd} {σ : Nat → Int32} (h : Lay w) (hσ : wI w 97 = σ) (hS : Sv σ) {t : Int32} (hB : Bd σ t) {p : Nat} (hp : p < n_ σ) : f_X9_mayOrdinary 96 t (nI p) w = some (if bt (orS σ t) p then 1 else 0, w) := by
  have h12 := hS.n12
  have s1 := m_isSome h hσ hS t (j := p) (by omega)
  have s2 : f_X9_isSome 96 t (nI p + 1) w = some (if sd σ t (p + 2) then 1 else 0, w) := by
    have := m_isSome h hσ hS t (j := p + 2) (by omega)
    rw [pr_nI (by omega)] at this
    rw [nI_s1]
    exact this
  rw [or_b hS hB (by omega), decide_eq_true hp]
  simp only [f_X9_mayOrdinary, b_has (show p < 32 by omega), lk_96 h, ↓reduceIte, s1, s2, bd2_s]
  cases bt t p <;> cases sd σ t p <;> cases sd σ t (p + 2) <;> rfl
theorem E_book {w : Wd} (I : Iv w) (v : Int32) : Ok2 (f_X8_book 0 v) (f_X9_book 96 v) w := by
  have h := I.1
  obtain ⟨hV, hM, hR⟩ := I.2.1
  obtain ⟨hI, hT, hSh, hSl, hW⟩ := I.2.2
  have hS := hV.1
  have h12 := hS.n12
  by_cases c1 : wi_ v 0 3 = 0
  · exact Ok2.q I (r := -1000000001) (by simp only [f_X8_book, f_X8_refusalOf, lk_0 h, x_isSheet, bd2_s, c1, ↓reduceIte, show ¬ (-1000000001 : Int32) = 0 by decide]) (by simp only [f_X9_book, m_isSheet, bd2_s, c1, ↓reduceIte])
  obtain ⟨s, hs, rfl⟩ := wi_3 c1
  obtain ⟨q, nn, hq, hn, q1, q2, n1, n2, hc⟩ := hSh s hs
  have a25 : aK 11 w 110 (nI s) = true := la_110 h hs
  have a26 : aK 11 w 111 (nI s) = true := la_111 h hs
  have ns := nx_nI (show s < 2 ^ 31 by omega)
  by_cases c2 : q = -1
  · refine Ok2.q I (r := -1000000011) ?_ ?_
    · simp only [f_X8_book, lk_0 h, ↓reduceIte, x_ref h hs c1, bd2_s, q1, c2, show ¬ (-1000000011 : Int32) = 0 by decide]
    · simp only [f_X9_book, m_isSheet, bd2_s, c1, ↓reduceIte, lk_96 h, lr_96_25 h, bd1_s, a25, ns, q2, c2, show ¬ (0 : Int32) ≤ -1 by decide]
  have q0 : (0 : Int32) ≤ q := by
    rcases hq with e | e | e
    · exact absurd e c2
    · subst e; decide
    · subst e; decide
  have L : ∀ n k (t y : Int32), Bd (wI w 97) t → k ≤ nn → nn - k < n → ∃ r, L_X8_book_34 n 0 (68 + 2 * s) t y (nI k) w = some (r, w) ∧ L_X9_book_32 n 96 (nI s) t y (nI k) w = some (r, w) := by
    intro n
    induction n with
    | zero => intro k t y _ _ g; omega
    | succ n ih =>
      intro k t y hB hk g
      unfold L_X8_book_34 L_X9_book_32
      simp only [ls_k h hs, ↓reduceIte, n1, lk_96 h, lr_96_26 h, bd1_s, a26, ns, n2]
      by_cases z : k = nn
      · subst z
        rw [if_pos ((nI_le' (by omega) (by omega)).mpr (Nat.le_refl _)), if_pos ((nI_le' (by omega) (by omega)).mpr (Nat.le_refl _))]
        exact ⟨_, rfl, rfl⟩
      · rw [if_neg (show ¬ nI nn ≤ nI k from fun y => by have := (nI_le' (by omega) (by omega)).mp y; omega), if_neg (show ¬ nI nn ≤ nI k from fun y => by have := (nI_le' (by omega) (by omega)).mp y; omega)]
        simp only [ls_2 h hs, bd1_s, ls_c h hs (show k < 24 by omega), ↓reduceIte, nx_nI (show k < 2 ^ 31 by omega), hc k (by omega), lr_96_27 h, e24, la_112 h (show 24 * s + k < 96 by omega), nx_nI (show 24 * s + k < 2 ^ 31 by omega), lb_e, nI_s1, lk_0 h, x_isPlace I, m_isPlace h rfl, bd2_s]
        by_cases d : wI w 112 (24 * s + k) = -1000000005
        · rw [if_pos d, if_pos d]; exact ih (k + 1) t y hB (by omega) (by omega)
        · rw [if_neg d, if_neg d]
          by_cases e : wi_ (wI w 112 (24 * s + k)) 0 (wI w 97 2 - 1) = 0
          · rw [if_pos e, if_pos e]; exact ⟨_, rfl, rfl⟩
          · rw [if_neg e, if_neg e]
            rw [hS.n] at e
            obtain ⟨p, hp, ep⟩ := wi_n (by omega) e
            rw [ep]
            simp only [lr_0_0 h, bd1_s, li_k h bI1, li_r0 h bI1, li_k1 h bI1, ↓reduceIte, x_or h bI1 hS hR.1, bd2_s, f_X8_has, bh (show p < 32 by omega), lk_96 h, m_mayOrd h rfl hS hB hp]
            cases f : bt (orS (wI w 97) t) p
            · simp only [Bool.false_eq_true, ↓reduceIte]; exact ⟨_, rfl, rfl⟩
            · simp only [↓reduceIte, show ¬ (1 : Int32) = 0 by decide]
              refine ih (k + 1) _ _ (fun i hi hb => ?_) (by omega) (by omega)
              rw [b_or] at hb
              rcases Bool.or_eq_true_iff.mp hb with y | y
              · exact hB i hi y
              · have := ps_b (show p < 32 by omega) hi
                unfold ps at this
                rw [this] at y
                have := of_decide_eq_true y
                omega
  obtain ⟨r, i1, i2⟩ := L FU 0 (tk (wI w 97)) 0 (tk_Bd hS) (by omega) (by unfold FU; omega)
  refine Ok2.q I (r := r) ?_ ?_
  · simp only [f_X8_book, lk_0 h, ↓reduceIte, x_ref h hs c1, bd2_s, q1, c2, lr_0_6 h, bd1_s, ls_a h hs, ns, ls_r h hs, lr_0_0 h, li_k h bI1, x_taken h bI1 hS hR.1]
    exact i1
  · simp only [f_X9_book, m_isSheet, bd2_s, c1, ↓reduceIte, lk_96 h, lr_96_25 h, bd1_s, a25, ns, q2, q0, m_taken h rfl hS]
    exact i2
theorem E_ask {w : Wd} (I : Iv w) (v u : Int32) : Ok2 (f_X8_ask 0 v u) (f_X9_ask 96 v u) w := by
  have h := I.1
  obtain ⟨hI, hT, hSh, hSl, hW⟩ := I.2.2
  by_cases c1 : wi_ v 0 4 = 0
  · exact Ok2.q I (r := -1000000001) (by simp only [f_X8_ask, x_isSlot, bd2_s, c1, ↓reduceIte]) (by simp only [f_X9_ask, m_isSlot, bd2_s, c1, ↓reduceIte])
  by_cases c2 : wi_ u 0 5 = 0
  · exact Ok2.q I (r := -1000000001) (by simp only [f_X8_ask, x_isSlot, bd2_s, c1, x_isKind, c2, ↓reduceIte]) (by simp only [f_X9_ask, m_isSlot, bd2_s, c1, wi_M, c2, ↓reduceIte])
  obtain ⟨s, hs, rfl⟩ := wi_4 c1
  obtain ⟨j, hj, rfl⟩ := wi_5 c2
  obtain ⟨th, hth, t1, t2, b1, b2, b3⟩ := hSl s hs
  have ns := nx_nI (show s < 2 ^ 31 by omega)
  have a28 : aK 11 w 113 (nI s) = true := la_113 h hs
  have a29 : aK 11 w 114 (nI s) = true := la_114 h hs
  have a30 : aK 11 w 115 (nI s) = true := la_115 h hs
  have tne : ∀ x, x < 4 → th ≠ x → ¬ nI th = nI x := fun x hx hn q => hn (nI_inj (by omega) (by omega) q)
  by_cases d0 : th = 0
  · subst d0
    exact Ok2.q I (r := -1000000011) (by simp only [f_X8_ask, x_isSlot, lk_0 h, lr_0_0 h, bd1_s, bd2_s, lb_e, ↓reduceIte, li_k h bI1, li_r0 h bI1, li_r1 h bI1, li_r3 h bI1, li_r4 h bI1, li_k1 h bI1, c1, x_isKind, c2, lr_0_7 h, lo_a h hs, ns, lo_r h hs, lo_k h hs, t1, show nI 0 = (0 : Int32) from rfl]) (by simp only [f_X9_ask, m_isSlot, lk_96 h, lr_96_0 h, bd1_s, bd2_s, lb_e, ↓reduceIte, c1, wi_M, c2, lr_96_28 h, a28, ns, t2, show nI 0 = (0 : Int32) from rfl])
  by_cases d1 : th = 1
  · subst d1
    obtain ⟨k, hk, k1, k2, k3⟩ := b1 rfl
    have hO := x_isOf hj hk (lo_k4 h hs) k1
    by_cases c : j = 0 ∨ j = k ∨ (j = 1 ∧ k = 3) ∨ (j = 2 ∧ k = 4)
    · refine Ok2.q I (r := wrt (nI k) (wI w (77 + 4 * s) 3)) ?_ ?_
      · simp only [f_X8_ask, x_isSlot, lk_0 h, lr_0_0 h, bd1_s, bd2_s, lb_e, ↓reduceIte, li_k h bI1, li_r0 h bI1, li_r1 h bI1, li_r3 h bI1, li_r4 h bI1, li_k1 h bI1, c1, x_isKind, c2, lr_0_7 h, lo_a h hs, ns, lo_r h hs, lo_k h hs, t1, show nI 1 = (1 : Int32) from rfl, show ¬ (1 : Int32) = 0 by decide, lo_1 h hs, lo_k4 h hs, hO, c, x_worth (lo_k4 h hs), k1]
      · simp only [f_X9_ask, m_isSlot, lk_96 h, lr_96_0 h, bd1_s, bd2_s, lb_e, ↓reduceIte, c1, wi_M, c2, lr_96_28 h, a28, ns, t2, show nI 1 = (1 : Int32) from rfl, show ¬ (1 : Int32) = 0 by decide, lr_96_29 h, a29, k2, m_isUnder hk hj, c, lr_96_30 h, a30, k3]
    · refine Ok2.q I (r := -1000000012) ?_ ?_
      · simp only [f_X8_ask, x_isSlot, lk_0 h, lr_0_0 h, bd1_s, bd2_s, lb_e, ↓reduceIte, li_k h bI1, li_r0 h bI1, li_r1 h bI1, li_r3 h bI1, li_r4 h bI1, li_k1 h bI1, c1, x_isKind, c2, lr_0_7 h, lo_a h hs, ns, lo_r h hs, lo_k h hs, t1, show nI 1 = (1 : Int32) from rfl, show ¬ (1 : Int32) = 0 by decide, lo_1 h hs, lo_k4 h hs, hO, c]
      · simp only [f_X9_ask, m_isSlot, lk_96 h, lr_96_0 h, bd1_s, bd2_s, lb_e, ↓reduceIte, c1, wi_M, c2, lr_96_28 h, a28, ns, t2, show nI 1 = (1 : Int32) from rfl, show ¬ (1 : Int32) = 0 by decide, lr_96_29 h, a29, k2, m_isUnder hk hj, c]
  · have n0 := tne 0 (by decide) d0
    have n1 := tne 1 (by decide) d1
    rw [show nI 0 = (0 : Int32) from rfl] at n0
    rw [show nI 1 = (1 : Int32) from rfl] at n1
    exact Ok2.q I (r := -1000000012) (by simp only [f_X8_ask, x_isSlot, lk_0 h, lr_0_0 h, bd1_s, bd2_s, lb_e, ↓reduceIte, li_k h bI1, li_r0 h bI1, li_r1 h bI1, li_r3 h bI1, li_r4 h bI1, li_k1 h bI1, c1, x_isKind, c2, lr_0_7 h, lo_a h hs, ns, lo_r h hs, lo_k h hs, t1, n0, n1]) (by simp only [f_X9_ask, m_isSlot, lk_96 h, lr_96_0 h, bd1_s, bd2_s, lb_e, ↓reduceIte, c1, wi_M, c2, lr_96_28 h, a28, ns, t2, n0, n1])
theorem E_item {w : Wd} (I : Iv w) (v u : Int32) : Ok2 (f_X8_item 0 v u) (f_X9_item 96 v u) w := by
  have h := I.1
  obtain ⟨hI, hT, hSh, hSl, hW⟩ := I.2.2
  by_cases c1 : wi_ v 0 4 = 0
  · exact Ok2.q I (r := -1000000001) (by simp only [f_X8_item, x_isSlot, bd2_s, c1, ↓reduceIte]) (by simp only [f_X9_item, m_isSlot, bd2_s, c1, ↓reduceIte])
  obtain ⟨s, hs, rfl⟩ := wi_4 c1
  obtain ⟨th, hth, t1, t2, b1, b2, b3⟩ := hSl s hs
  have ns := nx_nI (show s < 2 ^ 31 by omega)
  have a28 : aK 11 w 113 (nI s) = true := la_113 h hs
  have a29 : aK 11 w 114 (nI s) = true := la_114 h hs
  have tne : ∀ x, x < 4 → th ≠ x → ¬ nI th = nI x := fun x hx hn q => hn (nI_inj (by omega) (by omega) q)
  by_cases d0 : th = 0
  · subst d0
    exact Ok2.q I (r := -1000000011) (by simp only [f_X8_item, x_isSlot, lk_0 h, lr_0_0 h, bd1_s, bd2_s, lb_e, ↓reduceIte, li_k h bI1, li_r0 h bI1, li_r1 h bI1, li_r3 h bI1, li_r4 h bI1, li_k1 h bI1, c1, lr_0_7 h, lo_a h hs, ns, lo_r h hs, lo_k h hs, t1, show nI 0 = (0 : Int32) from rfl]) (by simp only [f_X9_item, m_isSlot, lk_96 h, lr_96_0 h, bd1_s, bd2_s, lb_e, ↓reduceIte, c1, lr_96_28 h, a28, ns, t2, show nI 0 = (0 : Int32) from rfl])
  by_cases d1 : th = 2
  · subst d1
    obtain ⟨nn, hn, n1, n2, hc⟩ := b2 rfl
    have t20 : ¬ (2 : Int32) = 0 := by decide
    by_cases c : wi_ u 0 (nI nn - 1) = 0
    · refine Ok2.q I (r := -1000000013) ?_ ?_
      · simp only [f_X8_item, x_isSlot, lk_0 h, lr_0_0 h, bd1_s, bd2_s, lb_e, ↓reduceIte, li_k h bI1, li_r0 h bI1, li_r1 h bI1, li_r3 h bI1, li_r4 h bI1, li_k1 h bI1, c1, lr_0_7 h, lo_a h hs, ns, lo_r h hs, lo_k h hs, t1, show nI 2 = (2 : Int32) from rfl, t20, lo_2 h hs, lo_k3 h hs, f_X3_hasPlace, wi_X, wi_z, n1, c]
      · simp only [f_X9_item, m_isSlot, lk_96 h, lr_96_0 h, bd1_s, bd2_s, lb_e, ↓reduceIte, c1, lr_96_28 h, a28, ns, t2, show nI 2 = (2 : Int32) from rfl, t20, lr_96_29 h, a29, n2, wi_M, c]
    · obtain ⟨k, hk, rfl⟩ := wi_n (by omega) c
      refine Ok2.q I (r := if wI w 116 (24 * s + k) = -1000000005 then -1000000012 else wI w 116 (24 * s + k)) ?_ ?_
      · simp only [f_X8_item, x_isSlot, lk_0 h, lr_0_0 h, bd1_s, bd2_s, lb_e, ↓reduceIte, li_k h bI1, li_r0 h bI1, li_r1 h bI1, li_r3 h bI1, li_r4 h bI1, li_k1 h bI1, c1, lr_0_7 h, lo_a h hs, ns, lo_r h hs, lo_k h hs, t1, show nI 2 = (2 : Int32) from rfl, t20, lo_2 h hs, lo_k3 h hs, f_X3_hasPlace, wi_X, wi_z, n1, c, lo_22 h hs, lo_c h hs (show k < 24 by omega), nx_nI (show k < 2 ^ 31 by omega), hc k (by omega)]
      · simp only [f_X9_item, m_isSlot, lk_96 h, lr_96_0 h, bd1_s, bd2_s, lb_e, ↓reduceIte, c1, lr_96_28 h, a28, ns, t2, show nI 2 = (2 : Int32) from rfl, t20, lr_96_29 h, a29, n2, wi_M, c, lr_96_31 h, e24, la_116 h (show 24 * s + k < 120 by omega), nx_nI (show 24 * s + k < 2 ^ 31 by omega)]
  · have n0 := tne 0 (by decide) d0
    have n1 := tne 2 (by decide) d1
    rw [show nI 0 = (0 : Int32) from rfl] at n0
    rw [show nI 2 = (2 : Int32) from rfl] at n1
    exact Ok2.q I (r := -1000000012) (by simp only [f_X8_item, x_isSlot, lk_0 h, lr_0_0 h, bd1_s, bd2_s, lb_e, ↓reduceIte, li_k h bI1, li_r0 h bI1, li_r1 h bI1, li_r3 h bI1, li_r4 h bI1, li_k1 h bI1, c1, lr_0_7 h, lo_a h hs, ns, lo_r h hs, lo_k h hs, t1, n0, n1]) (by simp only [f_X9_item, m_isSlot, lk_96 h, lr_96_0 h, bd1_s, bd2_s, lb_e, ↓reduceIte, c1, lr_96_28 h, a28, ns, t2, n0, n1])
theorem irem_m1 (x : Int32) : irem x (-1) = 0 := by
  have e : x / (-1) = -x := by
    apply Int32.toInt_inj.mp
    rw [Int32.toInt_div, show (-1 : Int32).toInt = -1 from rfl, Int.tdiv_neg, Int.tdiv_one, Int32.toInt_neg]
  unfold irem
  rw [e, Int32.neg_mul_neg, Int32.mul_one, Int32.sub_self]
theorem E_rest {w : Wd} (I : Iv w) (v u : Int32) : Ok2 (f_X8_rest 0 v u) (f_X9_rest 96 v u) w := by
  have h := I.1
  obtain ⟨hI, hT, hSh, hSl, hW⟩ := I.2.2
  by_cases c1 : wi_ v 0 4 = 0
  · exact Ok2.q I (r := -1000000001) (by simp only [f_X8_rest, x_isSlot, bd2_s, c1, ↓reduceIte]) (by simp only [f_X9_rest, m_isSlot, bd2_s, c1, ↓reduceIte])
  obtain ⟨s, hs, rfl⟩ := wi_4 c1
  obtain ⟨th, hth, t1, t2, b1, b2, b3⟩ := hSl s hs
  have ns := nx_nI (show s < 2 ^ 31 by omega)
  have a28 : aK 11 w 113 (nI s) = true := la_113 h hs
  have a29 : aK 11 w 114 (nI s) = true := la_114 h hs
  have tne : ∀ x, x < 4 → th ≠ x → ¬ nI th = nI x := fun x hx hn q => hn (nI_inj (by omega) (by omega) q)
  by_cases d0 : th = 0
  · subst d0
    exact Ok2.q I (r := -1000000011) (by simp only [f_X8_rest, x_isSlot, lk_0 h, lr_0_0 h, bd1_s, bd2_s, lb_e, ↓reduceIte, li_k h bI1, li_r0 h bI1, li_r1 h bI1, li_r3 h bI1, li_r4 h bI1, li_k1 h bI1, c1, lr_0_7 h, lo_a h hs, ns, lo_r h hs, lo_k h hs, t1, show nI 0 = (0 : Int32) from rfl]) (by simp only [f_X9_rest, m_isSlot, lk_96 h, lr_96_0 h, bd1_s, bd2_s, lb_e, ↓reduceIte, c1, lr_96_28 h, a28, ns, t2, show nI 0 = (0 : Int32) from rfl])
  by_cases d1 : th = 3
  · subst d1
    have n1 := b3 rfl
    have t30 : ¬ (3 : Int32) = 0 := by decide
    by_cases c : u = 0
    · exact Ok2.q I (r := -1000000002) (by simp only [f_X8_rest, x_isSlot, lk_0 h, lr_0_0 h, bd1_s, bd2_s, lb_e, ↓reduceIte, li_k h bI1, li_r0 h bI1, li_r1 h bI1, li_r3 h bI1, li_r4 h bI1, li_k1 h bI1, c1, lr_0_7 h, lo_a h hs, ns, lo_r h hs, lo_k h hs, t1, show nI 3 = (3 : Int32) from rfl, t30, c]) (by simp only [f_X9_rest, m_isSlot, lk_96 h, lr_96_0 h, bd1_s, bd2_s, lb_e, ↓reduceIte, c1, lr_96_28 h, a28, ns, t2, show nI 3 = (3 : Int32) from rfl, t30, c])
    · refine Ok2.q I (r := irem (wI w 114 s) u) (by simp only [f_X8_rest, x_isSlot, lk_0 h, lr_0_0 h, bd1_s, bd2_s, lb_e, ↓reduceIte, li_k h bI1, li_r0 h bI1, li_r1 h bI1, li_r3 h bI1, li_r4 h bI1, li_k1 h bI1, c1, lr_0_7 h, lo_a h hs, ns, lo_r h hs, lo_k h hs, t1, show nI 3 = (3 : Int32) from rfl, t30, c, n1, not_false_eq_true]) ?_
      by_cases d : u = -1
      · rw [d, irem_m1]
        simp only [f_X9_rest, m_isSlot, lk_96 h, lr_96_0 h, bd1_s, bd2_s, lb_e, ↓reduceIte, c1, lr_96_28 h, a28, ns, t2, show nI 3 = (3 : Int32) from rfl, t30, show ¬ (-1 : Int32) = 0 by decide]
      · simp only [f_X9_rest, m_isSlot, lk_96 h, lr_96_0 h, bd1_s, bd2_s, lb_e, ↓reduceIte, c1, lr_96_28 h, a28, ns, t2, show nI 3 = (3 : Int32) from rfl, t30, c, d, lr_96_29 h, a29, not_false_eq_true]
  · have n0 := tne 0 (by decide) d0
    have n1 := tne 3 (by decide) d1
    rw [show nI 0 = (0 : Int32) from rfl] at n0
    rw [show nI 3 = (3 : Int32) from rfl] at n1
    exact Ok2.q I (r := -1000000012) (by simp only [f_X8_rest, x_isSlot, lk_0 h, lr_0_0 h, bd1_s, bd2_s, lb_e, ↓reduceIte, li_k h bI1, li_r0 h bI1, li_r1 h bI1, li_r3 h bI1, li_r4 h bI1, li_k1 h bI1, c1, lr_0_7 h, lo_a h hs, ns, lo_r h hs, lo_k h hs, t1, n0, n1]) (by simp only [f_X9_rest, m_isSlot, lk_96 h, lr_96_0 h, bd1_s, bd2_s, lb_e, ↓reduceIte, c1, lr_96_28 h, a28, ns, t2, n0, n1])
