/-! THE CALLS: minutes, behind, fullUp -/
def Mc (a : Nat) : Prop := 96 ≤ a ∧ a < 119 ∧ a ≠ 98 ∧ ¬ (102 ≤ a ∧ a < 105) ∧ ¬ (110 ≤ a ∧ a < 117) ∧ a ≠ 118
def FN (w w' : Wd) : Prop := Fr Mc w w' ∧ wI w' 96 3 = wI w 96 3 ∧ wI w' 96 8 = wI w 96 8 ∧ wI w' 96 34 = wI w 96 34
theorem FN.rf (w : Wd) : FN w w := ⟨Fr.rf w, rfl, rfl, rfl⟩
theorem FN.tr {w w1 w2 : Wd} (h1 : FN w w1) (h2 : FN w1 w2) : FN w w2 := ⟨h1.1.tr h2.1, h2.2.1.trans h1.2.1, h2.2.2.1.trans h1.2.2.1, h2.2.2.2.trans h1.2.2.2⟩
theorem FM.n {w w1 : Wd} (h : FM w w1) : FN w w1 := ⟨h.1.mono (fun a ha => by unfold Mc; omega), h.2 3 (by decide), h.2 8 (by decide), h.2 34 (by decide)⟩
theorem FN.of {A : Nat → Prop} {w w1 : Wd} (h : Fr A w w1) (hA : ∀ a, A a → Mc a ∧ a ≠ 96) : FN w w1 := ⟨h.mono (fun a ha => (hA a ha).1), by rw [h.2.2.2.2 96 (fun q => (hA 96 q).2 rfl)], by rw [h.2.2.2.2 96 (fun q => (hA 96 q).2 rfl)], by rw [h.2.2.2.2 96 (fun q => (hA 96 q).2 rfl)]⟩
theorem RA.n {w w1 : Wd} (h : FN w w1) : RA w w1 := by
  refine ⟨fun a ha => h.1.2.2.2.2 a (fun q => by unfold Mc at q; omega), h.2.1, h.2.2.1, h.2.2.2, fun σ hV hR => hR.fr bI20 hV.1 h.1 (fun x hx => by unfold Mc at hx; exact ⟨by omega, Or.inl (by omega)⟩)⟩
theorem RI.n {w w1 : Wd} {b : Nat} {σ : Nat → Int32} (hb : bI b) (hV : Vd σ) (h : FN w w1) (hR : RI w b σ) : RI w1 b σ := hR.fr hb hV.1 h.1 (fun x hx => by have := bI_lt hb; unfold Mc at hx; exact ⟨by omega, Or.inl (by omega)⟩)
/-- the trial, the outlook, stacks -/
def Tc (a : Nat) : Prop := In_ 39 a ∨ (58 ≤ a ∧ a ≤ 60)
theorem Iv.think {w w1 w2 : Wd} (I : Iv w) (h1 : Fq Tc 39 w w1) (h2 : FN w1 w2) (h97 : wI w2 97 = wI w 97) : Iv w2 := by
  obtain ⟨hV, hM, hR⟩ := I.2.1
  have hT : ∀ x, Tc x → (39 ≤ x ∧ x ≤ 60) ∨ (119 ≤ x ∧ x % 3 = 1) := fun x hx => by
    rcases hx with (q | q) | q
    · omega
    · exact Or.inr q
    · omega
  have R1 : RI w1 1 (wI w 97) := hR.fq bI39 bI1 (by decide) hV.1 h1 (fun x hx => by have := hT x hx; omega)
  refine ⟨h2.1.lay (h1.lay bI39 I.1), ⟨by rw [h97]; exact hV, by rw [h97]; exact hM, by rw [h97]; exact RI.n bI1 hV h2 R1⟩, ?_⟩
  refine ((?_ : RA w w1).tr (RA.n h2)).rest I.2.2
  have e : ∀ a, a < 39 ∨ (61 ≤ a ∧ a < 119) → wI w1 a = wI w a := fun a ha => h1.2.2.2.2 a (fun q => by have := hT a q; omega)
  exact ⟨fun a ha => e a (by omega), by rw [e 96 (by omega)], by rw [e 96 (by omega)], by rw [e 96 (by omega)], fun σ hV hR => hR.fq bI39 bI20 (by decide) hV.1 h1 (fun x hx => by have := hT x hx; omega)⟩
theorem Fq.e97 {w w1 : Wd} (h : Fq Tc 39 w w1) {a : Nat} (ha : 61 ≤ a ∧ a < 119) : wI w1 a = wI w a := h.2.2.2.2 a (fun q => by
  rcases q with (q | q) | q
  · omega
  · have := q.1; omega
  · omega)
/-! what minutes leave alone -/
theorem seatS_hi (σ : Nat → Int32) {i p x : Nat} (hi : i < 12) (h : 72 ≤ x) : seatS σ i p x = σ x := by
  unfold seatS
  rw [upd_n _ _ (by omega), upd_n _ _ (by omega), upd_n _ _ (by omega), upd_n _ _ (by omega)]
theorem comeS_hi {σ : Nat → Int32} (hS : Sv σ) {x : Nat} (h : x = 5 ∨ 72 ≤ x) : (comeS σ).1 x = σ x := by
  have h12 := hS.c12
  unfold comeS
  cases e : fs1 σ with
  | none => rfl
  | some i =>
    have hi := fsF_ok e
    by_cases z : pl σ i = 0
    · simp only [z, ↓reduceIte]
    · simp only [z, ↓reduceIte]
      rcases h with h | h
      · subst h; rw [seatS_lo _ (by decide) (by decide), cr_n σ (by decide)]
      · rw [seatS_hi _ (by omega) h, cr_n σ (by omega)]
theorem hf2_hi {σ : Nat → Int32} (hV : Vd σ) {x : Nat} (h : x = 5 ∨ 72 ≤ x) : hf2 σ x = σ x := by
  have h12 := hV.drw.1.c12
  unfold hf2
  split
  · exact drw_n σ (by omega)
  · unfold ris
    split
    · exact drw_n σ (by omega)
    · rename_i h0
      obtain ⟨k, hk, e⟩ := ris_i hV.drw.1 h0
      rw [e, nx_nI (by omega), upd_n _ _ (by omega), drw_n _ (by omega), drw_n σ (by omega)]
theorem hfA_hi {σ : Nat → Int32} (hV : Vd σ) {x : Nat} (h : x = 5 ∨ 72 ≤ x) : hfA σ x = σ x := by
  unfold hfA
  split
  · exact drw_n σ (by omega)
  · rw [comeS_hi hV.drw.1 h, drw_n σ (by omega)]
theorem minS_hi {σ : Nat → Int32} (hV : Vd σ) {x : Nat} (h : 72 ≤ x) : minS σ x = σ x := by
  unfold minS
  rw [upd_n _ _ (by omega), hf2_hi (hfA_ok hV) (Or.inr h), hfA_hi hV (Or.inr h)]
theorem minS_5 {σ : Nat → Int32} (hV : Vd σ) : minS σ 5 = σ 5 + 1 := by
  unfold minS
  rw [upd_s, hf2_hi (hfA_ok hV) (Or.inl rfl), hfA_hi hV (Or.inl rfl)]
theorem pasS_hi {σ : Nat → Int32} (hV : Vd σ) {x : Nat} (h : 72 ≤ x) : ∀ k, pasS σ k x = σ x := by
  intro k
  induction k with
  | zero => rfl
  | succ k ih => rw [pasS, minS_hi (pasS_ok hV k) h, ih]
theorem pasS_5 {σ : Nat → Int32} (hV : Vd σ) {m : Nat} (h : σ 5 = nI m) : ∀ k, pasS σ k 5 = nI (m + k) := by
  intro k
  induction k with
  | zero => exact h
  | succ k ih => rw [pasS, minS_5 (pasS_ok hV k), ih, nI_s1]; rfl
theorem comeS_1 {σ : Nat → Int32} : (comeS σ).1 1 = σ 1 := by
  unfold comeS
  cases e : fs1 σ with
  | none => rfl
  | some i =>
    by_cases z : pl σ i = 0
    · simp only [z, ↓reduceIte]
    · simp only [z, ↓reduceIte]
      rw [seatS_lo _ (by decide) (by decide), cr_n σ (by decide)]
theorem minS_1 (σ : Nat → Int32) : minS σ 1 = σ 1 := by
  have a : hfA σ 1 = σ 1 := by
    unfold hfA
    split
    · exact drw_n σ (by decide)
    · rw [comeS_1, drw_n σ (by decide)]
  have b : ∀ σ : Nat → Int32, hf2 σ 1 = σ 1 := by
    intro σ
    unfold hf2 ris
    split
    · exact drw_n σ (by decide)
    · split
      · exact drw_n σ (by decide)
      · rw [upd_n _ _ (by omega), drw_n _ (by decide), drw_n σ (by decide)]
  unfold minS
  rw [upd_n _ _ (by decide), b, a]
theorem pasS_1 (σ : Nat → Int32) : ∀ k, pasS σ k 1 = σ 1 := by
  intro k
  induction k with
  | zero => rfl
  | succ k ih => exact (minS_1 (pasS σ k)).trans ih
theorem c_cg {σ σ' : Nat → Int32} (h : σ' 1 = σ 1) : c_ σ' = c_ σ := congrArg nx h
theorem pasS_c {σ : Nat → Int32} (k : Nat) : c_ (pasS σ k) = c_ σ := c_cg (pasS_1 σ k)
theorem E_minutes {w : Wd} (I : Iv w) (v : Int32) : Ok2 (f_X8_minutes 0 v) (f_X9_minutes 96 v) w := by
  have h := I.1
  obtain ⟨hV, ⟨mm, hmm, em⟩, hR⟩ := I.2.1
  by_cases c1 : wi_ v 1 100 = 0
  · exact Ok2.q I (r := -1000000001) (by simp only [f_X8_minutes, bd2_s, wi_X, c1, ↓reduceIte]) (by simp only [f_X9_minutes, bd2_s, wi_M, c1, ↓reduceIte])
  obtain ⟨m, m1, m2, rfl⟩ := wi_ab (v := v) (a := 1) (b := 100) (by decide) c1 (by decide)
  obtain ⟨K, hK⟩ : ∃ K, K = min m (9999 - mm) := ⟨_, rfl⟩
  have eX : (if 9999 - nI mm < nI m then 9999 - nI mm else nI m) = nI K := by
    rw [show (9999 : Int32) = nI 9999 from rfl, nI_sub hmm]
    by_cases z : 9999 - mm < m
    · rw [if_pos ((nI_lt' (by omega) (by omega)).mpr z), hK, Nat.min_eq_right (by omega)]
    · rw [if_neg (fun q => z ((nI_lt' (by omega) (by omega)).mp q)), hK, Nat.min_eq_left (by omega)]
  have eM : hld (9999 - nI mm) 0 (nI m) = nI K := by
    rw [show (9999 : Int32) = nI 9999 from rfl, nI_sub hmm]
    unfold hld
    rw [if_pos (nI_pos' (by omega))]
    by_cases z : 9999 - mm ≤ m
    · rw [if_pos ((nI_le' (by omega) (by omega)).mpr z), hK, Nat.min_eq_right z]
    · rw [if_neg (fun q => z ((nI_le' (by omega) (by omega)).mp q)), hK, Nat.min_eq_left (by omega)]
  have hK100 : K ≤ 200 := by have := Nat.min_le_left m (9999 - mm); omega
  have hKm : mm + K ≤ 9999 := by have := Nat.min_le_right m (9999 - mm); omega
  obtain ⟨w1, f1, R1, F1⟩ := x_pass h bI1 hV hR hK100
  have h1 := F1.lay h
  have e97 : wI w1 97 = wI w 97 := F1.2.2.2.2 97 (by unfold In_ Sk; omega)
  have h2 : Lay (sI w1 96 4 0) := h1.sI _ _ _
  have e97' : wI (sI w1 96 4 0) 97 = wI w 97 := by rw [wI_s2 _ _ _ (by decide)]; exact e97
  obtain ⟨w3, f3, n3, s3, F3⟩ := m_goesOn h2 e97' hV hK100
  have F2 : FM w1 (sI w1 96 4 0) := ⟨Fr.sI _ _ _ (Or.inl rfl), fun j hj => wI_sn _ _ (Or.inr hj)⟩
  have a5 : aK 11 (sI w1 96 4 0) 97 5 = true := la_97 h2 (show 5 < 1444 by decide)
  refine ⟨pasF (wI w 97) K, w1, w3, ?_, h1, ?_, I.now F1 R1 (pasS_ok hV K) ⟨mm + K, hKm, pasS_5 hV em K⟩ (F2.tr F3) n3⟩
  · simp only [f_X8_minutes, lk_0 h, lr_0_0 h, bd1_s, bd2_s, lb_e, ↓reduceIte, li_k h bI1, li_r0 h bI1, li_r1 h bI1, li_r3 h bI1, li_r4 h bI1, li_k1 h bI1, wi_X, c1, hR.2.1.2.2.2.1, em, eX, f1]
  · simp only [f_X9_minutes, bd2_s, wi_M, c1, ↓reduceIte, lk_96 h1, lb_e, lr_96_0 h2, bd1_s, a5, show nx 5 = 5 from rfl, e97', em, hld_M, eM, lk_96 h2, f3, lk_96 (F3.1.lay h2), s3, wI_ss, Int32.zero_add]
/-! thinking: what is only thought is put back -/
theorem m_thinks {w : Wd} {σ : Nat → Int32} (h : Lay w) (hσ : wI w 97 = σ) : ∃ w', f_X9_thinks 96 w = some ((), w') ∧ (∀ j, j < 72 → wI w' 101 j = σ j) ∧ Fr (fun a => a = 101) w w' := by
  have L : ∀ n k (w1 : Wd), Fr (fun a => a = 101) w w1 → (∀ j, j < k → wI w1 101 j = σ j) → k ≤ 72 → 72 - k < n → ∃ w', L_X9_thinks_2 n 96 (nI k) w1 = some ((), w') ∧ (∀ j, j < 72 → wI w' 101 j = σ j) ∧ Fr (fun a => a = 101) w w' := by
    intro n
    induction n with
    | zero => intro k w1 _ _ _ g; omega
    | succ n ih =>
      intro k w1 F1 hc hk hn
      have h1 := F1.lay h
      have e97 : wI w1 97 = σ := by rw [F1.2.2.2.2 97 (by decide)]; exact hσ
      unfold L_X9_thinks_2
      rw [show (72 : Int32) = nI 72 from rfl]
      by_cases e : k = 72
      · subst e
        rw [if_pos ((nI_le' (by decide) (by decide)).mpr (Nat.le_refl _))]
        exact ⟨w1, rfl, hc, F1⟩
      · rw [if_neg (fun z => by have := (nI_le' (by omega) (by omega)).mp z; omega)]
        simp only [lk_96 h1, lr_96_0 h1, lr_96_6 h1, bd1_s, ↓reduceIte, la_97 h1 (show k < 1444 by omega), la_101 h1 (show k < 72 by omega), lb_e, nx_nI (show k < 2 ^ 31 by omega), nI_s1, e97]
        refine ih (k + 1) _ (F1.tr (Fr.sI _ _ _ rfl)) (fun j hj => ?_) (by omega) (by omega)
        by_cases z : j = k
        · subst z; rw [wI_ss]
        · rw [wI_sn _ _ (Or.inr z)]; exact hc j (by omega)
  exact L FU 0 w (Fr.rf w) (fun j hj => absurd hj (Nat.not_lt_zero j)) (by omega) (by unfold FU; omega)
theorem m_putsBack {w : Wd} {σ : Nat → Int32} (h : Lay w) (h1 : ∀ j, j < 72 → wI w 101 j = σ j) (h2 : ∀ j, 72 ≤ j → wI w 97 j = σ j) : ∃ w', f_X9_putsBack 96 w = some ((), w') ∧ wI w' 97 = σ ∧ Fr (fun a => a = 97) w w' := by
  have L : ∀ n k (w1 : Wd), Fr (fun a => a = 97) w w1 → (∀ j, (j < k ∨ 72 ≤ j) → wI w1 97 j = σ j) → k ≤ 72 → 72 - k < n → ∃ w', L_X9_putsBack_2 n 96 (nI k) w1 = some ((), w') ∧ wI w' 97 = σ ∧ Fr (fun a => a = 97) w w' := by
    intro n
    induction n with
    | zero => intro k w1 _ _ _ g; omega
    | succ n ih =>
      intro k w1 F1 hc hk hn
      have hl := F1.lay h
      have e101 : wI w1 101 = wI w 101 := F1.2.2.2.2 101 (by decide)
      unfold L_X9_putsBack_2
      rw [show (72 : Int32) = nI 72 from rfl]
      by_cases e : k = 72
      · subst e
        rw [if_pos ((nI_le' (by decide) (by decide)).mpr (Nat.le_refl _))]
        exact ⟨w1, rfl, funext fun j => hc j (by omega), F1⟩
      · rw [if_neg (fun z => by have := (nI_le' (by omega) (by omega)).mp z; omega)]
        simp only [lk_96 hl, lr_96_0 hl, lr_96_6 hl, bd1_s, ↓reduceIte, la_97 hl (show k < 1444 by omega), la_101 hl (show k < 72 by omega), lb_e, nx_nI (show k < 2 ^ 31 by omega), nI_s1]
        rw [e101, h1 k (by omega)]
        refine ih (k + 1) _ (F1.tr (Fr.sI _ _ _ rfl)) (fun j hj => ?_) (by omega) (by omega)
        by_cases z : j = k
        · subst z; rw [wI_ss]
        · rw [wI_sn _ _ (Or.inr z)]; exact hc j (by omega)
  exact L FU 0 w (Fr.rf w) (fun j hj => h2 j (by omega)) (by omega) (by unfold FU; omega)
theorem wi_no {v : Int32} {n : Nat} (hn : n < 2 ^ 30) (h : wi_ v 0 (nI n) = 0) : v < 0 ∨ ∃ j, n < j ∧ j < 2 ^ 31 ∧ v = nI j := by
  by_cases c : v < 0
  · exact Or.inl c
  · have h0 : 0 ≤ v.toInt := by rw [lt_I, show (0 : Int32).toInt = 0 from rfl] at c; omega
    obtain ⟨j, g1, g2, g3⟩ := of_Int h0
    refine Or.inr ⟨j, ?_, g2, g3⟩
    by_cases z : n < j
    · exact z
    · have := wi_1 (v := v) (a := 0) (b := nI n) (by rw [show (0 : Int32).toInt = 0 from rfl]; omega) (by rw [nI_toInt (by omega)]; omega)
      rw [this] at h
      cases h
theorem x_trial {w : Wd} (I : Iv w) : ∃ w', f_X1_become 39 1 w = some ((), w') ∧ RI w' 39 (wI w 97) ∧ Fq Tc 39 w w' := by
  obtain ⟨w', q1, q2, q3⟩ := x_become I.1 bI39 bI1 (by decide) I.2.1.1 I.2.1.2.2
  exact ⟨w', q1, q2, q3.mono (fun a ha => Or.inl (Or.inl ha))⟩
theorem E_behind {w : Wd} (I : Iv w) (v u : Int32) : Ok2 (f_X8_behind 0 v u) (f_X9_behind 96 v u) w := by
  have h := I.1
  obtain ⟨hV, hM, hR⟩ := I.2.1
  have hS := hV.1
  have h12 := hS.c12
  by_cases c1 : wi_ v 0 100 = 0
  · exact Ok2.q I (r := -1000000001) (by simp only [f_X8_behind, bd2_s, wi_X, c1, ↓reduceIte]) (by simp only [f_X9_behind, bd2_s, wi_M, c1, ↓reduceIte])
  obtain ⟨m, -, m2, rfl⟩ := wi_ab (v := v) (a := 0) (b := 100) (by decide) c1 (by decide)
  have e2c : (2 : Int32) + nI (c_ (wI w 97)) = nI (2 + c_ (wI w 97)) := by rw [show (2 : Int32) = nI 2 from rfl, nI_add]
  by_cases c2 : wi_ u 0 (nI (2 + c_ (wI w 97))) = 0
  · refine Ok2.q I (r := -1000000001) (by simp only [f_X8_behind, lk_0 h, lr_0_0 h, bd1_s, bd2_s, lb_e, ↓reduceIte, li_k h bI1, li_r0 h bI1, li_r1 h bI1, li_r3 h bI1, li_r4 h bI1, li_k1 h bI1, wi_X, c1, hR.1.1, hS.c, e2c, c2]) ?_
    rcases wi_no (by omega) c2 with q | ⟨j, g1, g2, rfl⟩
    · simp only [f_X9_behind, bd2_s, wi_M, c1, ↓reduceIte, q]
    · have e3 : nI j - 3 = nI (j - 3) := by rw [show (3 : Int32) = nI 3 from rfl, nI_sub (by omega)]
      have hw : wi_ (nI (j - 3)) 0 (wI w 97 1 - 1) = 0 := by
        rw [hS.c]
        by_cases z : wi_ (nI (j - 3)) 0 (nI (c_ (wI w 97)) - 1) = 0
        · exact z
        · obtain ⟨k, k1, k2⟩ := wi_n (by omega) z
          have := nI_inj (by omega) (by omega) k2
          omega
      simp only [f_X9_behind, bd2_s, wi_M, c1, ↓reduceIte, nI_nlt0 g2, show ¬ nI j ≤ 2 from fun q => by (have := (nI_le' (a := j) (b := 2) (by decide) g2).mp q; omega), lk_96 h, e3, m_isSitter h rfl, hw]
  obtain ⟨j, -, hj, rfl⟩ := wi_ab (v := u) (a := 0) (b := 2 + c_ (wI w 97)) (by omega) c2 (by decide)
  obtain ⟨w1, f1, R1, F1⟩ := x_trial I
  have h1 := F1.lay bI39 h
  obtain ⟨w2, f2, R2', F2⟩ := x_pass h1 bI39 hV R1 (show m ≤ 200 by omega)
  have h2 := F2.lay h1
  have F12 : Fq Tc 39 w w2 := F1.tr (Fq.of F2 (fun a ha => Or.inl ha))
  have hV2 := pasS_ok hV m
  have e97 : wI w2 97 = wI w 97 := F12.e97 (by decide)
  obtain ⟨w3, f3, b3, F3⟩ := m_thinks h2 e97
  have h3 := F3.lay h2
  have n3 : wI w3 97 = wI w 97 := by rw [F3.2.2.2.2 97 (by decide)]; exact e97
  obtain ⟨w4, f4, n4, -, F4⟩ := m_goesOn h3 n3 hV (show m ≤ 200 by omega)
  have h4 := F4.1.lay h3
  have b4 : ∀ j, j < 72 → wI w4 101 j = wI w 97 j := fun j hj => by rw [F4.1.2.2.2.2 101 (by decide)]; exact b3 j hj
  obtain ⟨w5, f5, n5, F5⟩ := m_putsBack h4 b4 (fun j hj => by rw [n4]; exact pasS_hi hV hj m)
  have FNa : FN w2 w5 := ((FN.of F3 (fun a ha => by subst ha; exact ⟨by unfold Mc; omega, by decide⟩)).tr F4.n).tr (FN.of F5 (fun a ha => by subst ha; exact ⟨by unfold Mc; omega, by decide⟩))
  have II : Iv w5 := I.think F12 FNa n5
  have J62 : ∀ r, j_X9_behind_62 96 r w4 = some (r, w5) := fun r => by simp only [j_X9_behind_62, lk_96 h4, ↓reduceIte, f5, bd2_s]
  have hnl : ¬ nI j < 0 := nI_nlt0 (by omega)
  have X0 : f_X8_behind 0 (nI m) (nI j) w = (if nI j = 0 then some (tk (pasS (wI w 97) m), w2) else if nI j = 1 then some (pasS (wI w 97) m 10, w2) else if nI j = 2 then some (nI (sitC (pasS (wI w 97) m)), w2) else (if aK 14 w2 (39 + 2) (nI j - 3) = true then (bd1 (wR w2 (39 + 2) (nx (nI j - 3))) fun a55 => (if wK w2 a55 = 4 then some (wI w2 a55 1, w2) else none)) else none)) := by
    simp only [f_X8_behind, lk_0 h, lr_0_0 h, bd1_s, bd2_s, lb_e, ↓reduceIte, li_k h bI1, li_r0 h bI1, li_r1 h bI1, li_r3 h bI1, li_r4 h bI1, li_k1 h bI1, wi_X, c1, hR.1.1, hS.c, e2c, c2, lr_0_2 h, li_k h bI39, f1, lk_0 h1, lr_0_2 h1, li_k h1 bI39, f2, lk_0 h2, lr_0_2 h2, li_k h2 bI39, li_r1 h2 bI39, x_taken h2 bI39 hV2.1 R2'.1, R2'.2.1.2.2.1, x_seatedCount h2 bI39 hV2.1 R2'.1]
  have M0 : f_X9_behind 96 (nI m) (nI j) w2 = (if nI j ≤ 2 then j_X9_behind_32 96 (nI m) (nI j) w2 else (if wi_ (nI j - 3) 0 (wI w 97 1 - 1) = 0 then some (-1000000001, w2) else j_X9_behind_32 96 (nI m) (nI j) w2)) := by
    simp only [f_X9_behind, bd2_s, wi_M, c1, ↓reduceIte, hnl, lk_96 h2, m_isSitter h2 e97]
  have M1 : j_X9_behind_32 96 (nI m) (nI j) w2 = (if nI j ≤ 2 then some (innS (pasS (wI w 97) m) (nI j), w5) else bd2 (f_X9_of 96 (nI j - 3) 1 w4) fun r w => j_X9_behind_62 96 r w) := by
    simp only [j_X9_behind_32, lk_96 h2, ↓reduceIte, f3, bd2_s, lk_96 h3, f4, lk_96 h4, m_inn h4 n4 hV2.1, J62]
  by_cases z2 : j ≤ 2
  · have hle : nI j ≤ 2 := (nI_le' (a := j) (b := 2) (by decide) (by omega)).mpr z2
    have M : f_X9_behind 96 (nI m) (nI j) w2 = some (innS (pasS (wI w 97) m) (nI j), w5) := by rw [M0, if_pos hle, M1, if_pos hle]
    refine ⟨_, w2, w5, ?_, h2, M, II⟩
    rw [X0]
    unfold innS
    have hq : j = 0 ∨ j = 1 ∨ j = 2 := by omega
    rcases hq with rfl | rfl | rfl
    · rw [if_pos (show nI 0 = 0 from rfl), if_pos (show nI 0 = 0 from rfl)]
    · rw [if_neg (show ¬ nI 1 = 0 by decide), if_pos (show nI 1 = 1 from rfl), if_neg (show ¬ nI 1 = 0 by decide), if_pos (show nI 1 = 1 from rfl)]
    · rw [if_neg (show ¬ nI 2 = 0 by decide), if_neg (show ¬ nI 2 = 1 by decide), if_pos (show nI 2 = 2 from rfl), if_neg (show ¬ nI 2 = 0 by decide), if_neg (show ¬ nI 2 = 1 by decide), if_pos (show nI 2 = 2 from rfl)]
  · have hle : ¬ nI j ≤ 2 := fun q => z2 ((nI_le' (a := j) (b := 2) (by decide) (by omega)).mp q)
    have e3 : nI j - 3 = nI (j - 3) := by rw [show (3 : Int32) = nI 3 from rfl, nI_sub (by omega)]
    have hi : j - 3 < c_ (wI w 97) := by omega
    have hi12 : j - 3 < 12 := by omega
    have hwi : ¬ wi_ (nI j - 3) 0 (wI w 97 1 - 1) = 0 := by rw [e3, hS.c, wi_k (by omega) hi]; decide
    have o1 := m_of1 h4 hi12
    rw [n4] at o1
    have M : f_X9_behind 96 (nI m) (nI j) w2 = some (sv (pasS (wI w 97) m) (j - 3) 1, w5) := by rw [M0, if_neg hle, if_neg hwi, M1, if_neg hle, e3, o1, bd2_s, J62]
    have hc2 : c_ (pasS (wI w 97) m) = c_ (wI w 97) := pasS_c m
    refine ⟨_, w2, w5, ?_, h2, M, II⟩
    rw [X0, if_neg (fun q => by have := nI_inj (b := 0) (by omega) (by decide) q; omega), if_neg (fun q => by have := nI_inj (b := 1) (by omega) (by decide) q; omega), if_neg (fun q => by have := nI_inj (b := 2) (by omega) (by decide) q; omega), e3, li_a2 h2 bI39 hi12, if_pos rfl, nx_nI (by omega), li_s h2 bI39 hi12, bd1_s, li_sk h2 bI39 hi12, if_pos rfl, R2'.1.2.2 (j - 3) (by rw [hc2]; exact hi) 1 (by decide)]
