/-! THE CALLS: lay -/
theorem Sl.go {w w1 w2 : Wd} (hSl : Sl w) {s : Nat} (hs : s < 5) (F1 : Fr (fun a => 76 + 4 * s ≤ a ∧ a < 80 + 4 * s) w w1) (F2 : Fr (fun a => 113 ≤ a ∧ a < 117) w1 w2) (ha : ∀ i a, i ≠ s → a = 113 ∨ a = 114 ∨ a = 115 → wI w2 a i = wI w1 a i) (hb : ∀ i k, i ≠ s → k < 24 → wI w2 116 (24 * i + k) = wI w1 116 (24 * i + k)) {th : Nat} (hth : th < 4) (t1 : wI w1 (76 + 4 * s) 0 = nI th) (t2 : wI w2 113 s = nI th) (b1 : th = 1 → ∃ k, k < 6 ∧ wI w1 (77 + 4 * s) 0 = nI k ∧ wI w2 114 s = nI k ∧ wI w2 115 s = wrt (nI k) (wI w1 (77 + 4 * s) 3)) (b2 : th = 2 → ∃ n, n ≤ 24 ∧ wI w1 (78 + 4 * s) 1 = nI n ∧ wI w2 114 s = nI n ∧ ∀ k, k < 24 → wI w1 (79 + 4 * s) k = wI w2 116 (24 * s + k)) (b3 : th = 3 → wI w1 (76 + 4 * s) 3 = wI w2 114 s) : Sl w2 := by
  intro i hi
  have e : ∀ a, a < 113 → wI w2 a = wI w1 a := fun a ha => F2.2.2.2.2 a (by omega)
  by_cases z : i = s
  · subst z
    refine ⟨th, hth, ?_, t2, ?_, ?_, ?_⟩
    · rw [e _ (by omega)]; exact t1
    · rw [e _ (by omega)]; exact b1
    · rw [e (78 + 4 * i) (by omega), e (79 + 4 * i) (by omega)]; exact b2
    · rw [e _ (by omega)]; exact b3
  · have g : ∀ a, 76 + 4 * i ≤ a → a < 80 + 4 * i → wI w2 a = wI w a := fun a a1 a2 => by
      clear b1 b2 b3
      rw [e a (by omega), F1.2.2.2.2 a (by omega)]
    have g2 : ∀ a, 113 ≤ a → a < 117 → wI w1 a = wI w a := fun a a1 a2 => F1.2.2.2.2 a (by clear b1 b2 b3; omega)
    clear b1 b2 b3
    obtain ⟨t, ht, u1, u2, v1, v2, v3⟩ := hSl i hi
    refine ⟨t, ht, ?_, ?_, ?_, ?_, ?_⟩
    · rw [g _ (by omega) (by omega)]; exact u1
    · rw [ha i 113 z (by omega), g2 113 (by omega) (by omega)]; exact u2
    · rw [g _ (by omega) (by omega), ha i 114 z (by omega), ha i 115 z (by omega), g2 114 (by omega) (by omega), g2 115 (by omega) (by omega)]; exact v1
    · intro q
      obtain ⟨n, x1, x2, x3, x4⟩ := v2 q
      refine ⟨n, x1, ?_, ?_, fun k hk => ?_⟩
      · rw [g _ (by omega) (by omega)]; exact x2
      · rw [ha i 114 z (by omega), g2 114 (by omega) (by omega)]; exact x3
      · rw [g _ (by omega) (by omega), hb i k z hk, g2 116 (by omega) (by omega)]; exact x4 k hk
    · rw [g _ (by omega) (by omega), ha i 114 z (by omega), g2 114 (by omega) (by omega)]; exact v3
theorem Iv.sl {w w1 w2 : Wd} (I : Iv w) {s : Nat} (hs : s < 5) (h1 : Fr (fun a => 76 + 4 * s ≤ a ∧ a < 80 + 4 * s) w w1) (h2 : Fr (fun a => 113 ≤ a ∧ a < 117) w1 w2) (hSl : Sl w2) : Iv w2 := by
  obtain ⟨hI, hT, hSh, -, hW⟩ := I.2.2
  have e : ∀ a, ¬ (76 ≤ a ∧ a < 96) → ¬ (113 ≤ a ∧ a < 117) → wI w2 a = wI w a := fun a a1 a2 => by rw [h2.2.2.2.2 a a2, h1.2.2.2.2 a (by omega)]
  refine I.rs h1 h2 (fun a ha => by omega) (fun a ha => by omega) (by rw [h1.2.2.2.2 0 (by omega)]) (by rw [h2.2.2.2.2 96 (by omega)]) (hT.cg (e 61 (by omega) (by omega)) (e 62 (by omega) (by omega)) (fun a a1 a2 => e a (by omega) (by omega)) (by rw [e 96 (by omega) (by omega)])) (hSh.cg (fun a ha => e a (by omega) (by omega))) hSl (hW.cg (by rw [e 0 (by omega) (by omega)]) (by rw [e 96 (by omega) (by omega)]) (e 67 (by omega) (by omega)) (e 118 (by omega) (by omega)))
theorem lo_c1 {w : Wd} (h : Lay w) {s : Nat} (hs : s < 5) : wK w (79 + 4 * s) = 11 := by rcases s5 hs with e | e | e | e | e <;> subst e <;> exact h.k _ (by decide) rfl
theorem lo_cl {w : Wd} (h : Lay w) {s : Nat} (hs : s < 5) : wL w (79 + 4 * s) = 24 := by rcases s5 hs with e | e | e | e | e <;> subst e <;> exact h.l _ (by decide) rfl
/-- the reference lays a thing that is no sheet -/
theorem m_lay1 {w : Wd} (h : Lay w) {s : Nat} (hs : s < 5) {th : Nat} (hth : th < 4) (h2 : th ≠ 2) (v x y : Int32) (hx : th = 1 → f_X9_of 96 v 0 (sI w 113 s (nI th)) = some (x, sI w 113 s (nI th)) ∧ f_X9_worthOf 96 v (sI (sI w 113 s (nI th)) 114 s x) = some (y, sI (sI w 113 s (nI th)) 114 s x)) (hv : th ≠ 1 → x = v ∧ y = 0) : j_X9_lay_61 96 (nI s) (nI th) v w = some (wI w 113 s, sI (sI (sI w 113 s (nI th)) 114 s x) 115 s y) := by
  have ns := nx_nI (show s < 2 ^ 31 by omega)
  have n2 : ¬ nI th = 2 := fun q => h2 (nI_inj (b := 2) (by omega) (by omega) q)
  obtain ⟨w1, e1⟩ : ∃ x, x = sI w 113 s (nI th) := ⟨_, rfl⟩
  have h1 : Lay w1 := by rw [e1]; exact (Fr.sI (A := fun a => a = 113) _ _ _ rfl).lay h
  obtain ⟨w3, e3⟩ : ∃ z, z = sI w1 114 s x := ⟨_, rfl⟩
  have h3 : Lay w3 := by rw [e3]; exact (Fr.sI (A := fun a => a = 114) _ _ _ rfl).lay h1
  have le : ¬ (24 : Int32) ≤ 0 := by decide
  have fin : ∀ w', L_X9_lay_134 FU 96 (nI s) (nI th) v (wI w 113 s) 0 w' = some (wI w 113 s, w') := fun w' => by
    rw [show FU = (FU - 1) + 1 from rfl]
    unfold L_X9_lay_134
    rw [if_neg le, if_neg n2]
  rw [← e1] at hx ⊢
  rw [← e3] at hx ⊢
  by_cases d : th = 1
  · obtain ⟨g1, g2⟩ := hx d
    have n1 : nI th = 1 := by rw [d]; rfl
    simp only [j_X9_lay_61, lk_96 h, ↓reduceIte, lr_96_28 h, bd1_s, la_113 h hs, ns, lb_e]
    rw [← e1]
    simp only [lr_96_29 h1, bd1_s, n1, ↓reduceIte, g1, bd2_s, j_X9_lay_110, la_114 h1 hs, ns, lb_e]
    rw [← e3]
    simp only [lk_96 h3, lr_96_30 h3, bd1_s, ↓reduceIte, g2, bd2_s, j_X9_lay_130, la_115 h3 hs, ns, lb_e]
    rw [← n1]
    exact fin _
  · obtain ⟨rfl, rfl⟩ := hv d
    have n1 : ¬ nI th = 1 := fun q => d (nI_inj (b := 1) (by omega) (by omega) q)
    simp only [j_X9_lay_61, lk_96 h, ↓reduceIte, lr_96_28 h, bd1_s, la_113 h hs, ns, lb_e]
    rw [← e1]
    simp only [lr_96_29 h1, bd1_s, n1, n2, ↓reduceIte, bd2_s, j_X9_lay_110, la_114 h1 hs, ns, lb_e]
    rw [← e3]
    simp only [lk_96 h3, lr_96_30 h3, bd1_s, ↓reduceIte, j_X9_lay_130, la_115 h3 hs, ns, lb_e]
    exact fin _
theorem m_lay2 {w : Wd} (h : Lay w) {s d : Nat} (hs : s < 5) (hd : d < 4) : ∃ w', j_X9_lay_61 96 (nI s) 2 (nI d) w = some (wI w 113 s, w') ∧ Fr (fun a => 113 ≤ a ∧ a < 117) w w' ∧ wI w' 113 = upd (wI w 113) s 2 ∧ wI w' 114 = upd (wI w 114) s (wI w 111 d) ∧ wI w' 115 = upd (wI w 115) s 0 ∧ ∀ y, wI w' 116 y = if 24 * s ≤ y ∧ y < 24 * s + 24 then wI w 112 (24 * d + (y - 24 * s)) else wI w 116 y := by
  have ns := nx_nI (show s < 2 ^ 31 by omega)
  have nd := nx_nI (show d < 2 ^ 31 by omega)
  obtain ⟨w1, e1⟩ : ∃ x, x = sI w 113 s 2 := ⟨_, rfl⟩
  have F1 : Fr (fun a => 113 ≤ a ∧ a < 117) w w1 := by rw [e1]; exact Fr.sI _ _ _ (by omega)
  have h1 := F1.lay h
  obtain ⟨w2, e2⟩ : ∃ x, x = sI w1 114 s (wI w 111 d) := ⟨_, rfl⟩
  have F2 : Fr (fun a => 113 ≤ a ∧ a < 117) w1 w2 := by rw [e2]; exact Fr.sI _ _ _ (by omega)
  have h2 := F2.lay h1
  obtain ⟨w3, e3⟩ : ∃ x, x = sI w2 115 s 0 := ⟨_, rfl⟩
  have F3 : Fr (fun a => 113 ≤ a ∧ a < 117) w2 w3 := by rw [e3]; exact Fr.sI _ _ _ (by omega)
  have h3 := F3.lay h2
  have F13 := (F1.tr F2).tr F3
  have L : ∀ n k (w4 : Wd), Fr (fun a => a = 116) w3 w4 → (∀ y, wI w4 116 y = if 24 * s ≤ y ∧ y < 24 * s + k then wI w 112 (24 * d + (y - 24 * s)) else wI w 116 y) → k ≤ 24 → 24 - k < n → ∃ w5, L_X9_lay_134 n 96 (nI s) 2 (nI d) (wI w 113 s) (nI k) w4 = some (wI w 113 s, w5) ∧ Fr (fun a => a = 116) w3 w5 ∧ ∀ y, wI w5 116 y = if 24 * s ≤ y ∧ y < 24 * s + 24 then wI w 112 (24 * d + (y - 24 * s)) else wI w 116 y := by
    intro n
    induction n with
    | zero => intro k w4 _ _ _ g; omega
    | succ n ih =>
      intro k w4 F4 y4 hk g
      have h4 := F4.lay h3
      unfold L_X9_lay_134
      rw [e24, e24, show (24 : Int32) = nI 24 from rfl]
      by_cases z : k = 24
      · subst z
        rw [if_pos ((nI_le' (by omega) (by omega)).mpr (Nat.le_refl _))]
        exact ⟨w4, rfl, F4, y4⟩
      · rw [if_neg (fun y => by have := (nI_le' (by omega) (by omega)).mp y; omega)]
        simp only [lk_96 h4, ↓reduceIte, lr_96_31 h4, lr_96_27 h4, bd1_s, la_112 h4 (show 24 * d + k < 96 by omega), la_116 h4 (show 24 * s + k < 120 by omega), nx_nI (show 24 * d + k < 2 ^ 31 by omega), nx_nI (show 24 * s + k < 2 ^ 31 by omega), lb_e, nI_s1]
        refine ih (k + 1) _ (F4.tr (Fr.sI _ _ _ rfl)) (fun y => ?_) (by omega) (by omega)
        rw [wI_s1]
        by_cases e : y = 24 * s + k
        · subst e
          rw [upd_s, if_pos (by omega), F4.2.2.2.2 112 (by decide), F13.2.2.2.2 112 (by omega)]
          congr 1
          omega
        · rw [upd_n _ _ e, y4 y]
          by_cases e2 : 24 * s ≤ y ∧ y < 24 * s + k
          · rw [if_pos e2, if_pos (by omega)]
          · rw [if_neg e2, if_neg (by omega)]
  have e116 : wI w3 116 = wI w 116 := by rw [e3, wI_s2 _ _ _ (by decide), e2, wI_s2 _ _ _ (by decide), e1, wI_s2 _ _ _ (by decide)]
  obtain ⟨w5, f5, F5, y5⟩ := L FU 0 w3 (Fr.rf w3) (fun y => by rw [if_neg (by omega), e116]) (by omega) (by unfold FU; omega)
  refine ⟨w5, ?_, F13.tr (F5.mono (fun a ha => by omega)), ?_, ?_, ?_, y5⟩
  · have e111 : wI w1 111 = wI w 111 := F1.2.2.2.2 111 (by omega)
    simp only [j_X9_lay_61, lk_96 h, ↓reduceIte, lr_96_28 h, bd1_s, la_113 h hs, ns, lb_e]
    rw [← e1]
    simp only [lr_96_29 h1, lr_96_26 h1, bd1_s, show ¬ (2 : Int32) = 1 by decide, ↓reduceIte, la_111 h1 hd, nd, e111, j_X9_lay_110, la_114 h1 hs, ns, lb_e]
    rw [← e2]
    simp only [lk_96 h2, lr_96_30 h2, bd1_s, show ¬ (2 : Int32) = 1 by decide, ↓reduceIte, j_X9_lay_130, la_115 h2 hs, ns, lb_e]
    rw [← e3]
    exact f5
  · rw [F5.2.2.2.2 113 (by decide), e3, wI_s2 _ _ _ (by decide), e2, wI_s2 _ _ _ (by decide), e1, wI_s1]
  · rw [F5.2.2.2.2 114 (by decide), e3, wI_s2 _ _ _ (by decide), e2, wI_s1, e1, wI_s2 _ _ _ (by decide)]
  · rw [F5.2.2.2.2 115 (by decide), e3, wI_s1, e2, wI_s2 _ _ _ (by decide), e1, wI_s2 _ _ _ (by decide)]
theorem E_lay {w : Wd} (I : Iv w) (v u t : Int32) : Ok2 (f_X8_lay 0 v u t) (f_X9_lay 96 v u t) w := by
  have h := I.1
  obtain ⟨hV, hM, hR⟩ := I.2.1
  obtain ⟨hI, hT, hSh, hSl, hW⟩ := I.2.2
  have hS := hV.1
  have h12 := hS.c12
  by_cases c1 : wi_ v 0 4 = 0
  · exact Ok2.q I (r := -1000000001) (by simp only [f_X8_lay, x_isSlot, bd2_s, c1, ↓reduceIte]) (by simp only [f_X9_lay, m_isSlot, bd2_s, c1, ↓reduceIte])
  by_cases c2 : wi_ u 0 3 = 0
  · exact Ok2.q I (r := -1000000001) (by simp only [f_X8_lay, x_isSlot, bd2_s, c1, wi_X, c2, ↓reduceIte]) (by simp only [f_X9_lay, m_isSlot, bd2_s, c1, wi_M, c2, ↓reduceIte])
  obtain ⟨s, hs, rfl⟩ := wi_4 c1
  obtain ⟨th, hth, rfl⟩ := wi_3 c2
  have ns := nx_nI (show s < 2 ^ 31 by omega)
  obtain ⟨old, hold, o1, o2, -, -, -⟩ := hSl s hs
  obtain ⟨wa, ea⟩ : ∃ x, x = sI w (76 + 4 * s) 0 (nI th) := ⟨_, rfl⟩
  have Fa : Fr (fun a => 76 + 4 * s ≤ a ∧ a < 80 + 4 * s) w wa := by rw [ea]; exact Fr.sI _ _ _ (by omega)
  have ha := Fa.lay h
  have a0 : wI wa (76 + 4 * s) 0 = nI th := by rw [ea, wI_ss]
  /- what no sheet needs -/
  have plain : ∀ (w1 : Wd) (x y : Int32), Fr (fun a => 76 + 4 * s ≤ a ∧ a < 80 + 4 * s) w w1 → wI w1 (76 + 4 * s) 0 = nI th → th ≠ 2 → (th = 1 → ∃ k, k < 6 ∧ wI w1 (77 + 4 * s) 0 = nI k ∧ x = nI k ∧ y = wrt (nI k) (wI w1 (77 + 4 * s) 3)) → (th = 3 → wI w1 (76 + 4 * s) 3 = x) → Iv (sI (sI (sI w1 113 s (nI th)) 114 s x) 115 s y) := by
    intro w1 x y F1 t1 n2 b1 b3
    have F2 : Fr (fun a => 113 ≤ a ∧ a < 117) w1 (sI (sI (sI w1 113 s (nI th)) 114 s x) 115 s y) := ((Fr.sI (A := fun a => 113 ≤ a ∧ a < 117) _ _ _ (by omega)).tr (Fr.sI _ _ _ (by omega))).tr (Fr.sI _ _ _ (by omega))
    have e113 : wI (sI (sI (sI w1 113 s (nI th)) 114 s x) 115 s y) 113 = upd (wI w1 113) s (nI th) := by rw [wI_s2 _ _ _ (by decide), wI_s2 _ _ _ (by decide), wI_s1]
    have e114 : wI (sI (sI (sI w1 113 s (nI th)) 114 s x) 115 s y) 114 = upd (wI w1 114) s x := by rw [wI_s2 _ _ _ (by decide), wI_s1, wI_s2 _ _ _ (by decide)]
    have e115 : wI (sI (sI (sI w1 113 s (nI th)) 114 s x) 115 s y) 115 = upd (wI w1 115) s y := by rw [wI_s1, wI_s2 _ _ _ (by decide), wI_s2 _ _ _ (by decide)]
    have e116 : wI (sI (sI (sI w1 113 s (nI th)) 114 s x) 115 s y) 116 = wI w1 116 := by rw [wI_s2 _ _ _ (by decide), wI_s2 _ _ _ (by decide), wI_s2 _ _ _ (by decide)]
    refine I.sl hs F1 F2 (hSl.go hs F1 F2 (fun i a hi q => ?_) (fun i k _ _ => by rw [e116]) hth t1 (by rw [e113, upd_s]) (fun q => ?_) (fun q => absurd q n2) (fun q => by rw [e114, upd_s]; exact b3 q))
    · rcases q with q | q | q <;> subst q
      · rw [e113, upd_n _ _ hi]
      · rw [e114, upd_n _ _ hi]
      · rw [e115, upd_n _ _ hi]
    · obtain ⟨k, k1, k2, k3, k4⟩ := b1 q
      exact ⟨k, k1, k2, by rw [e114, upd_s]; exact k3, by rw [e115, upd_s]; exact k4⟩
  have old' : ∀ w1, Fr (fun a => 76 + 4 * s ≤ a ∧ a < 80 + 4 * s) w w1 → wI w1 113 s = nI old := fun w1 F1 => by rw [F1.2.2.2.2 113 (by omega)]; exact o2
  by_cases d1 : th = 1
  · subst d1
    have n1 : nI 1 = (1 : Int32) := rfl
    have c2' : ¬ wi_ (1 : Int32) 0 3 = 0 := c2
    by_cases c3 : wi_ t 0 (wI w 97 1 - 1) = 0
    · refine Ok2.q I (r := -1000000001) ?_ ?_
      · simp only [f_X8_lay, x_isSlot, bd2_s, c1, wi_X, c2', n1, ↓reduceIte, lk_0 h, x_isSitter I, c3]
      · simp only [f_X9_lay, m_isSlot, bd2_s, c1, wi_M, c2', n1, ↓reduceIte, lk_96 h, m_isSitter h rfl, c3]
    have c3' := c3
    rw [hS.c] at c3
    obtain ⟨i, hi, rfl⟩ := wi_n (by omega) c3
    have hi12 : i < 12 := by omega
    obtain ⟨⟨kk, hkk, ek⟩, -⟩ := hS.2.2.2.2 i hi
    have f0 := (hR.1.2.2 i hi 0 (by decide)).trans ek
    have f3 : wI w (1 + 7 + i) 3 = sv (wI w 97) i 3 := hR.1.2.2 i hi 3 (by decide)
    have fa : ∀ a, a < 76 → wI wa a = wI w a := fun a q => Fa.2.2.2.2 a (by omega)
    obtain ⟨w1, e1⟩ : ∃ x, x = sI (sI (sI (sI wa (77 + 4 * s) 0 (nI kk)) (77 + 4 * s) 1 (wI wa (1 + 7 + i) 1)) (77 + 4 * s) 2 (wI wa (1 + 7 + i) 2)) (77 + 4 * s) 3 (sv (wI w 97) i 3) := ⟨_, rfl⟩
    have F1' : Fr (fun a => a = 77 + 4 * s) wa w1 := by rw [e1]; exact (((Fr.sI (A := fun a => a = 77 + 4 * s) _ _ _ rfl).tr (Fr.sI _ _ _ rfl)).tr (Fr.sI _ _ _ rfl)).tr (Fr.sI _ _ _ rfl)
    have F1 : Fr (fun a => 76 + 4 * s ≤ a ∧ a < 80 + 4 * s) w w1 := Fa.tr (F1'.mono (fun a q => by omega))
    have h1 := F1.lay h
    have e97 : wI w1 97 = wI w 97 := F1.2.2.2.2 97 (by omega)
    refine ⟨nI old, w1, _, ?_, h1, ?_, plain w1 (nI kk) (wrt (nI kk) (sv (wI w 97) i 3)) F1 (by rw [F1'.2.2.2.2 _ (by omega)]; exact a0) (by decide) (fun _ => ⟨kk, hkk, ?_, rfl, ?_⟩) (fun q => absurd q (by decide))⟩
    · simp only [f_X8_lay, x_isSlot, bd2_s, c1, wi_X, c2', n1, ↓reduceIte, lk_0 h, x_isSitter I, c3', j_X8_lay_35, show ¬ (1 : Int32) = 2 by decide, j_X8_lay_54, lr_0_7 h, bd1_s, lo_a h hs, ns, lo_r h hs, lo_k h hs, lb_e, o1]
      rw [← n1, ← ea]
      have s2 : ∀ x y z, wI (sI wa (77 + 4 * s) x y) (1 + 7 + i) z = wI wa (1 + 7 + i) z := fun x y z => by rw [wI_s2 _ _ _ (by omega)]
      have s3 : ∀ (ww : Wd) x y z, wI (sI ww (77 + 4 * s) x y) (1 + 7 + i) z = wI ww (1 + 7 + i) z := fun ww x y z => by rw [wI_s2 _ _ _ (by omega)]
      simp only [n1, ↓reduceIte, lo_1 ha hs, bd1_s, lr_0_0 ha, li_k ha bI1, li_r1 ha bI1, li_a2 ha bI1 hi12, nx_nI (show i < 2 ^ 31 by omega), li_s ha bI1 hi12, lo_k4 ha hs, f_X4_become, li_sk ha bI1 hi12, lb_e, s3, fa _ (show 1 + 7 + i < 76 by omega), f0, f3, bd2_s]
      rw [← fa _ (show 1 + 7 + i < 76 by omega), ← e1]
    · have q0 : f_X9_of 96 (nI i) 0 (sI w1 113 s (nI 1)) = some (nI kk, sI w1 113 s (nI 1)) := by
        rw [m_of0 ((Fr.sI (A := fun a => a = 113) _ _ _ rfl).lay h1) hi12, wI_s2 _ _ _ (by decide), e97, ek]
      have q3 : f_X9_worthOf 96 (nI i) (sI (sI w1 113 s (nI 1)) 114 s (nI kk)) = some (wrt (nI kk) (sv (wI w 97) i 3), sI (sI w1 113 s (nI 1)) 114 s (nI kk)) := by
        rw [m_worthOf ((Fr.sI (A := fun a => a = 114) _ _ _ rfl).lay ((Fr.sI (A := fun a => a = 113) _ _ _ rfl).lay h1)) hi12, wI_s2 _ _ _ (by decide), wI_s2 _ _ _ (by decide), e97, ek]
      have := m_lay1 h1 hs (th := 1) (by decide) (by decide) (nI i) (nI kk) (wrt (nI kk) (sv (wI w 97) i 3)) (fun _ => ⟨q0, q3⟩) (fun q => absurd rfl q)
      rw [old' w1 F1, n1] at this
      simp only [f_X9_lay, m_isSlot, bd2_s, c1, wi_M, c2', n1, ↓reduceIte, lk_96 h1, m_isSitter h1 e97, c3', j_X9_lay_29, j_X9_lay_44, show ¬ (1 : Int32) = 2 by decide]
      exact this
    · rw [e1, wI_sn _ _ (Or.inr (by decide)), wI_sn _ _ (Or.inr (by decide)), wI_sn _ _ (Or.inr (by decide)), wI_ss]
    · rw [e1, wI_ss]
  by_cases d2 : th = 2
  · subst d2
    have n2 : nI 2 = (2 : Int32) := rfl
    have c2' : ¬ wi_ (2 : Int32) 0 3 = 0 := c2
    have n21 : ¬ (2 : Int32) = 1 := by decide
    by_cases c3 : wi_ t 0 3 = 0
    · refine Ok2.q I (r := -1000000001) ?_ ?_
      · simp only [f_X8_lay, x_isSlot, bd2_s, c1, wi_X, c2', n2, n21, ↓reduceIte, j_X8_lay_35, lk_0 h, f_X8_refusalOf, x_isSheet, c3, show ¬ (-1000000001 : Int32) = 0 by decide]
      · simp only [f_X9_lay, m_isSlot, bd2_s, c1, wi_M, c2', n2, n21, ↓reduceIte, j_X9_lay_29, m_isSheet, c3]
    obtain ⟨d, hd, rfl⟩ := wi_3 c3
    have nd := nx_nI (show d < 2 ^ 31 by omega)
    obtain ⟨q, nn, hq, hn, q1, q2, k1, k2, hc⟩ := hSh d hd
    by_cases c4 : q = -1
    · refine Ok2.q I (r := -1000000011) ?_ ?_
      · simp only [f_X8_lay, x_isSlot, bd2_s, c1, wi_X, c2', n2, n21, ↓reduceIte, j_X8_lay_35, lk_0 h, x_ref h hd c3, q1, c4, show ¬ (-1000000011 : Int32) = 0 by decide]
      · simp only [f_X9_lay, m_isSlot, bd2_s, c1, wi_M, c2', n2, n21, ↓reduceIte, j_X9_lay_29, m_isSheet, c3, j_X9_lay_44, lk_96 h, lr_96_25 h, bd1_s, la_110 h hd, nd, q2, c4, show ¬ (0 : Int32) ≤ -1 by decide]
    have q0 : (0 : Int32) ≤ q := by
      rcases hq with e | e | e
      · exact absurd e c4
      · subst e; decide
      · subst e; decide
    have fa : ∀ a, a < 76 → wI wa a = wI w a := fun a q => Fa.2.2.2.2 a (by omega)
    obtain ⟨wb, eb⟩ : ∃ x, x = sI (sI wa (78 + 4 * s) 0 q) (78 + 4 * s) 1 (nI nn) := ⟨_, rfl⟩
    have Fb : Fr (fun a => a = 78 + 4 * s) wa wb := by rw [eb]; exact (Fr.sI (A := fun a => a = 78 + 4 * s) _ _ _ rfl).tr (Fr.sI _ _ _ rfl)
    have hb := Fb.lay ha
    obtain ⟨w1, e1⟩ : ∃ x, x = cp_W wb (69 + 2 * d) 0 (79 + 4 * s) 0 (nI 24) := ⟨_, rfl⟩
    have Fc : Fr (fun a => a = 79 + 4 * s) wb w1 := by rw [e1]; exact Fr.cp _ _ _ _ rfl
    have F1 : Fr (fun a => 76 + 4 * s ≤ a ∧ a < 80 + 4 * s) w w1 := (Fa.tr (Fb.mono (fun a q => by omega))).tr (Fc.mono (fun a q => by omega))
    have h1 := F1.lay h
    obtain ⟨w2, f2, F2, y3, y4, y5, y6⟩ := m_lay2 h1 hs hd
    refine ⟨nI old, w1, w2, ?_, h1, ?_, I.sl hs F1 F2 (hSl.go hs F1 F2 (fun i a hi q => ?_) (fun i k hi hk => ?_) (th := 2) (by decide) ?_ ?_ (fun q => absurd q (by decide)) (fun _ => ⟨nn, hn, ?_, ?_, fun k hk => ?_⟩) (fun q => absurd q (by decide)))⟩
    · have g0 : wI wa (68 + 2 * d) 0 = q := by rw [fa _ (by omega)]; exact q1
      have g1 : wI (sI wa (78 + 4 * s) 0 q) (68 + 2 * d) 1 = nI nn := by rw [wI_s2 _ _ _ (by omega), fa _ (by omega)]; exact k1
      have cy : cp_ok wb (69 + 2 * d) 0 (79 + 4 * s) 0 (nI 24) = true := cp_y (m := 24) (ls_c1 hb hd) (lo_c1 hb hs) (ls_cl hb hd) (lo_cl hb hs) (by decide) (by decide)
      simp only [f_X8_lay, x_isSlot, bd2_s, c1, wi_X, c2', n2, n21, ↓reduceIte, j_X8_lay_35, lk_0 h, x_ref h hd c3, q1, c4, j_X8_lay_54, lr_0_7 h, bd1_s, lo_a h hs, ns, lo_r h hs, lo_k h hs, lb_e, o1]
      rw [← n2, ← ea]
      simp only [n2, n21, ↓reduceIte, lo_2 ha hs, bd1_s, lr_0_6 ha, ls_a ha hd, nd, ls_r ha hd, lo_k3 ha hs, f_X3_become, ls_k ha hd, lb_e, g0, g1]
      rw [← eb]
      simp only [ls_2 hb hd, lo_22 hb hs, bd1_s]
      rw [show (24 : Int32) = nI 24 from rfl, if_pos cy, bd2_s, ← e1]
    · have e110 : wI w1 110 = wI w 110 := F1.2.2.2.2 110 (by omega)
      rw [old' w1 F1] at f2
      simp only [f_X9_lay, m_isSlot, bd2_s, c1, wi_M, c2', n2, n21, ↓reduceIte, j_X9_lay_29, m_isSheet, c3, j_X9_lay_44, lk_96 h1, lr_96_25 h1, bd1_s, la_110 h1 hd, nd, e110, q2, q0]
      exact f2
    · rcases q with q | q | q <;> subst q
      · rw [y3, upd_n _ _ hi]
      · rw [y4, upd_n _ _ hi]
      · rw [y5, upd_n _ _ hi]
    · rw [y6, if_neg (by omega)]
    · rw [Fc.2.2.2.2 _ (by omega), Fb.2.2.2.2 _ (by omega)]; exact a0
    · rw [y3, upd_s]; rfl
    · rw [Fc.2.2.2.2 _ (by omega), eb, wI_ss]
    · rw [y4, upd_s, F1.2.2.2.2 111 (by omega)]; exact k2
    · rw [e1, cp_at _ _ _ (by decide) hk, Fb.2.2.2.2 _ (by omega), fa _ (by omega), hc k hk, y6, if_pos (by omega), F1.2.2.2.2 112 (by omega)]
      congr 1
      omega
  · have n1 : ¬ nI th = 1 := fun q => d1 (nI_inj (b := 1) (by omega) (by omega) q)
    have n2 : ¬ nI th = 2 := fun q => d2 (nI_inj (b := 2) (by omega) (by omega) q)
    obtain ⟨w1, e1⟩ : ∃ x, x = sI wa (76 + 4 * s) 3 t := ⟨_, rfl⟩
    have F1 : Fr (fun a => 76 + 4 * s ≤ a ∧ a < 80 + 4 * s) w w1 := by rw [e1]; exact Fa.tr (Fr.sI _ _ _ (by omega))
    have h1 := F1.lay h
    refine ⟨nI old, w1, _, ?_, h1, ?_, plain w1 t 0 F1 (by rw [e1, wI_sn _ _ (Or.inr (by decide))]; exact a0) d2 (fun q => absurd q d1) (fun _ => by rw [e1, wI_ss])⟩
    · simp only [f_X8_lay, x_isSlot, bd2_s, c1, wi_X, c2, n1, n2, ↓reduceIte, j_X8_lay_35, j_X8_lay_54, lk_0 h, lr_0_7 h, bd1_s, lo_a h hs, ns, lo_r h hs, lo_k h hs, lb_e, o1]
      rw [← ea, ← e1]
    · have := m_lay1 h1 hs hth d2 t t 0 (fun q => absurd q d1) (fun _ => ⟨rfl, rfl⟩)
      rw [old' w1 F1] at this
      simp only [f_X9_lay, m_isSlot, bd2_s, c1, wi_M, c2, n1, n2, ↓reduceIte, j_X9_lay_29, j_X9_lay_44]
      exact this
