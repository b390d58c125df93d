/-! THE CALLS: check -/
def A0 (a : Nat) : Prop := a = 0 ∨ Tc a
theorem A0_x {x : Nat} (h : A0 x) : x = 0 ∨ (39 ≤ x ∧ x ≤ 60) ∨ (119 ≤ x ∧ x % 3 = 1) := by
  rcases h with q | (q | q) | q
  · omega
  · omega
  · exact Or.inr (Or.inr q)
  · omega
theorem Iv.fin {w w1 w2 : Wd} (I : Iv w) (h1 : Fq A0 39 w w1) (z : ∀ j, j ≠ 9 → wI w1 0 j = wI w 0 j) (z9 : wI w1 0 9 = 0) (h2 : Fr Mc w1 w2) (m3 : wI w2 96 3 = wI w1 96 3) (m8 : wI w2 96 8 = wI w1 96 8) (m34 : wI w2 96 34 = 0) (hA : Ag (wI w 97) (wI w2 97)) : Iv w2 := by
  obtain ⟨hV, hM, hR⟩ := I.2.1
  obtain ⟨hI, hT, hSh, hSl, hW⟩ := I.2.2
  have R1 : RI w1 1 (wI w 97) := hR.fq bI39 bI1 (by decide) hV.1 h1 (fun x hx => by have := A0_x hx; omega)
  have R2' : RI w2 1 (wI w 97) := R1.fr bI1 hV.1 h2 (fun x hx => by unfold Mc at hx; omega)
  have e : ∀ a, 61 ≤ a → a < 119 → ¬ Mc a → wI w2 a = wI w a := fun a a1 a2 a3 => by rw [h2.2.2.2.2 a a3]; exact h1.2.2.2.2 a (fun q => by have := A0_x q; omega)
  have e96 : ∀ j, wI w1 96 j = wI w 96 j := fun j => by rw [h1.2.2.2.2 96 (fun q => by have := A0_x q; omega)]
  have e0 : ∀ j, wI w2 0 j = wI w1 0 j := fun j => by rw [h2.2.2.2.2 0 (by unfold Mc; omega)]
  refine ⟨h2.lay (h1.lay bI39 I.1), ⟨hA.vd hV, hA.mn hM, hA.ri hV R2'⟩, ?_, hT.cg (e 61 (by omega) (by omega) (by unfold Mc; omega)) (e 62 (by omega) (by omega) (by unfold Mc; omega)) (fun a a1 a2 => e a (by omega) (by omega) (by unfold Mc; omega)) (by rw [m8, e96]), hSh.cg (fun a ha => e a (by omega) (by omega) (by unfold Mc; omega)), hSl.cg (fun a ha => e a (by omega) (by omega) (by unfold Mc; omega)), ⟨0, by decide, by rw [e0]; exact z9, m34, fun k hk => absurd hk (Nat.not_lt_zero k)⟩⟩
  have e98 : wI w2 98 = wI w 98 := e 98 (by omega) (by omega) (by unfold Mc; omega)
  unfold Im
  rw [m3, e96, e0, z 3 (by decide), e98]
  rcases hI with q | ⟨q1, q2, q3, q4, q5⟩
  · exact Or.inl q
  · exact Or.inr ⟨q1, q2, q3, q4, (q5.fq bI39 bI20 (by decide) q3.1 h1 (fun x hx => by have := A0_x hx; omega)).fr bI20 q3.1 h2 (fun x hx => by unfold Mc at hx; omega)⟩
theorem dbl (k : Nat) : (2 : Int32) * nI k = nI (2 * k) := nI_mul 2 k
theorem nI_1s (k : Nat) : 1 + nI k = nI (k + 1) := by rw [Int32.add_comm]; exact nI_s1 k
def ckA (σ s : Nat → Int32) (T : Nat) : Nat → Nat → Int32
  | 0, k => if T ≤ 2 * k then 0 else nI (2 * k + 1)
  | m + 1, k => if T ≤ 2 * k then nI (2 * k + 1) else if s (2 * k) = tk (pasS σ (k + 1)) then (if T ≤ 2 * k + 1 then nI (2 * k + 2) else if s (2 * k + 1) = pasS σ (k + 1) 10 then ckA σ s T m (k + 1) else nI (2 * k + 2)) else nI (2 * k + 1)
theorem x_compare {w : Wd} {σ s : Nat → Int32} {T M : Nat} (h : Lay w) (hV : Vd σ) (hR : RI w 20 σ) (hT : T ≤ 60) (hM : M ≤ 30) (hs : ∀ k, k < T → wI w 67 k = s k) : ∃ w', f_X8_compare 0 (nI T) (nI M) w = some (ckA σ s T M 0, w') ∧ Fq Tc 39 w w' := by
  obtain ⟨w1, f1, R1, F1⟩ := x_become h bI39 bI20 (by decide) hV hR
  have F1' : Fq Tc 39 w w1 := F1.mono (fun a ha => Or.inl (Or.inl ha))
  have h1 := F1'.lay bI39 h
  have L : ∀ n m k (w2 : Wd), Fq Tc 39 w w2 → RI w2 39 (pasS σ k) → k + m = M → 2 * k ≤ T → m < n → ∃ w3, L_X8_compare_16 n 0 (nI T) (nI M) (nI (2 * k)) (nI k) w2 = some (ckA σ s T m k, w3) ∧ Fq Tc 39 w w3 := by
    intro n
    induction n with
    | zero => intro m k w2 _ _ _ _ g; omega
    | succ n ih =>
      intro m k w2 F2 R2' g1 g2 g3
      have h2 := F2.lay bI39 h
      unfold L_X8_compare_16
      cases m with
      | zero =>
        rw [if_pos ((nI_le' (by omega) (by omega)).mpr (by omega)), ckA]
        refine ⟨w2, ?_, F2⟩
        by_cases c : T ≤ 2 * k
        · rw [if_pos ((nI_le' (by omega) (by omega)).mpr c), if_pos c]
        · rw [if_neg (fun z => c ((nI_le' (by omega) (by omega)).mp z)), if_neg c, nI_1s]
      | succ m =>
        rw [if_neg (fun z => by have := (nI_le' (by omega) (by omega)).mp z; omega), ckA]
        obtain ⟨w3, f3, R3, F3⟩ := x_passOne h2 bI39 (pasS_ok hV k) R2'
        have R3p : RI w3 39 (pasS σ (k + 1)) := R3
        have V3p : Vd (pasS σ (k + 1)) := pasS_ok hV (k + 1)
        obtain ⟨τ, eτ⟩ : ∃ τ, τ = pasS σ (k + 1) := ⟨_, rfl⟩
        have R3' : RI w3 39 τ := by rw [eτ]; exact R3p
        have V3 : Vd τ := by rw [eτ]; exact V3p
        rw [← eτ]
        have F3' : Fq Tc 39 w w3 := F2.tr (Fq.of F3 (fun a ha => Or.inl ha))
        have h3 := F3'.lay bI39 h
        have e5 : wI w3 39 5 = τ 10 := R3'.2.1.2.2.1
        have es : wI w3 67 = wI w 67 := F3'.e97 (by omega)
        simp only [lk_0 h2, lr_0_2 h2, bd1_s, li_k h2 bI39, ↓reduceIte, f3, bd2_s]
        by_cases c : T ≤ 2 * k
        · rw [if_pos ((nI_le' (by omega) (by omega)).mpr c), if_pos c, nI_1s]
          exact ⟨w3, rfl, F3'⟩
        · rw [if_neg (fun z => c ((nI_le' (by omega) (by omega)).mp z)), if_neg c]
          simp only [lk_0 h3, lr_0_8 h3, lr_0_2 h3, bd1_s, li_k h3 bI39, ↓reduceIte, la_67 h3 (show 2 * k < 60 by omega), x_taken h3 bI39 V3.1 R3'.1, bd2_s, nx_nI (show 2 * k < 2 ^ 31 by omega), es, hs (2 * k) (by omega)]
          by_cases d : s (2 * k) = tk τ
          · simp only [if_pos d, lb_e, nI_s1]
            by_cases c' : T ≤ 2 * k + 1
            · rw [if_pos ((nI_le' (by omega) (by omega)).mpr c'), if_pos c', nI_1s]
              exact ⟨w3, rfl, F3'⟩
            · rw [if_neg (fun z => c' ((nI_le' (by omega) (by omega)).mp z)), if_neg c']
              simp only [lk_0 h3, lr_0_8 h3, lr_0_2 h3, bd1_s, li_k h3 bI39, ↓reduceIte, la_67 h3 (show 2 * k + 1 < 60 by omega), nx_nI (show 2 * k + 1 < 2 ^ 31 by omega), es, hs (2 * k + 1) (by omega), e5]
              by_cases d' : s (2 * k + 1) = τ 10
              · rw [if_pos d', if_pos d', show 2 * k + 1 + 1 = 2 * (k + 1) by omega]
                exact ih m (k + 1) w3 F3' R3p (by omega) (by omega) (by omega)
              · rw [if_neg d', if_neg d', nI_1s]
                exact ⟨w3, rfl, F3'⟩
          · rw [if_neg d, if_neg d, nI_1s]
            exact ⟨w3, rfl, F3'⟩
  obtain ⟨w3, f3, F3⟩ := L FU M 0 w1 F1' R1 (by omega) (by omega) (by unfold FU; omega)
  refine ⟨w3, ?_, F3⟩
  simp only [f_X8_compare, lk_0 h, lr_0_2 h, lr_0_1 h, bd1_s, li_k h bI39, ↓reduceIte, f1, bd2_s]
  exact f3
theorem m_check {w : Wd} {σ s τ : Nat → Int32} {T M : Nat} (h : Lay w) (hV : Vd σ) (hσ : wI w 97 = σ) (hT : T ≤ 60) (hM : M ≤ 30) (hs : wI w 118 = s) (hτ : ∀ j, j < 1444 → wI w 99 j = τ j) : ∃ w', L_X9_check_79 FU 96 (nI T) (nI (2 * M)) 0 0 w = some (ckA σ s T M 0, w') ∧ FN w w' ∧ ∀ j, j < 1444 → wI w' 97 j = τ j := by
  have E : ∀ (w1 : Wd) (c : Nat), FM w w1 → c < 100 → ∃ w', j_X9_check_180 96 (nI T) (nI (2 * M)) (nI c) w1 = some (if c = T then (if c = 2 * M then 0 else nI (c + 1)) else nI (c + 1), w') ∧ FN w w' ∧ ∀ j, j < 1444 → wI w' 97 j = τ j := by
    intro w1 c F1 hc
    have h1 := F1.1.lay h
    obtain ⟨w2, f2, c2, -, F2⟩ := m_copyAll h1 (a := 99) (b := 97) (by decide) (fun w h i hi => la_99 h hi) (fun w h i hi => la_97 h hi)
    refine ⟨w2, ?_, F1.n.tr (FN.of F2 (fun a ha => by subst ha; exact ⟨by unfold Mc; omega, by decide⟩)), fun j hj => by rw [c2 j hj, F1.1.2.2.2.2 99 (by decide)]; exact hτ j hj⟩
    simp only [j_X9_check_180, lk_96 h1, ↓reduceIte, lr_96_2 h1, lr_96_0 h1, bd1_s, f2, bd2_s, nI_1s, nI_eq' (show T < 2 ^ 31 by omega) (show c < 2 ^ 31 by omega), nI_eq' (show 2 * M < 2 ^ 31 by omega) (show c < 2 ^ 31 by omega)]
  have St : ∀ n (w1 : Wd) (k c : Nat), k ≤ 31 → c < 100 → c ≠ 2 * k → L_X9_check_79 (n + 1) 96 (nI T) (nI (2 * M)) (nI c) (nI k) w1 = j_X9_check_180 96 (nI T) (nI (2 * M)) (nI c) w1 := by
    intro n w1 k c hk hc hne
    unfold L_X9_check_79
    rw [dbl, if_neg (fun z : nI c = nI (2 * k) => hne (nI_inj (by omega) (by omega) z))]
    split <;> rfl
  have L : ∀ n m k (w1 : Wd), FM w w1 → wI w1 97 = pasS σ k → k + m = M → 2 * k ≤ T → m + 1 < n → ∃ w', L_X9_check_79 n 96 (nI T) (nI (2 * M)) (nI (2 * k)) (nI k) w1 = some (ckA σ s T m k, w') ∧ FN w w' ∧ ∀ j, j < 1444 → wI w' 97 j = τ j := by
    intro n
    induction n with
    | zero => intro m k w1 _ _ _ _ g; omega
    | succ n ih =>
      intro m k w1 F1 n1 g1 g2 g3
      have h1 := F1.1.lay h
      obtain ⟨n', rfl⟩ : ∃ n', n = n' + 1 := ⟨n - 1, by omega⟩
      unfold L_X9_check_79
      simp only [dbl]
      cases m with
      | zero =>
        rw [if_pos ((nI_le' (by omega) (by omega)).mpr (by omega)), ckA]
        obtain ⟨w2, f2, F2, q2⟩ := E w1 (2 * k) F1 (by omega)
        refine ⟨w2, ?_, F2, q2⟩
        rw [f2]
        by_cases c : T ≤ 2 * k
        · rw [if_pos (show 2 * k = T by omega), if_pos (show 2 * k = 2 * M by omega), if_pos c]
        · rw [if_neg (show ¬ 2 * k = T by omega), if_neg c]
      | succ m =>
        obtain ⟨w2, f2, n2, -, F2⟩ := m_minute h1 n1 (pasS_ok hV k)
        have n2p : wI w2 97 = pasS σ (k + 1) := n2
        have V2p : Vd (pasS σ (k + 1)) := pasS_ok hV (k + 1)
        obtain ⟨ρ, eρ⟩ : ∃ ρ, ρ = pasS σ (k + 1) := ⟨_, rfl⟩
        have n2' : wI w2 97 = ρ := by rw [eρ]; exact n2p
        have V2 : Vd ρ := by rw [eρ]; exact V2p
        have F2' := F1.tr F2
        have h2 := F2'.1.lay h
        have es : wI w2 118 = s := by rw [F2'.1.2.2.2.2 118 (by decide)]; exact hs
        have a10 : aK 11 w2 97 10 = true := la_97 h2 (show 10 < 1444 by decide)
        have Z : ∀ c, c = 2 * k ∨ c = 2 * k + 1 → ∃ w', L_X9_check_79 (n' + 1) 96 (nI T) (nI (2 * M)) (nI c) (nI (k + 1)) w2 = some (nI (c + 1), w') ∧ FN w w' ∧ ∀ j, j < 1444 → wI w' 97 j = τ j := by
          intro c hc
          obtain ⟨w3, f3, F3, q3⟩ := E w2 c F2' (by omega)
          refine ⟨w3, ?_, F3, q3⟩
          rw [St n' w2 (k + 1) c (by omega) (by omega) (by omega), f3, if_neg (show ¬ c = 2 * M by omega), ite_self]
        rw [if_neg (fun z => by have := (nI_le' (by omega) (by omega)).mp z; omega), if_pos trivial, ckA, ← eρ]
        simp only [lk_96 h1, ↓reduceIte, f2, bd2_s]
        have d1 : nI (2 * k) + 0 = nI (2 * k) := Int32.add_zero _
        have d2 : nI (2 * k + 1) + 0 = nI (2 * k + 1) := Int32.add_zero _
        have d3 : ¬ nI (2 * k) = nI (2 * k + 1) := fun z => by have := nI_inj (by omega) (by omega) z; omega
        by_cases c : T ≤ 2 * k
        · rw [if_pos ((nI_le' (by omega) (by omega)).mpr c), if_pos c]
          simp only [j_X9_check_126, j_X9_check_127, j_X9_check_170, lb_e, d1, dbl, nI_s1, d3, ↓reduceIte]
          exact Z (2 * k) (Or.inl rfl)
        · rw [if_neg (fun z => c ((nI_le' (by omega) (by omega)).mp z)), if_neg c]
          simp only [lk_96 h2, lr_96_33 h2, lr_96_0 h2, bd1_s, ↓reduceIte, la_118 h2 (show 2 * k < 60 by omega), m_taken h2 n2' V2.1, bd2_s, nx_nI (show 2 * k < 2 ^ 31 by omega), es]
          by_cases d : s (2 * k) = tk ρ
          · simp only [if_pos d, lb_e, nI_s1, ↓reduceIte]
            by_cases c' : T ≤ 2 * k + 1
            · rw [if_pos ((nI_le' (by omega) (by omega)).mpr c'), if_pos c']
              simp only [j_X9_check_170, lb_e, d2, nI_s1]
              exact Z (2 * k + 1) (Or.inr rfl)
            · rw [if_neg (fun z => c' ((nI_le' (by omega) (by omega)).mp z)), if_neg c']
              simp only [la_118 h2 (show 2 * k + 1 < 60 by omega), nx_nI (show 2 * k + 1 < 2 ^ 31 by omega), a10, show nx 10 = 10 from rfl, ↓reduceIte, n2']
              by_cases d' : s (2 * k + 1) = ρ 10
              · simp only [if_pos d', nI_s1, show 2 * k + 1 + 1 = 2 * (k + 1) by omega]
                exact ih m (k + 1) w2 F2' n2p (by omega) (by omega) (by omega)
              · simp only [if_neg d', d2]
                exact Z (2 * k + 1) (Or.inr rfl)
          · simp only [if_neg d, lb_e, d1, d3, ↓reduceIte, j_X9_check_170, nI_s1]
            exact Z (2 * k) (Or.inl rfl)
  exact L FU M 0 w (FM.rf w) hσ (by omega) (by omega) (by unfold FU; omega)
theorem E_check {w : Wd} (I : Iv w) (v : Int32) : Ok2 (f_X8_check 0 v) (f_X9_check 96 v) w := by
  have h := I.1
  obtain ⟨hV, hM, hR⟩ := I.2.1
  obtain ⟨hI, hT, hSh, hSl, T, tT, t0, t96, tw⟩ := I.2.2
  obtain ⟨wz, ewz⟩ : ∃ x, x = sI w 0 9 0 := ⟨_, rfl⟩
  have Fz : Fr (fun a => a = 0) w wz := by rw [ewz]; exact Fr.sI _ _ _ rfl
  have hz := Fz.lay h
  have z9 : wI wz 0 9 = 0 := by rw [ewz, wI_ss]
  have zn : ∀ j, j ≠ 9 → wI wz 0 j = wI w 0 j := fun j hj => by rw [ewz, wI_sn _ _ (Or.inr hj)]
  have Fz' : Fq A0 39 w wz := Fq.of Fz (fun a ha => Or.inl ha)
  have simple : ∀ (r : Int32), f_X8_check 0 v w = some (r, wz) → f_X9_check 96 v wz = some (r, sI wz 96 34 0) → Ok2 (f_X8_check 0 v) (f_X9_check 96 v) w := by
    intro r q1 q2
    refine ⟨r, wz, _, q1, hz, q2, I.fin Fz' zn z9 (Fr.sI _ _ _ (by unfold Mc; omega)) (wI_sn _ _ (Or.inr (by decide))) (wI_sn _ _ (Or.inr (by decide))) (wI_ss _ _ _ _) (fun j hj => by rw [wI_s2 _ _ _ (by decide), Fz.2.2.2.2 97 (by decide)])⟩
  have hy := (Fr.sI (A := Mc) wz 34 0 (show Mc 96 by unfold Mc; omega)).lay hz
  by_cases c1 : wi_ v 1 30 = 0
  · refine simple (-1000000001) ?_ ?_
    · simp only [f_X8_check, lk_0 h, lb_e, bd2_s, wi_X, c1, ↓reduceIte]
      rw [← ewz]
    · simp only [f_X9_check, lk_96 hz, lb_e, bd2_s, wi_M, c1, ↓reduceIte]
  have y3 : wI (sI wz 96 34 0) 96 3 = wI w 96 3 := by rw [wI_sn _ _ (Or.inr (by decide)), Fz.2.2.2.2 96 (by decide)]
  rcases hI with ⟨i1, i2⟩ | ⟨i1, i2, i3, i4, i5⟩
  · refine simple (-1000000002) ?_ ?_
    · simp only [f_X8_check, lk_0 h, lb_e, bd2_s, wi_X, c1, ↓reduceIte]
      rw [← ewz]
      simp only [lk_0 hz, zn 3 (by decide), i2, ↓reduceIte]
    · simp only [f_X9_check, lk_96 hz, lb_e, bd2_s, wi_M, c1, ↓reduceIte, lk_96 hy, y3, i1]
  obtain ⟨N, -, hN, rfl⟩ := wi_ab (v := v) (a := 1) (b := 30) (by decide) c1 (by decide)
  obtain ⟨m5, hm5, em5⟩ := i4
  obtain ⟨σ, eσ⟩ : ∃ σ : Nat → Int32, σ = fun j => if j < 1444 then wI w 98 j else wI w 97 j := ⟨_, rfl⟩
  have hAg : Ag (wI w 98) σ := fun j hj => by rw [eσ]; exact if_pos hj
  have Vσ : Vd σ := hAg.vd i3
  have Rσ : RI wz 20 σ := (hAg.ri i3 i5).fr bI20 Vσ.1 Fz (fun x hx => by subst hx; omega)
  have s5 : σ 5 = nI m5 := by rw [hAg 5 (by decide)]; exact em5
  obtain ⟨M, eM⟩ : ∃ M, M = min (9999 - m5) N := ⟨_, rfl⟩
  obtain ⟨w1, f1, F1⟩ := x_compare (s := wI w 118) hz Vσ Rσ tT (show M ≤ 30 by omega) (fun k hk => by rw [Fz.2.2.2.2 67 (by decide)]; exact tw k hk)
  have F1' : Fq A0 39 w w1 := Fz'.tr (F1.mono (fun a ha => Or.inr ha))
  have h1 := F1'.lay bI39 h
  have e1 : ∀ x, 61 ≤ x → x < 119 → wI w1 x = wI w x := fun x a b => F1'.2.2.2.2 x (fun q => by have := A0_x q; omega)
  have e0 : wI w1 0 = wI wz 0 := F1.2.2.2.2 0 (fun q => by
    rcases q with (q | q) | q
    · omega
    · have := q.1; omega
    · omega)
  obtain ⟨w2, ew2⟩ : ∃ x, x = sI w1 96 34 0 := ⟨_, rfl⟩
  have F2 : Fr (fun a => a = 96) w1 w2 := by rw [ew2]; exact Fr.sI _ _ _ rfl
  have h2 := F2.lay h1
  obtain ⟨w3, f3, c3, -, F3⟩ := m_copyAll h2 (a := 97) (b := 99) (by decide) (fun w h i hi => la_97 h hi) (fun w h i hi => la_99 h hi)
  have h3 := F3.lay h2
  obtain ⟨w4, f4, c4, d4, F4⟩ := m_copyAll h3 (a := 98) (b := 97) (by decide) (fun w h i hi => la_98 h hi) (fun w h i hi => la_97 h hi)
  have h4 := F4.lay h3
  have n4 : wI w4 97 = σ := by
    funext j
    rw [eσ]
    by_cases q : j < 1444
    · rw [c4 j q, F3.2.2.2.2 98 (by decide), F2.2.2.2.2 98 (by decide), e1 98 (by omega) (by omega)]
      exact (if_pos q).symm
    · rw [d4 j (by omega), F3.2.2.2.2 97 (by decide), F2.2.2.2.2 97 (by decide), e1 97 (by omega) (by omega)]
      exact (if_neg q).symm
  obtain ⟨w5, f5, F5, q5⟩ := m_check (τ := wI w 97) h4 Vσ n4 tT (show M ≤ 30 by omega) (s := wI w 118) (by rw [F4.2.2.2.2 118 (by decide), F3.2.2.2.2 118 (by decide), F2.2.2.2.2 118 (by decide), e1 118 (by omega) (by omega)]) (fun j hj => by rw [F4.2.2.2.2 99 (by decide), c3 j hj, F2.2.2.2.2 97 (by decide), e1 97 (by omega) (by omega)])
  have e96 : wI w4 96 = wI w2 96 := by rw [F4.2.2.2.2 96 (by decide), F3.2.2.2.2 96 (by decide)]
  have F25 : Fr Mc w1 w5 := (((F2.mono (fun a ha => by subst ha; unfold Mc; omega)).tr (F3.mono (fun a ha => by subst ha; unfold Mc; omega))).tr (F4.mono (fun a ha => by subst ha; unfold Mc; omega))).tr F5.1
  have hmin : ∀ {p : Prop} [Decidable p], (p ↔ 9999 - m5 ≤ N) → (if p then nI (9999 - m5) else nI N) = nI M := fun {p} _ q => by
    by_cases z : 9999 - m5 ≤ N
    · rw [if_pos (q.mpr z), eM, Nat.min_eq_left z]
    · rw [if_neg (fun y => z (q.mp y)), eM, Nat.min_eq_right (by omega)]
  have h99 : (9999 : Int32) - nI m5 = nI (9999 - m5) := nI_sub hm5
  refine ⟨ckA σ (wI w 118) T M 0, w1, w5, ?_, h1, ?_, I.fin F1' (fun j hj => by rw [e0]; exact zn j hj) (by rw [e0]; exact z9) F25 ?_ ?_ ?_ (fun j hj => q5 j hj)⟩
  · simp only [f_X8_check, lk_0 h, lb_e, bd2_s, wi_X, c1, ↓reduceIte]
    rw [← ewz]
    simp only [lk_0 hz, zn 3 (by decide), i2, ↓reduceIte, show ¬ (1 : Int32) = 0 by decide, lr_0_1 hz, bd1_s, li_k hz bI20, t0]
    rw [show wI wz 20 6 = σ 5 from Rσ.2.1.2.2.2.1, s5, h99]
    have : (if nI (9999 - m5) < nI N then nI (9999 - m5) else nI N) = nI M := by
      by_cases z : 9999 - m5 < N
      · rw [if_pos ((nI_lt' (by omega) (by omega)).mpr z), eM, Nat.min_eq_left (by omega)]
      · rw [if_neg (fun y => z ((nI_lt' (by omega) (by omega)).mp y)), eM, Nat.min_eq_right (by omega)]
    rw [this, f1, bd2_s]
  · have a5 : aK 11 w4 97 5 = true := la_97 h4 (show 5 < 1444 by decide)
    have i1' : wI w2 96 3 = 1 := by rw [ew2, wI_sn _ _ (Or.inr (by decide)), e1 96 (by omega) (by omega)]; exact i1
    simp only [f_X9_check, lk_96 h1, lb_e, bd2_s, wi_M, c1, ↓reduceIte]
    rw [← ew2]
    simp only [lk_96 h2, ↓reduceIte, i1', show ¬ (1 : Int32) = 0 by decide, lr_96_0 h2, lr_96_2 h2, bd1_s, f3, bd2_s, lk_96 h3, lr_96_0 h3, lr_96_1 h3, f4, lk_96 h4, lr_96_0 h4, a5, show nx 5 = 5 from rfl, n4, s5, h99, f_X9_within, lb_e]
    rw [if_pos (show (0 : Int32) ≤ nI (9999 - m5) from nI_pos' (by omega))]
    have : (if nI (9999 - m5) ≤ nI N then nI (9999 - m5) else nI N) = nI M := hmin (nI_le' (by omega) (by omega))
    rw [this, dbl, e1 96 (by omega) (by omega), t96]
    exact f5
  · rw [F5.2.1, e96, ew2, wI_sn _ _ (Or.inr (by decide))]
  · rw [F5.2.2.1, e96, ew2, wI_sn _ _ (Or.inr (by decide))]
  · rw [F5.2.2.2, e96, ew2, wI_ss]
