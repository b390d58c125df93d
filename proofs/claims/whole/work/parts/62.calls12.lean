/-! THE CALLS: mark, pour -/
theorem Sh.put {w : Wd} (hSh : Sh w) {s k : Nat} (hs : s < 4) (hk : k < 24) (x : Int32) : Sh (sI (sI w (69 + 2 * s) k x) 112 (24 * s + k) x) := by
  intro i hi
  obtain ⟨q, nn, hq, hnn, q1, q2, q3, q4, q5⟩ := hSh i hi
  have e : ∀ a, a ≠ 69 + 2 * s → a ≠ 112 → wI (sI (sI w (69 + 2 * s) k x) 112 (24 * s + k) x) a = wI w a := fun a a1 a2 => by rw [wI_s2 _ _ _ a2, wI_s2 _ _ _ a1]
  refine ⟨q, nn, hq, hnn, ?_, ?_, ?_, ?_, fun j hj => ?_⟩
  · rw [e _ (by omega) (by omega)]; exact q1
  · rw [e _ (by omega) (by omega)]; exact q2
  · rw [e _ (by omega) (by omega)]; exact q3
  · rw [e _ (by omega) (by omega)]; exact q4
  · rw [wI_s2 _ _ _ (show 69 + 2 * i ≠ 112 by omega)]
    by_cases z : i = s
    · subst z
      rw [wI_s1, wI_s1, wI_s2 _ _ _ (show 112 ≠ 69 + 2 * i by omega)]
      by_cases y : j = k
      · subst y; rw [upd_s, upd_s]
      · rw [upd_n _ _ y, upd_n _ _ (by omega)]; exact q5 j hj
    · rw [wI_s2 _ _ _ (show 69 + 2 * i ≠ 69 + 2 * s by omega), wI_s1, wI_s2 _ _ _ (show 112 ≠ 69 + 2 * s by omega), upd_n _ _ (by omega)]
      exact q5 j hj
theorem E_mark {w : Wd} (I : Iv w) (v u t : Int32) : Ok2 (f_X8_mark 0 v u t) (f_X9_mark 96 v u t) w := by
  have h := I.1
  obtain ⟨hI, hT, hSh, hSl, hW⟩ := I.2.2
  by_cases c1 : wi_ v 0 3 = 0
  · exact Ok2.q I (r := -1000000001) (by simp only [f_X8_mark, f_X8_refusalOf, lk_0 h, x_isSheet, bd2_s, c1, ↓reduceIte, show ¬ (-1000000001 : Int32) = 0 by decide]) (by simp only [f_X9_mark, m_isSheet, bd2_s, c1, ↓reduceIte])
  obtain ⟨s, hs, rfl⟩ := wi_3 c1
  obtain ⟨q, nn, hq, hn, q1, q2, n1, n2, hc⟩ := hSh s hs
  have a25 : aK 11 w 110 (nI s) = true := la_110 h hs
  have a26 : aK 11 w 111 (nI s) = true := la_111 h hs
  have ns := nx_nI (show s < 2 ^ 31 by omega)
  by_cases c2 : q = -1
  · refine Ok2.q I (r := -1000000011) ?_ ?_
    · simp only [f_X8_mark, lk_0 h, ↓reduceIte, x_ref h hs c1, bd2_s, q1, c2, show ¬ (-1000000011 : Int32) = 0 by decide]
    · simp only [f_X9_mark, m_isSheet, bd2_s, c1, ↓reduceIte, lk_96 h, lr_96_25 h, bd1_s, a25, ns, q2, c2, show ¬ (0 : Int32) ≤ -1 by decide]
  have hq' : q = 0 ∨ q = 1 := by
    rcases hq with e | e
    · exact absurd e c2
    · exact e
  have q0 : (0 : Int32) ≤ q := by rcases hq' with e | e <;> subst e <;> decide
  by_cases c3 : wi_ u 0 (nI nn - 1) = 0
  · refine Ok2.q I (r := -1000000013) ?_ ?_
    · simp only [f_X8_mark, lk_0 h, ↓reduceIte, x_ref h hs c1, bd2_s, q1, c2, lr_0_6 h, bd1_s, ls_a h hs, ns, ls_r h hs, ls_k h hs, f_X3_hasPlace, wi_X, wi_z, n1, c3]
    · simp only [f_X9_mark, m_isSheet, bd2_s, c1, ↓reduceIte, lk_96 h, lr_96_25 h, lr_96_26 h, bd1_s, a25, a26, ns, q2, q0, n2, wi_M, c3]
  obtain ⟨k, hk, rfl⟩ := wi_n (by omega) c3
  have nk := nx_nI (show k < 2 ^ 31 by omega)
  have ac := ls_c h hs (show k < 24 by omega)
  have fin : ∀ x : Int32, f_X8_mark 0 (nI s) (nI k) t w = some (1, sI w (69 + 2 * s) k x) → (Lay (sI w (69 + 2 * s) k x) → wI (sI w (69 + 2 * s) k x) 110 = wI w 110 → wI (sI w (69 + 2 * s) k x) 111 = wI w 111 → f_X9_mark 96 (nI s) (nI k) t (sI w (69 + 2 * s) k x) = some (1, sI (sI w (69 + 2 * s) k x) 112 (24 * s + k) x)) → Ok2 (f_X8_mark 0 (nI s) (nI k) t) (f_X9_mark 96 (nI s) (nI k) t) w := by
    intro x g1 g2
    have F1 : Fr (fun a => 68 ≤ a ∧ a < 76) w (sI w (69 + 2 * s) k x) := Fr.sI _ _ _ (by omega)
    have h1 := F1.lay h
    exact ⟨1, _, _, g1, h1, g2 h1 (wI_s2 _ _ _ (by omega)) (wI_s2 _ _ _ (by omega)), I.sh F1 (Fr.sI _ _ _ (by omega)) (hSh.put hs (by omega) x)⟩
  rcases hq' with e | e
  · subst e
    by_cases c4 : t = -1000000005
    · refine Ok2.q I (r := -1000000012) ?_ ?_
      · simp only [f_X8_mark, lk_0 h, ↓reduceIte, x_ref h hs c1, bd2_s, q1, c2, lr_0_6 h, bd1_s, ls_a h hs, ns, ls_r h hs, ls_k h hs, f_X3_hasPlace, wi_X, wi_z, n1, c3, c4]
      · simp only [f_X9_mark, m_isSheet, bd2_s, c1, ↓reduceIte, lk_96 h, lr_96_25 h, lr_96_26 h, bd1_s, a25, a26, ns, q2, q0, n2, wi_M, c3, c4]
    · refine fin (Int16.toInt32 (Int32.toInt16 t)) ?_ (fun h1 e110 e111 => ?_)
      · simp only [f_X8_mark, lk_0 h, ↓reduceIte, x_ref h hs c1, bd2_s, q1, c2, lr_0_6 h, bd1_s, ls_a h hs, ns, ls_r h hs, ls_k h hs, f_X3_hasPlace, wi_X, wi_z, n1, c3, c4, ls_2 h hs, ac, nk, lb_e]
      · simp only [f_X9_mark, j_X9_mark_60, j_X9_mark_92, j_X9_mark_117, m_isSheet, bd2_s, c1, ↓reduceIte, lk_96 h1, lr_96_25 h1, lr_96_26 h1, lr_96_27 h1, bd1_s, la_110 h1 hs, la_111 h1 hs, ns, e110, e111, q2, q0, n2, wi_M, c3, c4, show ¬ (0 : Int32) = 1 by decide, e24, la_112 h1 (show 24 * s + k < 96 by omega), nx_nI (show 24 * s + k < 2 ^ 31 by omega), lb_e]
  · subst e
    by_cases c4 : t = -1000000005
    · subst c4
      refine fin (-1000000005) ?_ (fun h1 e110 e111 => ?_)
      · simp only [f_X8_mark, j_X8_mark_86, lk_0 h, ↓reduceIte, x_ref h hs c1, bd2_s, q1, c2, lr_0_6 h, bd1_s, ls_a h hs, ns, ls_r h hs, ls_k h hs, f_X3_hasPlace, wi_X, wi_z, n1, c3, show ¬ (1 : Int32) = 0 by decide, ls_2 h hs, ac, nk, lb_e]
      · simp only [f_X9_mark, j_X9_mark_60, j_X9_mark_92, j_X9_mark_117, m_isSheet, bd2_s, c1, ↓reduceIte, lk_96 h1, lr_96_25 h1, lr_96_26 h1, lr_96_27 h1, bd1_s, la_110 h1 hs, la_111 h1 hs, ns, e110, e111, q2, q0, n2, wi_M, c3, show ¬ (1 : Int32) = 0 by decide, e24, la_112 h1 (show 24 * s + k < 96 by omega), nx_nI (show 24 * s + k < 2 ^ 31 by omega), lb_e]
    · by_cases c5 : wi_ t (-99999) 99999 = 0
      · refine Ok2.q I (r := -1000000001) ?_ ?_
        · simp only [f_X8_mark, lk_0 h, ↓reduceIte, x_ref h hs c1, bd2_s, q1, c2, lr_0_6 h, bd1_s, ls_a h hs, ns, ls_r h hs, ls_k h hs, f_X3_hasPlace, wi_X, wi_z, n1, c3, c4, show ¬ (1 : Int32) = 0 by decide, c5]
        · simp only [f_X9_mark, j_X9_mark_60, m_isSheet, bd2_s, c1, ↓reduceIte, lk_96 h, lr_96_25 h, lr_96_26 h, bd1_s, a25, a26, ns, q2, q0, n2, wi_M, c3, c4, show ¬ (1 : Int32) = 0 by decide, c5]
      · refine fin t ?_ (fun h1 e110 e111 => ?_)
        · simp only [f_X8_mark, j_X8_mark_86, lk_0 h, ↓reduceIte, x_ref h hs c1, bd2_s, q1, c2, lr_0_6 h, bd1_s, ls_a h hs, ns, ls_r h hs, ls_k h hs, f_X3_hasPlace, wi_X, wi_z, n1, c3, c4, show ¬ (1 : Int32) = 0 by decide, c5, ls_2 h hs, ac, nk, lb_e]
        · simp only [f_X9_mark, j_X9_mark_60, j_X9_mark_92, j_X9_mark_117, m_isSheet, bd2_s, c1, ↓reduceIte, lk_96 h1, lr_96_25 h1, lr_96_26 h1, lr_96_27 h1, bd1_s, la_110 h1 hs, la_111 h1 hs, ns, e110, e111, q2, q0, n2, wi_M, c3, c4, show ¬ (1 : Int32) = 0 by decide, c5, e24, la_112 h1 (show 24 * s + k < 96 by omega), nx_nI (show 24 * s + k < 2 ^ 31 by omega), lb_e]
theorem hld_99 (x : Int32) : ∃ q, q ≤ 99 ∧ hld x 0 99 = nI q := by
  unfold hld
  by_cases c : (0 : Int32) ≤ x
  · obtain ⟨n, hn, rfl⟩ := nI_of (fun y : x < 0 => by rw [lt_I] at y; rw [le_I] at c; omega)
    rw [if_pos c]
    by_cases d : nI n ≤ (99 : Int32)
    · rw [if_pos d]
      exact ⟨n, (nI_le' (b := 99) (by omega) (by omega)).mp d, rfl⟩
    · rw [if_neg d]
      exact ⟨99, by decide, rfl⟩
  · rw [if_neg c]
    exact ⟨0, by decide, rfl⟩
def po (c τ : Nat → Int32) (k : Nat) : Nat → Int32 := if c k = -1000000005 then τ else upd τ (12 + k) (hld (c k) 0 99)
def poS (c : Nat → Int32) : Nat → Nat → (Nat → Int32) → Nat → Int32
  | 0, _, τ => τ
  | m + 1, k, τ => poS c m (k + 1) (po c τ k)
def poC (c : Nat → Int32) : Nat → Nat → (Nat → Int32) → Int32 → Int32
  | 0, _, _, y => y
  | m + 1, k, τ, y => poC c m (k + 1) (po c τ k) (if c k = -1000000005 then y else if hld (c k) 0 99 = τ (12 + k) then y else y + 1)
theorem po_ok {c τ : Nat → Int32} {k : Nat} (hk : k < 12) (hV : Vd τ) (hM : Mn τ) : Vd (po c τ k) ∧ Mn (po c τ k) ∧ n_ (po c τ k) = n_ τ := by
  unfold po
  by_cases d : c k = -1000000005
  · rw [if_pos d]; exact ⟨hV, hM, rfl⟩
  · rw [if_neg d]
    obtain ⟨q, hq, e⟩ := hld_99 (c k)
    rw [e]
    exact ⟨hV.cu (Or.inr ⟨by omega, by omega⟩) hq, hM.upd _ (by omega), n_upd _ (by omega)⟩
theorem upd_id (σ : Nat → Int32) (j : Nat) : upd σ j (σ j) = σ := by
  funext x
  by_cases z : x = j
  · subst z; rw [upd_s]
  · rw [upd_n _ _ z]
theorem E_pour {w : Wd} (I : Iv w) (v : Int32) : Ok2 (f_X8_pour 0 v) (f_X9_pour 96 v) w := by
  have h := I.1
  obtain ⟨hV, hM, hR⟩ := I.2.1
  obtain ⟨hI, hT, hSh, hSl, hW⟩ := I.2.2
  by_cases c1 : wi_ v 0 3 = 0
  · exact Ok2.q I (r := -1000000001) (by simp only [f_X8_pour, f_X8_refusalOf, lk_0 h, x_isSheet, bd2_s, c1, ↓reduceIte, show ¬ (-1000000001 : Int32) = 0 by decide]) (by simp only [f_X9_pour, m_isSheet, bd2_s, c1, ↓reduceIte])
  obtain ⟨s, hs, rfl⟩ := wi_3 c1
  obtain ⟨q, nn, hq, hn, q1, q2, n1, n2, hc⟩ := hSh s hs
  have a25 : aK 11 w 110 (nI s) = true := la_110 h hs
  have ns := nx_nI (show s < 2 ^ 31 by omega)
  by_cases c2 : q = -1
  · refine Ok2.q I (r := -1000000011) ?_ ?_
    · simp only [f_X8_pour, lk_0 h, ↓reduceIte, x_ref h hs c1, bd2_s, q1, c2, show ¬ (-1000000011 : Int32) = 0 by decide]
    · simp only [f_X9_pour, m_isSheet, bd2_s, c1, ↓reduceIte, lk_96 h, lr_96_25 h, bd1_s, a25, ns, q2, c2, show ¬ (0 : Int32) ≤ -1 by decide]
  have q0 : (0 : Int32) ≤ q := by
    rcases hq with e | e | e
    · exact absurd e c2
    · subst e; decide
    · subst e; decide
  obtain ⟨c, ec⟩ : ∃ c : Nat → Int32, c = fun k => wI w 112 (24 * s + k) := ⟨_, rfl⟩
  have ck : ∀ k, wI w 112 (24 * s + k) = c k := fun k => by rw [ec]
  obtain ⟨N, eN⟩ : ∃ N, N = n_ (wI w 97) := ⟨_, rfl⟩
  have hN : N ≤ 12 := by rw [eN]; exact hV.1.n12
  obtain ⟨M, eM⟩ : ∃ M, M = min nn N := ⟨_, rfl⟩
  have LX : ∀ n m k (τ : Nat → Int32) (y : Int32) (w1 : Wd), Fr (fun a => a = 4) w w1 → Vd τ → Mn τ → n_ τ = N → RI w1 1 τ → k + m = M → m < n → ∃ w2, L_X8_pour_25 n 0 (68 + 2 * s) y (nI k) w1 = some (poC c m k τ y, w2) ∧ Fr (fun a => a = 4) w w2 ∧ RI w2 1 (poS c m k τ) ∧ Vd (poS c m k τ) ∧ Mn (poS c m k τ) := by
    intro n
    induction n with
    | zero => intro m k τ y w1 _ _ _ _ _ _ g; omega
    | succ n ih =>
      intro m k τ y w1 F1 V1 M1 N1 R1 g1 g2
      have h1 := F1.lay h
      have k2 : wI w1 (1 + 1) 0 = nI N := by rw [R1.1.2.1.1, V1.1.n, N1]
      have k3 : wI w1 (68 + 2 * s) 1 = nI nn := by rw [F1.2.2.2.2 _ (by omega)]; exact n1
      unfold L_X8_pour_25
      simp only [lk_0 h1, lr_0_0 h1, bd1_s, li_k h1 bI1, li_r0 h1 bI1, li_k1 h1 bI1, ↓reduceIte, k2, ls_k h1 hs, k3]
      cases m with
      | zero =>
        refine ⟨w1, ?_, F1, R1, V1, M1⟩
        by_cases z : N ≤ k
        · rw [if_pos ((nI_le' (by omega) (by omega)).mpr z)]; rfl
        · rw [if_neg (fun q => z ((nI_le' (by omega) (by omega)).mp q)), if_pos ((nI_le' (by omega) (by omega)).mpr (show nn ≤ k by omega))]; rfl
      | succ m =>
        have hk12 : k < 12 := by omega
        have ek : wI w1 (69 + 2 * s) k = c k := by rw [F1.2.2.2.2 _ (by omega), hc k (by omega)]; exact ck k
        have cu : wI w1 (1 + 3) k = τ (12 + k) := R1.2.1.1 k hk12
        obtain ⟨V2, M2, N2⟩ := po_ok (c := c) hk12 V1 M1
        rw [if_neg (show ¬ nI N ≤ nI k from fun q => by have := (nI_le' (by omega) (by omega)).mp q; omega), if_neg (show ¬ nI nn ≤ nI k from fun q => by have := (nI_le' (by omega) (by omega)).mp q; omega)]
        simp only [ls_2 h1 hs, bd1_s, ls_c h1 hs (show k < 24 by omega), nx_nI (show k < 2 ^ 31 by omega), ek, ↓reduceIte, lb_e, nI_s1, hld_X, bd2_s, lk_0 h1, lr_0_0 h1, li_k h1 bI1, li_r3 h1 bI1, li_a3 h1 bI1 hk12, cu, poC, poS]
        by_cases d : c k = -1000000005
        · have ep : po c τ k = τ := by unfold po; rw [if_pos d]
          rw [if_pos d, if_pos d, ep]
          exact ih m (k + 1) τ y w1 F1 V1 M1 N1 R1 (by omega) (by omega)
        · have ep : po c τ k = upd τ (12 + k) (hld (c k) 0 99) := by unfold po; rw [if_neg d]
          rw [if_neg d, if_neg d]
          by_cases d2 : hld (c k) 0 99 = τ (12 + k)
          · have ep2 : po c τ k = τ := by rw [ep, d2, upd_id]
            rw [if_pos d2, if_pos d2, ep2]
            exact ih m (k + 1) τ y w1 F1 V1 M1 N1 R1 (by omega) (by omega)
          · rw [if_neg d2, if_neg d2]
            refine ih m (k + 1) (po c τ k) (y + 1) _ (F1.tr (Fr.sI _ _ _ rfl)) V2 M2 (N2.trans N1) ?_ (by omega) (by omega)
            rw [ep]
            exact R1.cu bI1 V1.1 hk12 _
  obtain ⟨w1, f1, F1, R1, V1, M1⟩ := LX FU M 0 (wI w 97) 0 w (Fr.rf w) hV hM eN.symm hR (by omega) (by unfold FU; omega)
  have h1 := F1.lay h
  have e97 : wI w1 97 = wI w 97 := F1.2.2.2.2 97 (by decide)
  have LM : ∀ n m k (τ : Nat → Int32) (y : Int32) (w2 : Wd), FM w1 w2 → Vd τ → Mn τ → n_ τ = N → wI w2 97 = τ → k + m = M → m < n → ∃ w3, L_X9_pour_26 n 96 (nI s) y (nI k) w2 = some (poC c m k τ y, w3) ∧ FM w1 w3 ∧ wI w3 97 = poS c m k τ := by
    intro n
    induction n with
    | zero => intro m k τ y w2 _ _ _ _ _ _ g; omega
    | succ n ih =>
      intro m k τ y w2 F2 V2 M2 N2 n2' g1 g2
      have h2 := F2.1.lay h1
      have a2 : aK 11 w2 97 2 = true := la_97 h2 (show 2 < 1444 by decide)
      have e : ∀ a, 110 ≤ a → a < 119 → wI w2 a = wI w a := fun a b1 b2 => by rw [F2.1.2.2.2.2 a (by omega), F1.2.2.2.2 a (by omega)]
      have k2 : wI w2 97 2 = nI N := by rw [n2', V2.1.n, N2]
      unfold L_X9_pour_26
      simp only [lk_96 h2, lr_96_26 h2, lr_96_0 h2, bd1_s, ↓reduceIte, la_111 h2 hs, ns, e 111 (by omega) (by omega), n2, a2, show nx 2 = 2 from rfl, k2]
      cases m with
      | zero =>
        refine ⟨w2, ?_, F2, n2'⟩
        by_cases z : nn ≤ k
        · rw [if_pos ((nI_le' (by omega) (by omega)).mpr z)]; rfl
        · rw [if_neg (fun q => z ((nI_le' (by omega) (by omega)).mp q)), if_pos ((nI_le' (by omega) (by omega)).mpr (show N ≤ k by omega))]; rfl
      | succ m =>
        have hk12 : k < 12 := by omega
        obtain ⟨V3, M3, N3⟩ := po_ok (c := c) hk12 V2 M2
        have e12 : (12 : Int32) + nI k = nI (12 + k) := nI_add 12 k
        have bc := fun x => m_becomes h2 (show 12 + k < 1444 by omega) x
        rw [if_neg (show ¬ nI nn ≤ nI k from fun q => by have := (nI_le' (by omega) (by omega)).mp q; omega), if_neg (show ¬ nI N ≤ nI k from fun q => by have := (nI_le' (by omega) (by omega)).mp q; omega)]
        simp only [lr_96_27 h2, bd1_s, e24, la_112 h2 (show 24 * s + k < 96 by omega), nx_nI (show 24 * s + k < 2 ^ 31 by omega), e 112 (by omega) (by omega), ck, ↓reduceIte, lb_e, e12, la_97 h2 (show 12 + k < 1444 by omega), nx_nI (show 12 + k < 2 ^ 31 by omega), hld_M, bd2_s, j_X9_pour_86, lk_96 h2, bc, nI_s1, n2', poC, poS]
        have step : ∀ x y', po c τ k = upd τ (12 + k) x → ∃ w3, L_X9_pour_26 n 96 (nI s) y' (nI (k + 1)) (sI w2 97 (12 + k) x) = some (poC c m (k + 1) (po c τ k) y', w3) ∧ FM w1 w3 ∧ wI w3 97 = poS c m (k + 1) (po c τ k) := fun x y' ex => ih m (k + 1) (po c τ k) y' _ (F2.tr (FM.now _ _)) V3 M3 (N3.trans N2) (by rw [wI_s1, n2', ex]) (by omega) (by omega)
        by_cases d : c k = -1000000005
        · have ep : po c τ k = upd τ (12 + k) (τ (12 + k)) := by unfold po; rw [if_pos d, upd_id]
          simp only [if_pos d, ↓reduceIte, Int32.add_zero]
          exact step _ _ ep
        · have ep : po c τ k = upd τ (12 + k) (hld (c k) 0 99) := by unfold po; rw [if_neg d]
          simp only [if_neg d]
          by_cases d2 : hld (c k) 0 99 = τ (12 + k)
          · rw [if_pos d2.symm, if_pos d2, Int32.add_zero]
            exact step _ _ ep
          · rw [if_neg (fun q => d2 q.symm), if_neg d2]
            exact step _ _ ep
  obtain ⟨w3, f3, F3, n3⟩ := LM FU M 0 (wI w 97) 0 w1 (FM.rf w1) hV hM eN.symm e97 (by omega) (by unfold FU; omega)
  refine ⟨poC c M 0 (wI w 97) 0, w1, w3, ?_, h1, ?_, I.now (F1.mono (fun a ha => Or.inl (by omega))) R1 V1 M1 F3 n3⟩
  · simp only [f_X8_pour, lk_0 h, ↓reduceIte, x_ref h hs c1, bd2_s, q1, c2, lr_0_6 h, bd1_s, ls_a h hs, ns, ls_r h hs]
    exact f1
  · simp only [f_X9_pour, m_isSheet, bd2_s, c1, ↓reduceIte, lk_96 h1, lr_96_25 h1, bd1_s, la_110 h1 hs, ns, F1.2.2.2.2 110 (by decide), q2, q0]
    exact f3
