/-! THE CALLS: sitter, deal, bench -/
def comeK (σ : Nat → Int32) (k : Int32) : Nat → Int32 := upd (upd (upd (upd (upd σ 1 (σ 1 + 1)) (24 + 4 * c_ σ + 0) k) (24 + 4 * c_ σ + 1) (-1)) (24 + 4 * c_ σ + 2) 0) (24 + 4 * c_ σ + 3) 0
theorem ck_o {σ : Nat → Int32} {k : Int32} {x : Nat} (h1 : x ≠ 1) (h : x < 24 + 4 * c_ σ ∨ 24 + 4 * c_ σ + 4 ≤ x) : comeK σ k x = σ x := by
  unfold comeK
  rw [upd_n _ _ (by omega), upd_n _ _ (by omega), upd_n _ _ (by omega), upd_n _ _ (by omega), upd_n _ _ h1]
theorem ck_1 {σ : Nat → Int32} {k : Int32} : comeK σ k 1 = σ 1 + 1 := by
  unfold comeK
  rw [upd_n _ _ (by omega), upd_n _ _ (by omega), upd_n _ _ (by omega), upd_n _ _ (by omega), upd_s]
theorem ck_c {σ : Nat → Int32} {k : Int32} (hS : Sv σ) : comeK σ k 1 = nI (c_ σ + 1) ∧ c_ (comeK σ k) = c_ σ + 1 := by
  have h12 := hS.c12
  have e : comeK σ k 1 = nI (c_ σ + 1) := by rw [ck_1, hS.c, nI_s1]
  exact ⟨e, by unfold c_ at e ⊢; rw [e, nx_nI (by unfold c_ at h12; omega)]⟩
theorem ck_sv {σ : Nat → Int32} {k : Int32} {i j : Nat} (hi : i < c_ σ) (hj : j < 4) : sv (comeK σ k) i j = sv σ i j := ck_o (by omega) (Or.inl (by omega))
theorem ck_nw {σ : Nat → Int32} {k : Int32} : sv (comeK σ k) (c_ σ) 0 = k ∧ sv (comeK σ k) (c_ σ) 1 = -1 ∧ sv (comeK σ k) (c_ σ) 2 = 0 ∧ sv (comeK σ k) (c_ σ) 3 = 0 := by
  unfold comeK sv
  refine ⟨?_, ?_, ?_, ?_⟩
  · rw [upd_n _ _ (by omega), upd_n _ _ (by omega), upd_n _ _ (by omega), upd_s]
  · rw [upd_n _ _ (by omega), upd_n _ _ (by omega), upd_s]
  · rw [upd_n _ _ (by omega), upd_s]
  · rw [upd_s]
theorem ck_T {σ : Nat → Int32} {k : Int32} (hc : c_ σ < 12) : Tsm σ (comeK σ k) := ⟨ck_o (by omega) (Or.inl (by omega)), fun j hj => ck_o (by omega) (Or.inr (by omega))⟩
theorem ck_n {σ : Nat → Int32} {k : Int32} : n_ (comeK σ k) = n_ σ := by unfold n_; rw [ck_o (by decide) (Or.inl (by omega))]
theorem Vd.come {σ : Nat → Int32} (hV : Vd σ) (hc : c_ σ < 12) {k : Nat} (hk : k < 6) : Vd (comeK σ (nI k)) := by
  obtain ⟨hS, hP, hT, hD⟩ := hV
  have u : ∀ x, x < 24 → x ≠ 1 → comeK σ (nI k) x = σ x := fun x hx h1 => ck_o h1 (Or.inl (by omega))
  have so_o : ∀ j, j < c_ σ → so (comeK σ (nI k)) j = so σ j := fun j hj => by
    unfold so
    rw [ck_sv hj (by decide), ck_sv hj (by decide), ck_n]
  have so_n : so (comeK σ (nI k)) (c_ σ) = 0 := by
    unfold so
    rw [ck_nw.2.1, if_pos m1_lt]
  refine ⟨?_, ⟨by rw [u 6 (by decide) (by decide)]; exact hP.1, fun p hp => by rw [u _ (by omega) (by omega)]; exact hP.2 p hp⟩, (ck_T hc).tv hT, ?_⟩
  · unfold Sv
    rw [(ck_c hS).2, (ck_c hS).1, ck_n, u 2 (by decide) (by decide), u 3 (by decide) (by decide), u 4 (by decide) (by decide)]
    refine ⟨⟨rfl, by omega⟩, hS.2.1, hS.2.2.1, hS.2.2.2.1, fun j hj => ?_⟩
    by_cases z : j = c_ σ
    · subst z
      rw [ck_nw.1, ck_nw.2.1]
      exact ⟨⟨k, hk, rfl⟩, Or.inl rfl⟩
    · rw [ck_sv (by omega) (by decide), ck_sv (by omega) (by decide)]
      exact hS.2.2.2.2 j (by omega)
  · intro a b hab hb p hp
    rw [(ck_c hS).2] at hb
    by_cases z : b = c_ σ
    · subst z; rw [so_n, b_0]; exact fun x => by cases x.2
    · rw [so_o a (by omega), so_o b (by omega)]
      exact hD a b hab (by omega) p hp
theorem Mn.come {σ : Nat → Int32} (h : Mn σ) (k : Int32) : Mn (comeK σ k) := by
  obtain ⟨m, q1, q2⟩ := h
  exact ⟨m, q1, by rw [ck_o (by decide) (Or.inl (by omega))]; exact q2⟩
theorem x_welcome {w : Wd} {b : Nat} {σ : Nat → Int32} (h : Lay w) (hb : bI b) (hS : Sv σ) (hR : RI w b σ) (hc : c_ σ < 12) (k : Int32) : ∃ w', f_X1_welcome b k w = some (nI (c_ σ), w') ∧ RI w' b (comeK σ k) ∧ Fr (fun x => b ≤ x ∧ x < b + 19) w w' := by
  have hbl := bI_lt hb
  obtain ⟨w1, ew1⟩ : ∃ x, x = sI (sI (sI (sI w (b + 7 + c_ σ) 0 k) (b + 7 + c_ σ) 1 (-1)) (b + 7 + c_ σ) 2 0) (b + 7 + c_ σ) 3 0 := ⟨_, rfl⟩
  have F1 : Fr (fun x => x = b + 7 + c_ σ) w w1 := by
    rw [ew1]
    exact (((Fr.sI (A := fun x => x = b + 7 + c_ σ) _ _ _ rfl).tr (Fr.sI _ _ _ rfl)).tr (Fr.sI _ _ _ rfl)).tr (Fr.sI _ _ _ rfl)
  have h1 := F1.lay h
  have v0 : wI w1 (b + 7 + c_ σ) 0 = k := by rw [ew1, wI_sn _ _ (Or.inr (by decide)), wI_sn _ _ (Or.inr (by decide)), wI_sn _ _ (Or.inr (by decide)), wI_ss]
  have v1 : wI w1 (b + 7 + c_ σ) 1 = -1 := by rw [ew1, wI_sn _ _ (Or.inr (by decide)), wI_sn _ _ (Or.inr (by decide)), wI_ss]
  have v2 : wI w1 (b + 7 + c_ σ) 2 = 0 := by rw [ew1, wI_sn _ _ (Or.inr (by decide)), wI_ss]
  have v3 : wI w1 (b + 7 + c_ σ) 3 = 0 := by rw [ew1, wI_ss]
  have b2 : wI w1 b 2 = nI (c_ σ) := by rw [F1.2.2.2.2 b (by omega), hR.1.1, hS.c]
  obtain ⟨w2, ew2⟩ : ∃ x, x = sI w1 b 2 (nI (c_ σ + 1)) := ⟨_, rfl⟩
  have F2 : Fr (fun x => x = b) w1 w2 := by rw [ew2]; exact Fr.sI _ _ _ rfl
  have F12 : Fr (fun x => x = b ∨ x = b + 7 + c_ σ) w w2 := (F1.mono (fun a ha => Or.inr ha)).tr (F2.mono (fun a ha => Or.inl ha))
  have bn : ∀ j, j ≠ 2 → wI w2 b j = wI w b j := fun j hj => by rw [ew2, wI_sn _ _ (Or.inr hj), F1.2.2.2.2 b (by omega)]
  have e : ∀ x, x ≠ b → x ≠ b + 7 + c_ σ → wI w2 x = wI w x := fun x q1 q2 => F12.2.2.2.2 x (by omega)
  have lo : ∀ x, x < 24 → x ≠ 1 → comeK σ k x = σ x := fun x hx h1 => ck_o h1 (Or.inl (by omega))
  refine ⟨w2, ?_, ⟨⟨?_, ?_, fun i hi j hj => ?_⟩, ⟨fun p hp => ?_, fun j hj => ?_, ?_, ?_, ?_⟩, hR.2.2.go hb (ck_T hc) F12 (fun x hx => Or.inl (by omega)) (bn 9 (by decide)) (fun k _ => by rw [e (b + 6) (by omega) (by omega)])⟩, F12.mono (fun x hx => by omega)⟩
  · have l2 : wI w b 2 = nI (c_ σ) := by rw [hR.1.1, hS.c]
    have lt : (nI (c_ σ) < (12 : Int32)) := (nI_lt' (b := 12) (by omega) (by omega)).mpr hc
    simp only [f_X1_welcome, li_k h hb, ↓reduceIte, l2, lt, li_r1 h hb, bd1_s, li_a2 h hb hc, nx_nI (show c_ σ < 2 ^ 31 by omega), li_s h hb hc, li_sk h hb hc, f_X4_begin, lb_e, bd2_s]
    rw [← ew1]
    simp only [li_k h1 hb, ↓reduceIte, b2, nI_s1]
    rw [← ew2]
    rw [show wI w2 b 2 = nI (c_ σ + 1) by rw [ew2, wI_ss], pr_nI (by omega)]
    rfl
  · rw [ew2, wI_ss, (ck_c hS).1]
  · rw [e (b + 1) (by omega) (by omega), lo 2 (by decide) (by decide), lo 3 (by decide) (by decide), lo 4 (by decide) (by decide), ck_n]
    exact hR.1.2.1
  · rw [(ck_c hS).2] at hi
    by_cases z : i = c_ σ
    · subst z
      rw [F2.2.2.2.2 _ (by omega)]
      rcases (show j = 0 ∨ j = 1 ∨ j = 2 ∨ j = 3 by omega) with q | q | q | q <;> subst q
      · rw [v0, ck_nw.1]
      · rw [v1, ck_nw.2.1]
      · rw [v2, ck_nw.2.2.1]
      · rw [v3, ck_nw.2.2.2]
    · rw [e _ (by omega) (by omega), ck_sv (by omega) hj]
      exact hR.1.2.2 i (by omega) j hj
  · rw [e (b + 3) (by omega) (by omega), lo _ (by omega) (by omega)]; exact hR.2.1.1 p hp
  · rw [e (b + 4) (by omega) (by omega), lo _ (by omega) (by omega)]; exact hR.2.1.2.1 j hj
  · rw [bn 5 (by decide), lo 10 (by decide) (by decide)]; exact hR.2.1.2.2.1
  · rw [bn 6 (by decide), lo 5 (by decide) (by decide)]; exact hR.2.1.2.2.2.1
  · rw [bn 7 (by decide), lo 0 (by decide) (by decide)]; exact hR.2.1.2.2.2.2
theorem m_comes {w : Wd} {σ : Nat → Int32} (h : Lay w) (hσ : wI w 97 = σ) (hS : Sv σ) (hc : c_ σ < 12) (k : Int32) : ∃ w', f_X9_comes 96 k w = some (nI (c_ σ), w') ∧ wI w' 97 = comeK σ k ∧ FM w w' := by
  have a1 : aK 11 w 97 1 = true := la_97 h (show 1 < 1444 by decide)
  obtain ⟨w1, e1⟩ : ∃ x, x = sI w 97 1 (σ 1 + 1) := ⟨_, rfl⟩
  have F1 : FM w w1 := by rw [e1]; exact FM.now _ _
  have h1 := F1.1.lay h
  obtain ⟨w2, e2⟩ : ∃ x, x = sI w1 97 (24 + 4 * c_ σ + 0) k := ⟨_, rfl⟩
  have F2 : FM w1 w2 := by rw [e2]; exact FM.now _ _
  have h2 := F2.1.lay h1
  obtain ⟨w3, e3⟩ : ∃ x, x = sI w2 97 (24 + 4 * c_ σ + 1) (-1) := ⟨_, rfl⟩
  have F3 : FM w2 w3 := by rw [e3]; exact FM.now _ _
  have h3 := F3.1.lay h2
  obtain ⟨w4, e4⟩ : ∃ x, x = sI w3 97 (24 + 4 * c_ σ + 2) 0 := ⟨_, rfl⟩
  have F4 : FM w3 w4 := by rw [e4]; exact FM.now _ _
  have h4 := F4.1.lay h3
  have p0 := m_put h1 hc (k := 0) (by decide) k
  have p1 := m_put h2 hc (k := 1) (by decide) (-1)
  have p2 := m_put h3 hc (k := 2) (by decide) 0
  have p3 := m_put h4 hc (k := 3) (by decide) 0
  rw [show nI 0 = (0 : Int32) from rfl, ← e2] at p0
  rw [show nI 1 = (1 : Int32) from rfl, ← e3] at p1
  rw [show nI 2 = (2 : Int32) from rfl, ← e4] at p2
  rw [show nI 3 = (3 : Int32) from rfl] at p3
  refine ⟨sI w4 97 (24 + 4 * c_ σ + 3) 0, ?_, ?_, (((F1.tr F2).tr F3).tr F4).tr (FM.now _ _)⟩
  · simp only [f_X9_comes, lk_96 h, lr_96_0 h, bd1_s, bd2_s, lb_e, ↓reduceIte, a1, show nx 1 = 1 from rfl, hσ]
    rw [← e1, hS.c]
    simp only [p0, bd2_s, lk_96 h2, ↓reduceIte, p1, lk_96 h3, p2, lk_96 h4, p3]
  · rw [wI_s1, e4, wI_s1, e3, wI_s1, e2, wI_s1, e1, wI_s1, hσ]
    rfl
theorem E_sitter {w : Wd} (I : Iv w) (v : Int32) : Ok2 (f_X8_sitter 0 v) (f_X9_sitter 96 v) w := by
  have h := I.1
  obtain ⟨hV, hM, hR⟩ := I.2.1
  have hS := hV.1
  have h12 := hS.c12
  have a1 : aK 11 w 97 1 = true := la_97 h (show 1 < 1444 by decide)
  by_cases c1 : wi_ v 0 5 = 0
  · exact Ok2.q I (r := -1000000001) (by simp only [f_X8_sitter, x_isKind, bd2_s, c1, ↓reduceIte]) (by simp only [f_X9_sitter, wi_M, bd2_s, c1, ↓reduceIte])
  by_cases c2 : c_ (wI w 97) = 12
  · refine Ok2.q I (r := -1000000003) ?_ ?_
    · simp only [f_X8_sitter, x_isKind, lk_0 h, lr_0_0 h, bd1_s, bd2_s, lb_e, ↓reduceIte, li_k h bI1, li_r0 h bI1, li_r1 h bI1, li_r3 h bI1, li_r4 h bI1, li_k1 h bI1, c1, f_X1_welcome, hR.1.1]
      rw [hS.c, c2, if_neg (show ¬ nI 12 < 12 from by decide), bd2_s]
    · simp only [f_X9_sitter, wi_M, lk_96 h, lr_96_0 h, bd1_s, bd2_s, lb_e, ↓reduceIte, c1, a1, show nx 1 = 1 from rfl]
      rw [hS.c, c2, if_pos (show nI 12 = 12 from rfl)]
  obtain ⟨k, hk, rfl⟩ := wi_5 c1
  obtain ⟨w1, f1, R1, F1⟩ := x_welcome h bI1 hS hR (by omega) (nI k)
  have h1 := F1.lay h
  have e97 : wI w1 97 = wI w 97 := F1.2.2.2.2 97 (by omega)
  obtain ⟨w2, f2, n2, F2⟩ := m_comes h1 e97 hS (by omega) (nI k)
  refine ⟨nI (c_ (wI w 97)), w1, w2, ?_, h1, ?_, I.now (F1.mono (fun a ha => Or.inl ha)) R1 (hV.come (by omega) hk) (hM.come _) F2 n2⟩
  · simp only [f_X8_sitter, x_isKind, lk_0 h, lr_0_0 h, bd1_s, bd2_s, lb_e, ↓reduceIte, li_k h bI1, li_r0 h bI1, li_r1 h bI1, li_r3 h bI1, li_r4 h bI1, li_k1 h bI1, c1, f1]
  · have b1 : aK 11 w1 97 1 = true := la_97 h1 (show 1 < 1444 by decide)
    simp only [f_X9_sitter, wi_M, bd2_s, c1, lk_96 h1, lr_96_0 h1, bd1_s, ↓reduceIte, b1, show nx 1 = 1 from rfl, e97]
    rw [if_neg (fun q => c2 (by rw [hS.c] at q; exact nI_inj (b := 12) (by omega) (by decide) q)), f2, bd2_s]
theorem irem6 (σ : Nat → Int32) : ∃ k, k < 6 ∧ irem (dv σ) 6 = nI k := by
  obtain ⟨d, hd, e⟩ := ushr8 (dz σ)
  refine ⟨d % 6, Nat.mod_lt _ (by decide), ?_⟩
  show irem (ushr (dz σ) 8) (nI 6) = _
  rw [e, irem_nI (by omega) (by omega) (by decide)]
def dlS (σ : Nat → Int32) : Nat → Nat → Int32
  | 0 => σ
  | m + 1 => comeK (drw (dlS σ m)) (irem (dv (dlS σ m)) 6)
theorem dlS_ok {σ : Nat → Int32} (hV : Vd σ) (hM : Mn σ) : ∀ m, c_ σ + m ≤ 12 → Vd (dlS σ m) ∧ Mn (dlS σ m) ∧ c_ (dlS σ m) = c_ σ + m := by
  intro m
  induction m with
  | zero => intro _; exact ⟨hV, hM, rfl⟩
  | succ m ih =>
    intro hm
    obtain ⟨q1, q2, q3⟩ := ih (by omega)
    obtain ⟨k, hk, e⟩ := irem6 (dlS σ m)
    have c1 : c_ (drw (dlS σ m)) = c_ σ + m := by rw [← q3]; exact c_upd _ (by decide)
    rw [dlS, e]
    exact ⟨q1.drw.come (by omega) hk, (q2.upd _ (by decide)).come _, by rw [(ck_c q1.drw.1).2, c1]; rfl⟩
theorem E_deal {w : Wd} (I : Iv w) (v : Int32) : Ok2 (f_X8_deal 0 v) (f_X9_deal 96 v) w := by
  have h := I.1
  obtain ⟨hV, hM, hR⟩ := I.2.1
  have hS := hV.1
  have h12 := hS.c12
  by_cases c1 : wi_ v 1 12 = 0
  · exact Ok2.q I (r := -1000000001) (by simp only [f_X8_deal, wi_X, bd2_s, c1, ↓reduceIte]) (by simp only [f_X9_deal, wi_M, bd2_s, c1, ↓reduceIte])
  obtain ⟨N, -, hN, rfl⟩ := wi_ab (v := v) (a := 1) (b := 12) (by decide) c1 (by decide)
  obtain ⟨M, eM⟩ : ∃ M, M = min (12 - c_ (wI w 97)) N := ⟨_, rfl⟩
  obtain ⟨σ, eσ⟩ : ∃ σ, σ = wI w 97 := ⟨_, rfl⟩
  rw [← eσ] at hV hM hR hS h12 eM
  have LX : ∀ n m k (w1 : Wd), Fr (In_ 1) w w1 → RI w1 1 (dlS σ k) → k + m = M → m < n → ∃ w2, L_X8_deal_30 n 0 (nI M) (nI k) w1 = some (nI M, w2) ∧ RI w2 1 (dlS σ M) ∧ Fr (In_ 1) w w2 := by
    intro n
    induction n with
    | zero => intro m k w1 _ _ _ g; omega
    | succ n ih =>
      intro m k w1 F1 R1 g1 g2
      have h1 := F1.lay h
      unfold L_X8_deal_30
      cases m with
      | zero =>
        rw [if_pos ((nI_le' (by omega) (by omega)).mpr (by omega))]
        obtain rfl : k = M := by omega
        exact ⟨w1, rfl, R1, F1⟩
      | succ m =>
        rw [if_neg (fun z => by have := (nI_le' (by omega) (by omega)).mp z; omega)]
        obtain ⟨V1, M1, cc⟩ := dlS_ok hV hM k (by omega)
        obtain ⟨f2, R2', F2⟩ := x_draw h1 bI1 V1 R1
        obtain ⟨w2, ew2⟩ : ∃ x, x = sI w1 1 7 (dz (dlS σ k)) := ⟨_, rfl⟩
        rw [← ew2] at f2 R2' F2
        have h2 := F2.lay h1
        obtain ⟨w3, f3, R3, F3⟩ := x_welcome h2 bI1 V1.drw.1 R2' (show c_ (drw (dlS σ k)) < 12 by rw [show c_ (drw (dlS σ k)) = c_ (dlS σ k) from c_upd _ (by decide), cc]; omega) (irem (dv (dlS σ k)) 6)
        simp only [lk_0 h1, lr_0_0 h1, bd1_s, li_k h1 bI1, ↓reduceIte, f2, bd2_s, li_k h2 bI1, f3, lb_e, nI_s1]
        exact ih m (k + 1) w3 ((F1.tr F2).tr (F3.mono (fun a ha => Or.inl ha))) (by rw [dlS]; exact R3) (by omega) (by omega)
  obtain ⟨w1, f1, R1, F1⟩ := LX FU M 0 w (Fr.rf w) hR (by omega) (by unfold FU; omega)
  have h1 := F1.lay h
  have e97 : wI w1 97 = σ := by
    rw [eσ]
    exact F1.2.2.2.2 97 (fun q => by
      rcases q with q | q
      · omega
      · have := q.1; omega)
  have LM : ∀ n m k (w2 : Wd), FM w1 w2 → wI w2 97 = dlS σ k → k + m = M → m < n → ∃ w3, L_X9_deal_15 n 96 (nI N) (nI k) w2 = some (nI M, w3) ∧ wI w3 97 = dlS σ M ∧ FM w1 w3 := by
    intro n
    induction n with
    | zero => intro m k w2 _ _ _ g; omega
    | succ n ih =>
      intro m k w2 F2 n2 g1 g2
      have h2 := F2.1.lay h1
      have a1 : aK 11 w2 97 1 = true := la_97 h2 (show 1 < 1444 by decide)
      obtain ⟨V1, M1, cc⟩ := dlS_ok hV hM k (by omega)
      have e1 : wI w2 97 1 = nI (c_ σ + k) := by rw [n2, V1.1.c, cc]
      unfold L_X9_deal_15
      simp only [lk_96 h2, lr_96_0 h2, bd1_s, ↓reduceIte, a1, show nx 1 = 1 from rfl, e1]
      cases m with
      | zero =>
        obtain rfl : k = M := by omega
        refine ⟨w2, ?_, n2, F2⟩
        by_cases z : N ≤ k
        · rw [if_pos ((nI_le' (by omega) (by omega)).mpr z)]
        · rw [if_neg (fun q => z ((nI_le' (by omega) (by omega)).mp q)), if_pos (show (12 : Int32) ≤ nI (c_ σ + k) from (nI_le' (a := 12) (by omega) (by omega)).mpr (by omega))]
      | succ m =>
        rw [if_neg (fun z => by have := (nI_le' (by omega) (by omega)).mp z; omega), if_neg (fun z : (12 : Int32) ≤ nI (c_ σ + k) => by have := (nI_le' (a := 12) (by omega) (by omega)).mp z; omega)]
        obtain ⟨f3, n3⟩ := m_draw h2 n2
        obtain ⟨w3, ew3⟩ : ∃ x, x = sI w2 97 0 (dz (dlS σ k)) := ⟨_, rfl⟩
        have F3 : FM w2 w3 := by rw [ew3]; exact FM.now _ _
        rw [← ew3] at f3 n3
        have h3 := F3.1.lay h2
        obtain ⟨w4, f4, n4, F4⟩ := m_comes h3 n3 V1.drw.1 (show c_ (drw (dlS σ k)) < 12 by rw [show c_ (drw (dlS σ k)) = c_ (dlS σ k) from c_upd _ (by decide), cc]; omega) (irem (dv (dlS σ k)) 6)
        simp only [f3, bd2_s, lk_96 h3, ↓reduceIte, f4, lb_e, nI_s1]
        exact ih m (k + 1) w4 ((F2.tr F3).tr F4) (by rw [dlS]; exact n4) (by omega) (by omega)
  obtain ⟨w3, f3, n3, F3⟩ := LM FU M 0 w1 (FM.rf w1) e97 (by omega) (by unfold FU; omega)
  obtain ⟨V3, M3, -⟩ := dlS_ok hV hM M (by omega)
  refine ⟨nI M, w1, w3, ?_, h1, ?_, I.now F1 R1 V3 M3 F3 n3⟩
  · have l2 : wI w 1 2 = nI (c_ σ) := by rw [hR.1.1, hS.c]
    have : (if (12 : Int32) - nI (c_ σ) < nI N then (12 : Int32) - nI (c_ σ) else nI N) = nI M := by
      rw [show (12 : Int32) - nI (c_ σ) = nI (12 - c_ σ) from nI_sub (a := 12) h12]
      by_cases z : 12 - c_ σ < N
      · rw [if_pos ((nI_lt' (by omega) (by omega)).mpr z), eM, Nat.min_eq_left (by omega)]
      · rw [if_neg (fun y => z ((nI_lt' (by omega) (by omega)).mp y)), eM, Nat.min_eq_right (by omega)]
    simp only [f_X8_deal, wi_X, lk_0 h, lr_0_0 h, bd1_s, bd2_s, lb_e, ↓reduceIte, li_k h bI1, li_r0 h bI1, li_r1 h bI1, li_r3 h bI1, li_r4 h bI1, li_k1 h bI1, c1, l2, this]
    exact f1
  · simp only [f_X9_deal, wi_M, bd2_s, c1, ↓reduceIte]
    exact f3
