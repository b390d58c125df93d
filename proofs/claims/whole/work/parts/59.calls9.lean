/-! THE CALLS: bench -/
def bnS (σ : Nat → Int32) (N r v : Int32) : Nat → Int32 := fun x => if x = 2 then N else if x = 3 then r else if x = 4 then v else if 12 ≤ x ∧ x < 24 then 0 else if 24 ≤ x ∧ x < 24 + 4 * c_ σ ∧ x % 4 = 1 then -1 else σ x
theorem bn_o {σ : Nat → Int32} {N r v : Int32} {x : Nat} (h1 : x ≠ 2 ∧ x ≠ 3 ∧ x ≠ 4) (h2 : x < 12 ∨ 24 ≤ x) (h3 : ¬ (24 ≤ x ∧ x < 24 + 4 * c_ σ ∧ x % 4 = 1)) : bnS σ N r v x = σ x := by
  unfold bnS
  rw [if_neg h1.1, if_neg h1.2.1, if_neg h1.2.2, if_neg (by omega), if_neg h3]
theorem bn_2 {σ : Nat → Int32} {N r v : Int32} : bnS σ N r v 2 = N := rfl
theorem bn_3 {σ : Nat → Int32} {N r v : Int32} : bnS σ N r v 3 = r := rfl
theorem bn_4 {σ : Nat → Int32} {N r v : Int32} : bnS σ N r v 4 = v := rfl
theorem bn_cu {σ : Nat → Int32} {N r v : Int32} {p : Nat} (hp : p < 12) : bnS σ N r v (12 + p) = 0 := by
  unfold bnS
  rw [if_neg (by omega), if_neg (by omega), if_neg (by omega), if_pos (by omega)]
theorem bn_1 {σ : Nat → Int32} {N r v : Int32} {i : Nat} (hi : i < c_ σ) : sv (bnS σ N r v) i 1 = -1 := by
  unfold sv
  unfold bnS
  rw [if_neg (by omega), if_neg (by omega), if_neg (by omega), if_neg (by omega), if_pos (by omega)]
theorem bn_sv {σ : Nat → Int32} {N r v : Int32} {i j : Nat} (hj : j < 4) (h1 : j ≠ 1) : sv (bnS σ N r v) i j = sv σ i j := bn_o (by omega) (by omega) (by omega)
theorem bn_T {σ : Nat → Int32} {N r v : Int32} (h12 : c_ σ ≤ 12) : Tsm σ (bnS σ N r v) := ⟨bn_o (by omega) (by omega) (by omega), fun j hj => bn_o (by omega) (by omega) (by omega)⟩
theorem bn_c {σ : Nat → Int32} {N r v : Int32} : c_ (bnS σ N r v) = c_ σ := c_cg (bn_o (by omega) (by omega) (by omega))
theorem Vd.bench {σ : Nat → Int32} (hV : Vd σ) {N : Nat} {r v : Int32} (h1 : 1 ≤ N) (h2 : N ≤ 12) (hr : r = 0 ∨ r = 1) (hv : v = 0 ∨ v = 1) : Vd (bnS σ (nI N) r v) := by
  obtain ⟨hS, hP, hT, hD⟩ := hV
  have h12 := hS.c12
  have en : n_ (bnS σ (nI N) r v) = N := by unfold n_; rw [bn_2, nx_nI (by omega)]
  have so_n : ∀ i, i < c_ σ → so (bnS σ (nI N) r v) i = 0 := fun i hi => by
    unfold so
    rw [bn_1 hi, if_pos m1_lt]
  refine ⟨?_, ⟨by rw [bn_o (by omega) (by omega) (by omega)]; exact hP.1, fun p hp => ⟨0, by decide, bn_cu hp⟩⟩, (bn_T h12).tv hT, ?_⟩
  · unfold Sv
    rw [bn_c, en, bn_2, bn_3, bn_4]
    refine ⟨⟨(bn_o (by omega) (by omega) (by omega)).trans hS.c, h12⟩, ⟨rfl, h1, h2⟩, hr, hv, fun j hj => ?_⟩
    rw [bn_sv (by decide) (by decide), bn_1 hj]
    exact ⟨(hS.2.2.2.2 j hj).1, Or.inl rfl⟩
  · intro a b hab hb p hp
    rw [bn_c] at hb
    rw [so_n b hb, b_0]
    exact fun x => by cases x.2
theorem Mn.bench {σ : Nat → Int32} (h : Mn σ) (N r v : Int32) : Mn (bnS σ N r v) := by
  obtain ⟨m, q1, q2⟩ := h
  exact ⟨m, q1, by rw [bn_o (by omega) (by omega) (by omega)]; exact q2⟩
theorem x_setUp {w : Wd} {b : Nat} {σ : Nat → Int32} (h : Lay w) (hb : bI b) (hS : Sv σ) (hR : RI w b σ) {N : Nat} (r v : Int32) (hN : N ≤ 12) : ∃ w', f_X1_setUp b (nI N) r v w = some (nI (sitC σ), w') ∧ RI w' b (bnS σ (nI N) r v) ∧ Fr (fun x => b ≤ x ∧ x < b + 19) w w' := by
  have hbl := bI_lt hb
  have h12 := hS.c12
  obtain ⟨w1, ew1⟩ : ∃ x, x = sI (sI (sI (sI w (b + 1) 0 (nI N)) (b + 1) 1 r) (b + 1) 2 v) (b + 1) 3 ((1 <<< (nI N &&& 31)) - 1) := ⟨_, rfl⟩
  have F1 : Fr (fun x => x = b + 1) w w1 := by
    rw [ew1]
    exact (((Fr.sI (A := fun x => x = b + 1) _ _ _ rfl).tr (Fr.sI _ _ _ rfl)).tr (Fr.sI _ _ _ rfl)).tr (Fr.sI _ _ _ rfl)
  have h1 := F1.lay h
  have v0 : wI w1 (b + 1) 0 = nI N := by rw [ew1, wI_sn _ _ (Or.inr (by decide)), wI_sn _ _ (Or.inr (by decide)), wI_sn _ _ (Or.inr (by decide)), wI_ss]
  have v1 : wI w1 (b + 1) 1 = r := by rw [ew1, wI_sn _ _ (Or.inr (by decide)), wI_sn _ _ (Or.inr (by decide)), wI_ss]
  have v2 : wI w1 (b + 1) 2 = v := by rw [ew1, wI_sn _ _ (Or.inr (by decide)), wI_ss]
  have v3 : wI w1 (b + 1) 3 = (1 <<< (nI N &&& 31)) - 1 := by rw [ew1, wI_ss]
  have LC : ∀ n k (w2 : Wd) (u : Int32), Lay w2 → k ≤ 12 → 12 - k < n → (∀ p, p < k → wI w2 (b + 3) p = 0) → ∃ w3, L_X1_setUp_48 n b u (nI k) w2 = some (u, w3) ∧ (∀ p, p < 12 → wI w3 (b + 3) p = 0) ∧ Fr (fun x => x = b + 3) w2 w3 := by
    intro n
    induction n with
    | zero => intro k w2 u _ _ g; omega
    | succ n ih =>
      intro k w2 u h2 hk g q
      unfold L_X1_setUp_48
      rw [show (12 : Int32) = nI 12 from rfl]
      by_cases z : k = 12
      · subst z
        rw [if_pos ((nI_le' (by omega) (by omega)).mpr (Nat.le_refl _))]
        exact ⟨w2, rfl, q, Fr.rf w2⟩
      · rw [if_neg (fun y => by have := (nI_le' (by omega) (by omega)).mp y; omega)]
        simp only [li_k h2 hb, ↓reduceIte, li_r3 h2 hb, bd1_s, li_a3 h2 hb (show k < 12 by omega), nx_nI (show k < 2 ^ 31 by omega), lb_e, nI_s1]
        have F : Fr (fun x => x = b + 3) w2 (sI w2 (b + 3) k 0) := Fr.sI _ _ _ rfl
        obtain ⟨w3, q1, q2, q3⟩ := ih (k + 1) (sI w2 (b + 3) k 0) u (F.lay h2) (by omega) (by omega) (fun p hp => by
          by_cases y : p = k
          · subst y; rw [wI_ss]
          · rw [wI_sn _ _ (Or.inr y)]; exact q p (by omega))
        exact ⟨w3, q1, q2, F.tr q3⟩
  have LR : ∀ n k (w2 : Wd) (u : Int32), Fr (fun x => b + 7 ≤ x ∧ x < b + 19) w1 w2 → k ≤ c_ σ → c_ σ - k < n → (∀ i, i < k → wI w2 (b + 7 + i) 1 = -1) → (∀ i j, j ≠ 1 → wI w2 (b + 7 + i) j = wI w1 (b + 7 + i) j) → ∃ w3, L_X1_setUp_19 n b u (nI k) w2 = L_X1_setUp_48 FU b u 0 w3 ∧ Fr (fun x => b + 7 ≤ x ∧ x < b + 19) w1 w3 ∧ (∀ i, i < c_ σ → wI w3 (b + 7 + i) 1 = -1) ∧ (∀ i j, j ≠ 1 → wI w3 (b + 7 + i) j = wI w1 (b + 7 + i) j) := by
    intro n
    induction n with
    | zero => intro k w2 u _ _ g; omega
    | succ n ih =>
      intro k w2 u F2 hk g q1 q2
      have h2 := F2.lay h1
      have l2 : wI w2 b 2 = nI (c_ σ) := by rw [F2.2.2.2.2 b (by omega), F1.2.2.2.2 b (by omega), hR.1.1, hS.c]
      unfold L_X1_setUp_19
      simp only [li_k h2 hb, ↓reduceIte, l2]
      by_cases z : k = c_ σ
      · subst z
        rw [if_pos ((nI_le' (by omega) (by omega)).mpr (Nat.le_refl _))]
        exact ⟨w2, rfl, F2, q1, q2⟩
      · have hk12 : k < 12 := by omega
        rw [if_neg (fun y => by have := (nI_le' (by omega) (by omega)).mp y; omega)]
        simp only [li_r1 h2 hb, li_a2 h2 hb hk12, nx_nI (show k < 2 ^ 31 by omega), li_s h2 hb hk12, bd1_s, li_sk h2 hb hk12, ↓reduceIte, lb_e, nI_s1]
        have F : Fr (fun x => b + 7 ≤ x ∧ x < b + 19) w2 (sI w2 (b + 7 + k) 1 (-1)) := Fr.sI _ _ _ (by omega)
        refine ih (k + 1) (sI w2 (b + 7 + k) 1 (-1)) u (F2.tr F) (by omega) (by omega) (fun i hi => ?_) (fun i j hj => ?_)
        · by_cases y : i = k
          · subst y; rw [wI_ss]
          · rw [wI_s2 _ _ _ (by omega)]; exact q1 i (by omega)
        · rw [wI_sn _ _ (Or.inr hj)]; exact q2 i j hj
  obtain ⟨w2, f2, F2, q1, q2⟩ := LR FU 0 w1 (nI (sitC σ)) (Fr.rf w1) (by omega) (by unfold FU; omega) (fun i hi => absurd hi (Nat.not_lt_zero i)) (fun _ _ _ => rfl)
  have h2 := F2.lay h1
  obtain ⟨w3, f3, q3, F3⟩ := LC FU 0 w2 (nI (sitC σ)) h2 (by omega) (by unfold FU; omega) (fun p hp => absurd hp (Nat.not_lt_zero p))
  have F23 : Fr (fun x => x = b + 3 ∨ (b + 7 ≤ x ∧ x < b + 19)) w1 w3 := (F2.mono (fun a ha => Or.inr ha)).tr (F3.mono (fun a ha => Or.inl ha))
  have F13 : Fr (fun x => x = b + 1 ∨ x = b + 3 ∨ (b + 7 ≤ x ∧ x < b + 19)) w w3 := (F1.mono (fun a ha => Or.inl ha)).tr (F23.mono (fun a ha => Or.inr ha))
  have eb : wI w3 b = wI w b := F13.2.2.2.2 b (by omega)
  have e1 : wI w3 (b + 1) = wI w1 (b + 1) := F23.2.2.2.2 _ (by omega)
  have en : n_ (bnS σ (nI N) r v) = N := by unfold n_; rw [bn_2, nx_nI (by omega)]
  refine ⟨w3, ?_, ⟨⟨?_, ?_, fun i hi j hj => ?_⟩, ⟨fun p hp => ?_, fun j hj => ?_, ?_⟩, hR.2.2.go hb (bn_T h12) F13 (fun x hx => Or.inl (by omega)) (by rw [eb]) (fun k _ => by rw [F13.2.2.2.2 (b + 6) (by omega)])⟩, F13.mono (fun x hx => by omega)⟩
  · simp only [f_X1_setUp, li_k h hb, li_r0 h hb, li_r1 h hb, li_r3 h hb, li_r4 h hb, li_r8 h hb, li_r10 h hb, li_k1 h hb, bd1_s, bd2_s, lb_e, ↓reduceIte, x_seatedCount h hb hS hR.1, f_X0_setUp, lb_e]
    rw [← ew1]
    exact f2.trans f3
  · rw [eb, bn_o (by omega) (by omega) (by omega)]; exact hR.1.1
  · rw [e1, v0, v1, v2, v3, en]
    exact ⟨rfl, rfl, rfl, rfl⟩
  · rw [bn_c] at hi
    rw [F3.2.2.2.2 (b + 7 + i) (by omega)]
    by_cases z : j = 1
    · subst z; rw [q1 i hi, bn_1 hi]
    · rw [q2 i j z, F1.2.2.2.2 _ (by omega), bn_sv hj z]; exact hR.1.2.2 i hi j hj
  · rw [q3 p hp, bn_cu hp]
  · rw [F13.2.2.2.2 (b + 4) (by omega), bn_o (by omega) (by omega) (by omega)]; exact hR.2.1.2.1 j hj
  · rw [eb, bn_o (x := 10) (by omega) (by omega) (by omega), bn_o (x := 5) (by omega) (by omega) (by omega), bn_o (x := 0) (by omega) (by omega) (by omega)]; exact hR.2.1.2.2
theorem E_bench {w : Wd} (I : Iv w) (v u t : Int32) : Ok2 (f_X8_bench 0 v u t) (f_X9_bench 96 v u t) w := by
  have h := I.1
  obtain ⟨hV, hM, hR⟩ := I.2.1
  have hS := hV.1
  have h12 := hS.c12
  by_cases c1 : wi_ v 1 12 = 0
  · exact Ok2.q I (r := -1000000001) (by simp only [f_X8_bench, wi_X, bd2_s, c1, ↓reduceIte]) (by simp only [f_X9_bench, wi_M, bd2_s, c1, ↓reduceIte])
  by_cases c2 : wi_ u 0 1 = 0
  · exact Ok2.q I (r := -1000000001) (by simp only [f_X8_bench, wi_X, bd2_s, c1, c2, ↓reduceIte]) (by simp only [f_X9_bench, wi_M, bd2_s, c1, c2, ↓reduceIte])
  by_cases c3 : wi_ t 0 1 = 0
  · exact Ok2.q I (r := -1000000001) (by simp only [f_X8_bench, wi_X, bd2_s, c1, c2, c3, ↓reduceIte]) (by simp only [f_X9_bench, wi_M, bd2_s, c1, c2, c3, ↓reduceIte])
  obtain ⟨N, hN1, hN, rfl⟩ := wi_ab (v := v) (a := 1) (b := 12) (by decide) c1 (by decide)
  have b01 : ∀ x : Int32, ¬ wi_ x 0 1 = 0 → x = 0 ∨ x = 1 := fun x hx => by
    obtain ⟨k, -, q, rfl⟩ := wi_ab (v := x) (a := 0) (b := 1) (by decide) hx (by decide)
    rcases (show k = 0 ∨ k = 1 by omega) with z | z <;> subst z
    · exact Or.inl rfl
    · exact Or.inr rfl
  obtain ⟨w1, f1, R1, F1⟩ := x_setUp h bI1 hS hR u t hN
  have h1 := F1.lay h
  have e97 : wI w1 97 = wI w 97 := F1.2.2.2.2 97 (by omega)
  obtain ⟨σ, eσ⟩ : ∃ σ, σ = wI w 97 := ⟨_, rfl⟩
  rw [← eσ] at hV hM hR hS h12 e97 R1 f1
  have LC : ∀ n k (w2 : Wd) (y : Int32), Lay w2 → FM w1 w2 → (∀ x, wI w2 97 x = if 12 ≤ x ∧ x < 12 + k then 0 else if 24 ≤ x ∧ x < 24 + 4 * c_ σ ∧ x % 4 = 1 then -1 else σ x) → k ≤ 12 → 12 - k < n → ∃ w3, L_X9_bench_68 n 96 (nI N) u t y (nI k) w2 = some (y, w3) ∧ wI w3 97 = bnS σ (nI N) u t ∧ FM w1 w3 := by
    intro n
    induction n with
    | zero => intro k w2 y _ _ _ _ g; omega
    | succ n ih =>
      intro k w2 y h2 F2 q hk g
      unfold L_X9_bench_68
      rw [show (12 : Int32) = nI 12 from rfl]
      by_cases z : k = 12
      · subst z
        have a2 : aK 11 w2 97 2 = true := la_97 h2 (show 2 < 1444 by decide)
        have F3 : FM w2 (sI w2 97 2 (nI N)) := FM.now _ _
        have h3 := F3.1.lay h2
        have a3 : aK 11 (sI w2 97 2 (nI N)) 97 3 = true := la_97 h3 (show 3 < 1444 by decide)
        have F4 : FM (sI w2 97 2 (nI N)) (sI (sI w2 97 2 (nI N)) 97 3 u) := FM.now _ _
        have h4 := F4.1.lay h3
        have a4 : aK 11 (sI (sI w2 97 2 (nI N)) 97 3 u) 97 4 = true := la_97 h4 (show 4 < 1444 by decide)
        rw [if_pos ((nI_le' (by omega) (by omega)).mpr (Nat.le_refl _))]
        simp only [lk_96 h2, lr_96_0 h2, bd1_s, ↓reduceIte, a2, show nx 2 = 2 from rfl, lb_e, lr_96_0 h3, a3, show nx 3 = 3 from rfl, lr_96_0 h4, a4, show nx 4 = 4 from rfl]
        refine ⟨_, rfl, ?_, ((F2.tr F3).tr F4).tr (FM.now _ _)⟩
        rw [wI_s1, wI_s1, wI_s1]
        funext x
        unfold bnS
        by_cases x2 : x = 2
        · subst x2; rw [upd_n _ _ (by decide), upd_n _ _ (by decide), upd_s]; rfl
        by_cases x3 : x = 3
        · subst x3; rw [upd_n _ _ (by decide), upd_s]; rfl
        by_cases x4 : x = 4
        · subst x4; rw [upd_s]; rfl
        rw [upd_n _ _ x4, upd_n _ _ x3, upd_n _ _ x2, if_neg x2, if_neg x3, if_neg x4, q x]
      · rw [if_neg (fun y => by have := (nI_le' (by omega) (by omega)).mp y; omega), nI_add]
        simp only [lk_96 h2, lr_96_0 h2, bd1_s, ↓reduceIte, la_97 h2 (show 12 + k < 1444 by omega), nx_nI (show 12 + k < 2 ^ 31 by omega), lb_e, nI_s1]
        have F : FM w2 (sI w2 97 (12 + k) 0) := FM.now _ _
        refine ih (k + 1) _ y (F.1.lay h2) (F2.tr F) (fun x => ?_) (by omega) (by omega)
        rw [wI_s1]
        by_cases y : x = 12 + k
        · subst y; rw [upd_s, if_pos (by omega)]
        · rw [upd_n _ _ y, q x]
          by_cases y2 : 12 ≤ x ∧ x < 12 + k
          · rw [if_pos y2, if_pos (by omega)]
          · rw [if_neg y2, if_neg (show ¬ (12 ≤ x ∧ x < 12 + (k + 1)) by omega)]
  have LR : ∀ n k (w2 : Wd) (y : Int32), FM w1 w2 → (∀ x, wI w2 97 x = if 24 ≤ x ∧ x < 24 + 4 * k ∧ x % 4 = 1 then -1 else σ x) → k ≤ c_ σ → c_ σ - k < n → ∃ w3, L_X9_bench_40 n 96 (nI N) u t y (nI k) w2 = some (y, w3) ∧ wI w3 97 = bnS σ (nI N) u t ∧ FM w1 w3 := by
    intro n
    induction n with
    | zero => intro k w2 y _ _ _ g; omega
    | succ n ih =>
      intro k w2 y F2 q hk g
      have h2 := F2.1.lay h1
      have a1 : aK 11 w2 97 1 = true := la_97 h2 (show 1 < 1444 by decide)
      have l2 : wI w2 97 1 = nI (c_ σ) := by rw [q 1, if_neg (by omega), hS.c]
      unfold L_X9_bench_40
      simp only [lk_96 h2, lr_96_0 h2, bd1_s, ↓reduceIte, a1, show nx 1 = 1 from rfl, l2]
      by_cases z : k = c_ σ
      · subst z
        rw [if_pos ((nI_le' (by omega) (by omega)).mpr (Nat.le_refl _))]
        exact LC FU 0 w2 y h2 F2 (fun x => by rw [if_neg (by omega)]; exact q x) (by omega) (by unfold FU; omega)
      · rw [if_neg (fun y => by have := (nI_le' (by omega) (by omega)).mp y; omega)]
        have pt := m_put h2 (show k < 12 by omega) (k := 1) (by decide) (-1)
        rw [show nI 1 = (1 : Int32) from rfl] at pt
        simp only [pt, bd2_s, lb_e, nI_s1]
        refine ih (k + 1) _ y (F2.tr (FM.now _ _)) (fun x => ?_) (by omega) (by omega)
        rw [wI_s1]
        by_cases y : x = 24 + 4 * k + 1
        · subst y; rw [upd_s, if_pos (by omega)]
        · rw [upd_n _ _ y, q x]
          by_cases y2 : 24 ≤ x ∧ x < 24 + 4 * k ∧ x % 4 = 1
          · rw [if_pos y2, if_pos (by omega)]
          · rw [if_neg y2, if_neg (by omega)]
  obtain ⟨w3, f3, n3, F3⟩ := LR FU 0 w1 (nI (sitC σ)) (FM.rf w1) (fun x => by rw [if_neg (by omega), e97]) (by omega) (by unfold FU; omega)
  refine ⟨nI (sitC σ), w1, w3, ?_, h1, ?_, I.now (F1.mono (fun a ha => Or.inl ha)) R1 (hV.bench hN1 hN (b01 u c2) (b01 t c3)) (hM.bench _ _ _) F3 n3⟩
  · simp only [f_X8_bench, wi_X, lk_0 h, lr_0_0 h, bd1_s, bd2_s, lb_e, ↓reduceIte, li_k h bI1, li_r0 h bI1, li_r1 h bI1, li_r3 h bI1, li_r4 h bI1, li_k1 h bI1, c1, c2, c3, f1]
  · simp only [f_X9_bench, wi_M, bd2_s, c1, c2, c3, ↓reduceIte, lk_96 h1, m_manySit h1 e97 hS]
    exact f3
