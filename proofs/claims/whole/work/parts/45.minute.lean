/-! A MINUTE -/
theorem Sv.lo {σ : Nat → Int32} (hS : Sv σ) {j : Nat} (hj : j = 0 ∨ (5 ≤ j ∧ j ≤ 23)) (v : Int32) : Sv (upd σ j v) := by
  have u : ∀ x, x ≠ j → upd σ j v x = σ x := fun x hx => upd_n _ _ hx
  have us : ∀ i f, sv (upd σ j v) i f = sv σ i f := fun i f => by unfold sv; exact u _ (by omega)
  unfold Sv
  rw [c_upd v (by omega), n_upd v (by omega), u 1 (by omega), u 2 (by omega), u 3 (by omega), u 4 (by omega)]
  exact ⟨hS.1, hS.2.1, hS.2.2.1, hS.2.2.2.1, fun i hi => by rw [us, us]; exact hS.2.2.2.2 i hi⟩
theorem seatS_lo (σ : Nat → Int32) {i p x : Nat} (h1 : x < 24) (h2 : x ≠ 10) : seatS σ i p x = σ x := by
  unfold seatS
  rw [upd_n _ _ h2, upd_n _ _ (by omega), upd_n _ _ (by omega), upd_n _ _ (by omega)]
theorem seatS_o (σ : Nat → Int32) {i p j f : Nat} (hj : j ≠ i) (hf : f < 4) : sv (seatS σ i p) j f = sv σ j f := by
  unfold seatS sv
  rw [upd_n _ _ (by omega), upd_n _ _ (by omega), upd_n _ _ (by omega), upd_n _ _ (by omega)]
theorem seatS_0 (σ : Nat → Int32) (i p : Nat) : sv (seatS σ i p) i 0 = sv σ i 0 := by
  unfold seatS sv
  rw [upd_n _ _ (by omega), upd_n _ _ (by omega), upd_n _ _ (by omega), upd_n _ _ (by omega)]
theorem seatS_1 (σ : Nat → Int32) (i p : Nat) : sv (seatS σ i p) i 1 = nI p := by
  unfold seatS sv
  rw [upd_n _ _ (by omega), upd_n _ _ (by omega), upd_n _ _ (by omega), upd_s]
theorem seatS_c (σ : Nat → Int32) (i p : Nat) : c_ (seatS σ i p) = c_ σ := by unfold c_; rw [seatS_lo σ (by decide) (by decide)]
theorem seatS_n (σ : Nat → Int32) (i p : Nat) : n_ (seatS σ i p) = n_ σ := by unfold n_; rw [seatS_lo σ (by decide) (by decide)]
theorem so_tk {σ : Nat → Int32} {j q : Nat} (hj : j < c_ σ) (h : bt (so σ j) q = true) : bt (tk σ) q = true := (oU_b _ q _).mpr ⟨j, hj, h⟩
theorem Vd.seat {σ : Nat → Int32} {i p : Nat} (hV : Vd σ) (hi : i < c_ σ) (hp : p < n_ σ) (hm : myS σ (sv σ i 0) p = true) : Vd (seatS σ i p) := by
  obtain ⟨hS, hP, hT, hD⟩ := hV
  have hc := hS.c12
  have hn := hS.n12
  obtain ⟨hf, hz⟩ := my_fit hm
  have S1 : Sv (upd σ (24 + 4 * i + 1) (nI p)) := hS.updA (Or.inr ⟨p, hp, rfl, hf⟩)
  have S4 : Sv (seatS σ i p) := ((S1.upd23 (Or.inr rfl) _).upd23 (Or.inl rfl) _).lo (Or.inr ⟨by decide, by decide⟩) _
  have so_o : ∀ j, j ≠ i → so (seatS σ i p) j = so σ j := fun j hj => by unfold so; rw [seatS_o σ hj (by decide), seatS_o σ hj (by decide), seatS_n]
  have so_i : so (seatS σ i p) i = sat_ σ (sv σ i 0) p := by
    unfold so sat_
    rw [seatS_1, seatS_0, seatS_n, if_neg (nI_nlt0 (by omega)), nx_nI (by omega)]
  have dj : ∀ j, j < c_ σ → ∀ q, bt (sat_ σ (sv σ i 0) p) q = true → bt (so σ j) q = true → False := by
    intro j hj q h1 h2
    have h3 := so_tk hj h2
    have h4 : bt (sat_ σ (sv σ i 0) p &&& tk σ) q = true := by rw [b_and, h1, h3]; rfl
    rw [hz, b_0] at h4
    cases h4
  refine ⟨S4, ⟨by rw [seatS_lo σ (by decide) (by decide)]; exact hP.1, fun q hq => by rw [seatS_lo σ (by omega) (by omega)]; exact hP.2 q hq⟩, (seatS_Tsm (by omega)).tv hT, ?_⟩
  intro a b hab hb q hq
  rw [seatS_c] at hb
  by_cases z : a = i
  · subst z
    rw [so_i, so_o b (by omega)]
    exact fun x => dj b hb q x.1 x.2
  · by_cases z2 : b = i
    · subst z2
      rw [so_i, so_o a z]
      exact fun x => dj a (by omega) q x.2 x.1
    · rw [so_o a z, so_o b z2]
      exact hD a b hab hb q hq
theorem Vd.rise {σ : Nat → Int32} (hV : Vd σ) {i : Nat} (hi : i < 12) : Vd (upd σ (24 + 4 * i + 1) (-1)) := by
  obtain ⟨hS, hP, hT, hD⟩ := hV
  have u : ∀ x, x < 24 → upd σ (24 + 4 * i + 1) (-1) x = σ x := fun x hx => upd_n _ _ (by omega)
  have so_o : ∀ j, j ≠ i → so (upd σ (24 + 4 * i + 1) (-1)) j = so σ j := fun j hj => by
    unfold so sv
    rw [upd_n _ _ (by omega), upd_n _ _ (by omega), n_upd _ (by omega)]
  have so_i : so (upd σ (24 + 4 * i + 1) (-1)) i = 0 := by
    unfold so sv
    rw [upd_s, if_pos m1_lt]
  refine ⟨hS.updA (Or.inl rfl), ⟨by rw [u 6 (by decide)]; exact hP.1, fun p hp => by rw [u _ (by omega)]; exact hP.2 p hp⟩, (Tsm.upd _ (by omega) (by omega)).tv hT, ?_⟩
  intro a b hab hb q hq
  rw [c_upd _ (by omega)] at hb
  by_cases z : a = i
  · subst z; rw [so_i, b_0]; exact fun x => by cases x.1
  · by_cases z2 : b = i
    · subst z2; rw [so_i, b_0]; exact fun x => by cases x.2
    · rw [so_o a z, so_o b z2]
      exact hD a b hab hb q hq
theorem myS_cr {σ : Nat → Int32} (k : Int32) (p : Nat) : myS (cr σ) k p = myS σ k p := by
  have h3 : cr σ 3 = σ 3 := cr_n σ (by decide)
  have h4 : cr σ 4 = σ 4 := cr_n σ (by decide)
  have hso : so (cr σ) = so σ := by funext i; unfold so; rw [cr_sv, cr_sv, cr_N]
  have htk : tk (cr σ) = tk σ := by unfold tk; rw [hso, cr_c]
  have htf : tf (cr σ) = tf σ := by unfold tf; simp only [cr_sv, hso, cr_c]
  unfold myS sat_ sd fs_
  rw [htk, htf, cr_N, h3, h4]
theorem comeS_ok {σ : Nat → Int32} (hV : Vd σ) : Vd (comeS σ).1 ∧ ((comeS σ).2 = 0 ∨ (comeS σ).2 = 1) := by
  unfold comeS
  cases e : fs1 σ with
  | none => exact ⟨hV, Or.inl rfl⟩
  | some i =>
    obtain ⟨-, h2, h3⟩ := fsF_ok e
    show Vd (if pl σ i = 0 then (σ, (0 : Int32)) else (seatS (cr σ) i (chP σ (pl σ i)), 1)).1 ∧ _
    by_cases z : pl σ i = 0
    · simp only [z, ↓reduceIte]; exact ⟨hV, Or.inl trivial⟩
    · simp only [z, ↓reduceIte]
      have hS := hV.1
      have hn := hS.n12
      have hch := chP_ok hS (pl_Bd hS i) z
      have hmy := pl_my hS (show chP σ (pl σ i) < 32 by omega) hch.2
      exact ⟨(cr_Vd hV).seat (by rw [cr_c]; omega) (by rw [cr_N]; exact hch.1) (by rw [cr_sv, myS_cr]; exact hmy.2.2), Or.inr trivial⟩
def ris (σ : Nat → Int32) : Nat → Int32 := if c_ σ = 0 then σ else upd (drw σ) (24 + 4 * nx (irem (dv σ) (σ 1)) + 1) (-1)
def hfA (σ : Nat → Int32) : Nat → Int32 := if drw σ 8 ≤ irem (dv σ) 100 then drw σ else (comeS (drw σ)).1
def hf2 (σ : Nat → Int32) : Nat → Int32 := if drw σ 9 ≤ irem (dv σ) 100 then drw σ else ris (drw σ)
def minS (σ : Nat → Int32) : Nat → Int32 := upd (hf2 (hfA σ)) 5 (hf2 (hfA σ) 5 + 1)
def minF (σ : Nat → Int32) : Int32 := if drw σ 8 ≤ irem (dv σ) 100 then 0 else (comeS (drw σ)).2
theorem ris_i {σ : Nat → Int32} (hS : Sv σ) (h0 : ¬ c_ σ = 0) : ∃ k, k < c_ σ ∧ irem (dv σ) (σ 1) = nI k := by
  obtain ⟨d, hd, e⟩ := ushr8 (dz σ)
  have h12 := hS.c12
  refine ⟨d % c_ σ, Nat.mod_lt _ (by omega), ?_⟩
  show irem (ushr (dz σ) 8) _ = _
  rw [e, hS.c, irem_nI (by omega) (by omega) (by omega)]
theorem ris_ok {σ : Nat → Int32} (hV : Vd σ) : Vd (ris σ) := by
  unfold ris
  split
  · exact hV
  · rename_i h0
    obtain ⟨k, hk, e⟩ := ris_i hV.1 h0
    have h12 := hV.1.c12
    rw [e, nx_nI (by omega)]
    exact hV.drw.rise (by omega)
theorem hfA_ok {σ : Nat → Int32} (hV : Vd σ) : Vd (hfA σ) := by
  unfold hfA
  split
  · exact hV.drw
  · exact (comeS_ok hV.drw).1
theorem minF_ok {σ : Nat → Int32} (hV : Vd σ) : minF σ = 0 ∨ minF σ = 1 := by
  unfold minF
  split
  · exact Or.inl rfl
  · exact (comeS_ok hV.drw).2
theorem hf2_ok {σ : Nat → Int32} (hV : Vd σ) : Vd (hf2 σ) := by
  unfold hf2
  split
  · exact hV.drw
  · exact ris_ok hV.drw
theorem minS_ok {σ : Nat → Int32} (hV : Vd σ) : Vd (minS σ) := (hf2_ok (hfA_ok hV)).num _ (Or.inr (Or.inl rfl))
theorem minS_a {σ : Nat → Int32} (c : drw σ 8 ≤ irem (dv σ) 100) : minS σ = upd (hf2 (drw σ)) 5 (hf2 (drw σ) 5 + 1) := by unfold minS hfA; rw [if_pos c]
theorem minF_a {σ : Nat → Int32} (c : drw σ 8 ≤ irem (dv σ) 100) : minF σ = 0 := by unfold minF; rw [if_pos c]
theorem minS_b {σ : Nat → Int32} (c : ¬ drw σ 8 ≤ irem (dv σ) 100) : minS σ = upd (hf2 (comeS (drw σ)).1) 5 (hf2 (comeS (drw σ)).1 5 + 1) := by unfold minS hfA; rw [if_neg c]
theorem minF_b {σ : Nat → Int32} (c : ¬ drw σ 8 ≤ irem (dv σ) 100) : minF σ = (comeS (drw σ)).2 := by unfold minF; rw [if_neg c]
/-! the class -/
theorem x_oneRises {w : Wd} {b : Nat} {σ : Nat → Int32} (h : Lay w) (hb : bI b) (hV : Vd σ) (hR : RI w b σ) : ∃ w', f_X1_oneRises b w = some ((), w') ∧ RI w' b (ris σ) ∧ Fr (In_ b) w w' := by
  have hS := hV.1
  have h12 := hS.c12
  unfold ris
  by_cases h0 : c_ σ = 0
  · rw [if_pos h0]
    refine ⟨w, ?_, hR, Fr.rf w⟩
    simp only [f_X1_oneRises, li_k h hb, li_r0 h hb, li_r1 h hb, li_r3 h hb, li_r4 h hb, li_r8 h hb, li_r10 h hb, li_k1 h hb, bd1_s, bd2_s, lb_e, ↓reduceIte, hR.1.1, hS.c, h0]
    rfl
  · rw [if_neg h0]
    obtain ⟨d1, d2, d3⟩ := x_draw h hb hV hR
    have h1 := d3.lay h
    obtain ⟨k, hk, ek⟩ := ris_i hS h0
    have hk12 : k < 12 := by omega
    have e1 : wI (sI w b 7 (dz σ)) b 2 = σ 1 := by rw [wI_sn _ _ (Or.inr (by decide))]; exact hR.1.1
    rw [ek, nx_nI (by omega)]
    refine ⟨sI (sI w b 7 (dz σ)) (b + 7 + k) 1 (-1), ?_, d2.sit hb hV.drw.1 (by rw [drw_c]; exact hk) (by decide) _, d3.tr (Fr.sI _ _ _ (Or.inl ⟨by omega, by omega⟩))⟩
    have hle : ¬ nI (c_ σ) ≤ 0 := nI_nle (by omega) (by omega)
    have hne : ¬ nI (c_ σ) = 0 := nI_ne0 (by omega) (by omega)
    rw [hS.c] at ek
    have q1 := hR.1.1
    rw [hS.c] at q1 e1
    simp only [f_X1_oneRises, li_k h hb, li_r0 h hb, li_r1 h hb, li_r3 h hb, li_r4 h hb, li_r8 h hb, li_r10 h hb, li_k1 h hb, bd1_s, bd2_s, lb_e, ↓reduceIte, q1, hle, d1, li_k h1 hb, e1, hne, not_false_eq_true, ek, li_a2 h1 hb hk12, nx_nI (show k < 2 ^ 31 by omega), li_s h1 hb hk12, li_sk h1 hb hk12]
theorem x_pass49 {w : Wd} {b : Nat} {σ : Nat → Int32} (h : Lay w) (hb : bI b) (hV : Vd σ) (hR : RI w b σ) {f : Int32} (hf : f = 0 ∨ f = 1) : j_X1_passOne_49 b f w = some (f, sI w b 6 (σ 5 + 1)) ∧ RI (sI w b 6 (σ 5 + 1)) b (upd σ 5 (σ 5 + 1)) ∧ Fr (In_ b) w (sI w b 6 (σ 5 + 1)) := by
  refine ⟨?_, hR.num hb hV.1 (Or.inr (Or.inl ⟨rfl, rfl⟩)) _, Fr.sI _ _ _ (Or.inl ⟨by omega, by omega⟩)⟩
  simp only [j_X1_passOne_49, li_k h hb, li_r0 h hb, li_r1 h hb, li_r3 h hb, li_r4 h hb, li_r8 h hb, li_r10 h hb, li_k1 h hb, bd1_s, bd2_s, lb_e, ↓reduceIte, hR.2.1.2.2.2.1, hf]
theorem x_pass28 {w : Wd} {b : Nat} {σ : Nat → Int32} (h : Lay w) (hb : bI b) (hV : Vd σ) (hR : RI w b σ) {f : Int32} (hf : f = 0 ∨ f = 1) : ∃ w', j_X1_passOne_28 b f w = some (f, w') ∧ RI w' b (upd (hf2 σ) 5 (hf2 σ 5 + 1)) ∧ Fr (In_ b) w w' := by
  obtain ⟨d1, d2, d3⟩ := x_draw h hb hV hR
  have h1 := d3.lay h
  have e9 : wI (sI w b 7 (dz σ)) (b + 4) 3 = drw σ 9 := d2.2.1.2.1 3 (by decide)
  have a3 : aK 11 (sI w b 7 (dz σ)) (b + 4) 3 = true := li_a4 h1 hb (show 3 < 4 by decide)
  unfold j_X1_passOne_28 hf2
  simp only [li_k h hb, li_r0 h hb, li_r1 h hb, li_r3 h hb, li_r4 h hb, li_r8 h hb, li_r10 h hb, li_k1 h hb, bd1_s, bd2_s, lb_e, ↓reduceIte, d1, li_k h1 hb, li_r4 h1 hb, a3, show nx 3 = 3 from rfl, e9]
  by_cases c : drw σ 9 ≤ irem (dv σ) 100
  · simp only [c, ↓reduceIte]
    obtain ⟨q1, q2, q3⟩ := x_pass49 h1 hb hV.drw d2 hf
    exact ⟨_, q1, q2, d3.tr q3⟩
  · simp only [c, ↓reduceIte]
    obtain ⟨w2, r1, r2, r3⟩ := x_oneRises h1 hb hV.drw d2
    obtain ⟨q1, q2, q3⟩ := x_pass49 (r3.lay h1) hb (ris_ok hV.drw) r2 hf
    refine ⟨_, ?_, q2, (d3.tr r3).tr q3⟩
    rw [r1, bd2_s, q1]
theorem x_passOne {w : Wd} {b : Nat} {σ : Nat → Int32} (h : Lay w) (hb : bI b) (hV : Vd σ) (hR : RI w b σ) : ∃ w', f_X1_passOne b w = some (minF σ, w') ∧ RI w' b (minS σ) ∧ Fr (In_ b) w w' := by
  obtain ⟨d1, d2, d3⟩ := x_draw h hb hV hR
  have h1 := d3.lay h
  have e8 : wI (sI w b 7 (dz σ)) (b + 4) 2 = drw σ 8 := d2.2.1.2.1 2 (by decide)
  have a2 : aK 11 (sI w b 7 (dz σ)) (b + 4) 2 = true := li_a4 h1 hb (show 2 < 4 by decide)
  have hJ : f_X1_passOne b w = if drw σ 8 ≤ irem (dv σ) 100 then j_X1_passOne_28 b 0 (sI w b 7 (dz σ)) else bd2 (f_X1_oneComes b (sI w b 7 (dz σ))) fun r w2 => j_X1_passOne_28 b (if r = 0 then 0 else 1) w2 := by
    unfold f_X1_passOne
    simp only [li_k h hb, li_r0 h hb, li_r1 h hb, li_r3 h hb, li_r4 h hb, li_r8 h hb, li_r10 h hb, li_k1 h hb, bd1_s, bd2_s, lb_e, ↓reduceIte, d1, li_k h1 hb, li_r4 h1 hb, a2, show nx 2 = 2 from rfl, e8, j_X1_passOne_27, j_X1_passOne_28]
  rw [hJ]
  generalize sI w b 7 (dz σ) = w1 at d2 d3 h1
  by_cases c : drw σ 8 ≤ irem (dv σ) 100
  · rw [if_pos c, minS_a c, minF_a c]
    obtain ⟨w', q1, q2, q3⟩ := x_pass28 h1 hb hV.drw d2 (f := 0) (Or.inl rfl)
    exact ⟨w', q1, q2, d3.tr q3⟩
  · rw [if_neg c, minS_b c, minF_b c]
    obtain ⟨w2, r1, r2, r3⟩ := x_oneComes h1 hb hV.drw d2
    have hok := comeS_ok hV.drw
    have ef : (if (comeS (drw σ)).2 = 0 then (0 : Int32) else 1) = (comeS (drw σ)).2 := by
      rcases hok.2 with e | e
      · rw [e, if_pos rfl]
      · rw [e, if_neg (by decide)]
    have h2 := r3.lay h1
    obtain ⟨w', q1, q2, q3⟩ := x_pass28 h2 hb hok.1 r2 hok.2
    refine ⟨w', ?_, q2, (d3.tr r3).tr q3⟩
    rw [r1, bd2_s, ef, q1]
/-! the reference -/
theorem m_min74 {w : Wd} {σ : Nat → Int32} (h : Lay w) (hσ : wI w 97 = σ) : j_X9_minute_74 96 w = some ((), sI w 97 5 (σ 5 + 1)) ∧ wI (sI w 97 5 (σ 5 + 1)) 97 = upd σ 5 (σ 5 + 1) := by
  have a5 : aK 11 w 97 5 = true := la_97 h (show 5 < 1444 by decide)
  refine ⟨?_, by rw [wI_s1, hσ]⟩
  simp only [j_X9_minute_74, lk_96 h, lr_96_0 h, bd1_s, bd2_s, lb_e, ↓reduceIte, a5, show nx 5 = 5 from rfl, hσ]
theorem m_min21 {w : Wd} {σ : Nat → Int32} (h : Lay w) (hσ : wI w 97 = σ) (hV : Vd σ) : ∃ w', j_X9_minute_21 96 w = some ((), w') ∧ wI w' 97 = upd (hf2 σ) 5 (hf2 σ 5 + 1) ∧ Fr (fun a => a = 97) w w' := by
  obtain ⟨d1, d2⟩ := m_draw h hσ
  have h1 : Lay (sI w 97 0 (dz σ)) := h.sI _ _ _
  have F1 : Fr (fun a => a = 97) w (sI w 97 0 (dz σ)) := Fr.sI _ _ _ rfl
  generalize ew : sI w 97 0 (dz σ) = w1 at d1 d2 h1 F1
  have a9 : aK 11 w1 97 9 = true := la_97 h1 (show 9 < 1444 by decide)
  have a1 : aK 11 w1 97 1 = true := la_97 h1 (show 1 < 1444 by decide)
  have hS := hV.drw.1
  have h12 := hS.c12
  unfold j_X9_minute_21 hf2
  simp only [lk_96 h, lr_96_0 h, bd1_s, bd2_s, lb_e, ↓reduceIte, d1, lk_96 h1, lr_96_0 h1, a9, show nx 9 = 9 from rfl, d2]
  by_cases c : drw σ 9 ≤ irem (dv σ) 100
  · simp only [c, ↓reduceIte]
    obtain ⟨q1, q2⟩ := m_min74 h1 d2
    exact ⟨_, q1, q2, F1.tr (Fr.sI _ _ _ rfl)⟩
  · simp only [c, ↓reduceIte, show ¬ (1 : Int32) = 0 by decide, a1, show nx 1 = 1 from rfl, d2, hS.c]
    unfold ris
    by_cases h0 : c_ (drw σ) = 0
    · rw [h0, if_pos (show nI 0 ≤ 0 by decide), if_pos rfl]
      obtain ⟨q1, q2⟩ := m_min74 h1 d2
      exact ⟨_, q1, q2, F1.tr (Fr.sI _ _ _ rfl)⟩
    · rw [if_neg (nI_nle (by omega) (by omega)), if_neg h0]
      obtain ⟨e1, e2⟩ := m_draw h1 d2
      have h2 : Lay (sI w1 97 0 (dz (drw σ))) := h1.sI _ _ _
      have F2 : Fr (fun a => a = 97) w1 (sI w1 97 0 (dz (drw σ))) := Fr.sI _ _ _ rfl
      generalize ew2 : sI w1 97 0 (dz (drw σ)) = w2 at e1 e2 h2 F2
      obtain ⟨k, hk, ek⟩ := ris_i hS h0
      have b1 : aK 11 w2 97 1 = true := la_97 h2 (show 1 < 1444 by decide)
      have ec : drw (drw σ) 1 = nI (c_ (drw σ)) := by rw [drw_n _ (by decide)]; exact hS.c
      have hne : ¬ nI (c_ (drw σ)) = 0 := nI_ne0 (by omega) (by omega)
      rw [ek, nx_nI (by omega)]
      rw [hS.c] at ek
      have pt := m_put h2 (show k < 12 by omega) (k := 1) (by decide) (-1)
      rw [show nI 1 = (1 : Int32) from rfl] at pt
      have h3 : Lay (sI w2 97 (24 + 4 * k + 1) (-1)) := h2.sI _ _ _
      have n3 : wI (sI w2 97 (24 + 4 * k + 1) (-1)) 97 = upd (drw (drw σ)) (24 + 4 * k + 1) (-1) := by rw [wI_s1, e2]
      obtain ⟨q1, q2⟩ := m_min74 h3 n3
      refine ⟨_, ?_, q2, ((F1.tr F2).tr (Fr.sI _ _ _ rfl)).tr (Fr.sI _ _ _ rfl)⟩
      simp only [e1, bd2_s, lk_96 h2, lr_96_0 h2, bd1_s, b1, ↓reduceIte, e2, ec, hne, not_false_eq_true, ek, pt, q1]
theorem m_minute {w : Wd} {σ : Nat → Int32} (h : Lay w) (hσ : wI w 97 = σ) (hV : Vd σ) : ∃ w', f_X9_minute 96 w = some ((), w') ∧ wI w' 97 = minS σ ∧ wI w' 96 4 = wI w 96 4 + minF σ ∧ FM w w' := by
  obtain ⟨d1, d2⟩ := m_draw h hσ
  have h1 : Lay (sI w 97 0 (dz σ)) := h.sI _ _ _
  have F1 : FM w (sI w 97 0 (dz σ)) := FM.now _ _
  have E1 : wI (sI w 97 0 (dz σ)) 96 4 = wI w 96 4 := by rw [wI_s2 _ _ _ (by decide)]
  generalize ew : sI w 97 0 (dz σ) = w1 at d1 d2 h1 F1 E1
  have a8 : aK 11 w1 97 8 = true := la_97 h1 (show 8 < 1444 by decide)
  have hJ : f_X9_minute 96 w = if drw σ 8 ≤ irem (dv σ) 100 then j_X9_minute_21 96 w1 else bd2 (f_X9_comesIn 96 w1) fun r w2 => j_X9_minute_21 96 w2 := by
    unfold f_X9_minute
    simp only [lk_96 h, lr_96_0 h, bd1_s, bd2_s, lb_e, ↓reduceIte, d1, lk_96 h1, lr_96_0 h1, a8, show nx 8 = 8 from rfl, d2]
  rw [hJ]
  have fm : ∀ {w w' : Wd}, Fr (fun a => a = 97) w w' → FM w w' := fun hf => FM.of (hf.mono (fun a ha => Or.inl ha))
  by_cases c : drw σ 8 ≤ irem (dv σ) 100
  · rw [if_pos c, minS_a c, minF_a c]
    obtain ⟨w', q1, q2, q3⟩ := m_min21 h1 d2 hV.drw
    exact ⟨w', q1, q2, by rw [q3.2.2.2.2 96 (by decide), E1, Int32.add_zero], F1.tr (fm q3)⟩
  · rw [if_neg c, minS_b c, minF_b c]
    obtain ⟨w2, r1, r2, r3, r4⟩ := m_comesIn h1 d2 hV.drw
    obtain ⟨w', q1, q2, q3⟩ := m_min21 (r4.1.lay h1) r2 (comeS_ok hV.drw).1
    refine ⟨w', ?_, q2, by rw [q3.2.2.2.2 96 (by decide), r3, E1], (F1.tr r4).tr (fm q3)⟩
    rw [r1, bd2_s, q1]
