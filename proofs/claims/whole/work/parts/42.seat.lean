/-! SITTING DOWN -/
def F3 (a b c : Int32) : Nat → Int32 := fun j => if j = 0 then a else if j = 2 then c else b
def fareS (σ : Nat → Int32) (p : Nat) (sat : Int32) : Int32 := match lst σ 0 (T_ σ) with
  | none => σ 6 + σ (12 + p)
  | some t => hld (VL (F3 (σ 6) (σ (12 + p)) sat) (tokT σ t) (lenT σ t)) (-999) 999
def shr (k f : Int32) : Int32 := if k = 1 then 2 * f else if k = 2 then f - 2 else if k = 3 then 2 * f + 1 else if k = 4 then (f - 2) / 2 else f
def payS (σ : Nat → Int32) (i p : Nat) : Int32 := shr (sv σ i 0) (fareS σ p (sv σ i 3))
def seatS (σ : Nat → Int32) (i p : Nat) : Nat → Int32 := upd (upd (upd (upd σ (24 + 4 * i + 1) (nI p)) (24 + 4 * i + 3) (sv σ i 3 + 1)) (24 + 4 * i + 2) (hld (sv σ i 2 - payS σ i p) (-9999) 9999)) 10 (σ 10 + payS σ i p)
theorem hld_in {a b : Nat} (ha : a ≤ 99) (hb : b ≤ 99) : hld (nI a + nI b) (-999) 999 = nI a + nI b := by
  rw [nI_add]
  unfold hld
  rw [if_pos (by rw [le_I, nI_toInt (by omega), show (-999 : Int32).toInt = -999 from rfl]; omega), if_pos (by rw [le_I, nI_toInt (by omega), show (999 : Int32).toInt = 999 from rfl]; omega)]
theorem x_fare {w : Wd} {b p : Nat} {σ : Nat → Int32} (h : Lay w) (hb : bI b) (hV : Vd σ) (hR : RI w b σ) (hp : p < 12) (sat : Int32) : ∃ w', f_X1_fare b (nI p) sat w = some (fareS σ p sat, w') ∧ Fr Sk w w' := by
  have e6 : wI w (b + 4) 0 = σ 6 := hR.2.1.2.1 0 (by decide)
  have ep : wI w (b + 3) p = σ (12 + p) := hR.2.1.1 p hp
  have hl := x_lawOf h hb hV.2.2.1 hR.2.2 (key := 0) (by decide)
  rw [show nI 0 = (0 : Int32) from rfl] at hl
  obtain ⟨⟨q1, g1, g2⟩, hq⟩ := hV.2.1
  obtain ⟨q2, g3, g4⟩ := hq p hp
  cases e : lst σ 0 (T_ σ) with
  | none =>
    refine ⟨w, ?_, Fr.rf w⟩
    simp only [f_X1_fare, li_k h hb, li_r0 h hb, li_r1 h hb, li_r3 h hb, li_r4 h hb, li_r8 h hb, li_r10 h hb, li_k1 h hb, bd1_s, bd2_s, lb_e, ↓reduceIte, show aK 11 w (b + 4) 0 = true from li_a4 h hb (show 0 < 4 by decide), show nx 0 = 0 from rfl, e6, li_a3 h hb hp, nx_nI (show p < 2 ^ 31 by omega), ep, hl.1 e, mt_e0, j_X1_fare_43, hld_X]
    unfold fareS
    rw [e]
    show some (hld (σ 6 + σ (12 + p)) (-999) 999, w) = some (σ 6 + σ (12 + p), w)
    rw [g2, g4, hld_in g1 g3]
  | some t =>
    obtain ⟨a, e1, e2⟩ := hl.2 t e
    have hx := hV.2.2.1.2.2 t (lst_lt e).1
    have hk := (lst_lt e).2
    obtain ⟨w', v1, v2⟩ := x_value e2 hx.2.2.2.2 (by unfold nmK; split <;> decide) (F := F3 (σ 6) (σ (12 + p)) sat) (v1 := σ 6) (v2 := σ (12 + p)) (v3 := sat) (fun j _ => rfl)
    refine ⟨w', ?_, v2⟩
    simp only [f_X1_fare, li_k h hb, li_r0 h hb, li_r1 h hb, li_r3 h hb, li_r4 h hb, li_r8 h hb, li_r10 h hb, li_k1 h hb, bd1_s, bd2_s, lb_e, ↓reduceIte, show aK 11 w (b + 4) 0 = true from li_a4 h hb (show 0 < 4 by decide), show nx 0 = 0 from rfl, e6, li_a3 h hb hp, nx_nI (show p < 2 ^ 31 by omega), ep, e1, mt_e1, e2.2.1.1, v1, j_X1_fare_43, hld_X]
    unfold fareS
    rw [e]
theorem x_share {w : Wd} {a : Nat} (h4 : wK w a = 4) (f : Int32) : f_X4_share a f w = some (shr (wI w a 0) f, w) := by
  simp only [f_X4_share, h4, ↓reduceIte, shr]
  split
  · rfl
  · split
    · rfl
    · split
      · rfl
      · split <;> rfl
theorem seatS_Tsm {σ : Nat → Int32} {i p : Nat} (hi : i < 12) : Tsm σ (seatS σ i p) := (((Tsm.upd _ (by omega) (by omega)).tr (Tsm.upd _ (by omega) (by omega))).tr (Tsm.upd _ (by omega) (by omega))).tr (Tsm.upd _ (by omega) (by omega))
theorem Sv.upd23 {σ : Nat → Int32} (hS : Sv σ) {i j : Nat} (hj : j = 2 ∨ j = 3) (v : Int32) : Sv (upd σ (24 + 4 * i + j) v) := by
  have u : ∀ x, x < 24 → upd σ (24 + 4 * i + j) v x = σ x := fun x hx => upd_n _ _ (by omega)
  have us : ∀ k f, f < 2 → sv (upd σ (24 + 4 * i + j) v) k f = sv σ k f := fun k f hf => by unfold sv; exact upd_n _ _ (by omega)
  unfold Sv
  rw [c_upd v (by omega), n_upd v (by omega), u 1 (by omega), u 2 (by omega), u 3 (by omega), u 4 (by omega)]
  exact ⟨hS.1, hS.2.1, hS.2.2.1, hS.2.2.2.1, fun k hk => by rw [us _ _ (by decide), us _ _ (by decide)]; exact hS.2.2.2.2 k hk⟩
theorem Sv.updA {σ : Nat → Int32} (hS : Sv σ) {i : Nat} {v : Int32} (hv : v = -1 ∨ ∃ p, p < n_ σ ∧ v = nI p ∧ fit_ σ (sv σ i 0) p) : Sv (upd σ (24 + 4 * i + 1) v) := by
  have u : ∀ x, x < 24 → upd σ (24 + 4 * i + 1) v x = σ x := fun x hx => upd_n _ _ (by omega)
  have u0 : ∀ k, sv (upd σ (24 + 4 * i + 1) v) k 0 = sv σ k 0 := fun k => by unfold sv; exact upd_n _ _ (by omega)
  unfold Sv
  rw [c_upd v (by omega), n_upd v (by omega), u 1 (by omega), u 2 (by omega), u 3 (by omega), u 4 (by omega)]
  refine ⟨hS.1, hS.2.1, hS.2.2.1, hS.2.2.2.1, fun k hk => ?_⟩
  rw [u0]
  refine ⟨(hS.2.2.2.2 k hk).1, ?_⟩
  by_cases z : k = i
  · subst z
    rw [show sv (upd σ (24 + 4 * k + 1) v) k 1 = v from upd_s _ _ _]
    exact hv
  · rw [show sv (upd σ (24 + 4 * i + 1) v) k 1 = sv σ k 1 from upd_n _ _ (by omega)]
    exact (hS.2.2.2.2 k hk).2
/-- the cells of an Inn, and stacks -/
def In_ (b a : Nat) : Prop := (b ≤ a ∧ a < b + 19) ∨ Sk a
theorem x_seat {w : Wd} {b i p : Nat} {σ : Nat → Int32} (h : Lay w) (hb : bI b) (hV : Vd σ) (hR : RI w b σ) (hi : i < c_ σ) (hp : p < n_ σ) (hf : fit_ σ (sv σ i 0) p) : ∃ w', f_X1_seat b (b + 7 + i) (nI p) w = some (payS σ i p, w') ∧ RI w' b (seatS σ i p) ∧ Fr (In_ b) w w' := by
  have hS := hV.1
  have hc := hS.c12
  have hn := hS.n12
  have hbl := bI_lt hb
  have e3 : wI w (b + 7 + i) 3 = sv σ i 3 := hR.1.2.2 i hi 3 (by decide)
  obtain ⟨w1, f1, g1⟩ := x_fare h hb hV hR (show p < 12 by omega) (sv σ i 3)
  have h1 := g1.lay h
  have R1 : RI w1 b σ := hR.fr hb hS g1 (fun x hx => ⟨Or.inr (by have := hx.1; omega), Or.inr hx.2⟩)
  have h4 := li_sk h hb (show i < 12 by omega)
  have h41 := li_sk h1 hb (show i < 12 by omega)
  have e0 : wI w1 (b + 7 + i) 0 = sv σ i 0 := R1.1.2.2 i hi 0 (by decide)
  have e31 : wI w1 (b + 7 + i) 3 = sv σ i 3 := R1.1.2.2 i hi 3 (by decide)
  have e21 : wI w1 (b + 7 + i) 2 = sv σ i 2 := R1.1.2.2 i hi 2 (by decide)
  have e51 : wI w1 b 5 = σ 10 := R1.2.1.2.2.1
  have hpay : shr (sv σ i 0) (fareS σ p (sv σ i 3)) = payS σ i p := rfl
  have S1 : Sv (upd σ (24 + 4 * i + 1) (nI p)) := hS.updA (Or.inr ⟨p, hp, rfl, hf⟩)
  have S2 : Sv (upd (upd σ (24 + 4 * i + 1) (nI p)) (24 + 4 * i + 3) (sv σ i 3 + 1)) := S1.upd23 (Or.inr rfl) _
  have S3 : Sv (upd (upd (upd σ (24 + 4 * i + 1) (nI p)) (24 + 4 * i + 3) (sv σ i 3 + 1)) (24 + 4 * i + 2) (hld (sv σ i 2 - payS σ i p) (-9999) 9999)) := S2.upd23 (Or.inl rfl) _
  refine ⟨sI (sI (sI (sI w1 (b + 7 + i) 1 (nI p)) (b + 7 + i) 3 (sv σ i 3 + 1)) (b + 7 + i) 2 (hld (sv σ i 2 - payS σ i p) (-9999) 9999)) b 5 (σ 10 + payS σ i p), ?_, ?_, ?_⟩
  · simp only [f_X1_seat, h4, li_k h hb, ↓reduceIte, e3, f1, bd2_s, h41, x_share h41, e0, lb_e, wK_sI, li_k h1 hb, hld_X, hpay]
    rw [wI_sn _ _ (Or.inr (show 3 ≠ 1 by decide)), e31, wI_sn _ _ (Or.inr (show 2 ≠ 3 by decide)), wI_sn _ _ (Or.inr (show 2 ≠ 1 by decide)), e21, wI_sn _ _ (Or.inl (show b ≠ b + 7 + i by omega)), wI_sn _ _ (Or.inl (show b ≠ b + 7 + i by omega)), wI_sn _ _ (Or.inl (show b ≠ b + 7 + i by omega)), e51]
  · exact (((R1.sit hb hS hi (by decide) (nI p)).sit hb S1 (by rw [c_upd _ (by omega)]; exact hi) (by decide) (sv σ i 3 + 1)).sit hb S2 (by rw [c_upd _ (by omega), c_upd _ (by omega)]; exact hi) (by decide) _).num hb S3 (Or.inl ⟨rfl, rfl⟩) _
  · have hI : In_ b (b + 7 + i) := Or.inl ⟨by omega, by omega⟩
    have hI0 : In_ b b := Or.inl ⟨by omega, by omega⟩
    exact ((((g1.mono (B := In_ b) (fun a ha => Or.inr ha)).tr (Fr.sI _ _ _ hI)).tr (Fr.sI _ _ _ hI)).tr (Fr.sI _ _ _ hI)).tr (Fr.sI (A := In_ b) (a := b) _ _ _ hI0)
/-! the reference -/
theorem m_put {w : Wd} (h : Lay w) {s k : Nat} (hs : s < 12) (hk : k < 4) (v : Int32) : f_X9_put 96 (nI s) (nI k) v w = some ((), sI w 97 (24 + 4 * s + k) v) := by
  have e : (24 : Int32) + 4 * nI s + nI k = nI (24 + 4 * s + k) := by rw [show (24 : Int32) = nI 24 from rfl, show (4 : Int32) = nI 4 from rfl, nI_mul, nI_add, nI_add]
  simp only [f_X9_put, lk_96 h, lr_96_0 h, bd1_s, bd2_s, lb_e, ↓reduceIte, e, la_97 h (show 24 + 4 * s + k < 1444 by omega), nx_nI (show 24 + 4 * s + k < 2 ^ 31 by omega)]
theorem F3_at (a b c : Int32) (j : Nat) : F3 a b c j = if j = 0 then a else if j = 2 then c else b := rfl
theorem m_pays {w : Wd} {σ : Nat → Int32} {i p : Nat} (h : Lay w) (hσ : wI w 97 = σ) (hV : Vd σ) (hi : i < c_ σ) (hp : p < 12) : ∃ w', f_X9_paysAt 96 (nI i) (nI p) w = some (payS σ i p, w') ∧ Fr (fun a => a = 108 ∨ a = 109) w w' := by
  have hc := hV.1.c12
  have hT := hV.2.2.1
  have ec : f_X9_counts 96 0 w = _ := m_counts h hσ hT (key := 0) (by decide)
  have ep : (12 : Int32) + nI p = nI (12 + p) := by rw [show (12 : Int32) = nI 12 from rfl, nI_add]
  have a0 : ∀ w, Lay w → aK 11 w 109 0 = true := fun w h => la_109 h (show 0 < 4 by decide)
  have a1 : ∀ w, Lay w → aK 11 w 109 1 = true := fun w h => la_109 h (show 1 < 4 by decide)
  have a2 : ∀ w, Lay w → aK 11 w 109 2 = true := fun w h => la_109 h (show 2 < 4 by decide)
  have a6 : ∀ w, Lay w → aK 11 w 97 6 = true := fun w h => la_97 h (show 6 < 1444 by decide)
  have ap : ∀ w, Lay w → aK 11 w 97 (nI (12 + p)) = true := fun w h => la_97 h (show 12 + p < 1444 by omega)
  have hpn : nx (nI (12 + p)) = 12 + p := nx_nI (by omega)
  obtain ⟨w1, ew1⟩ : ∃ x, x = sI w 109 0 (σ 6) := ⟨_, rfl⟩
  obtain ⟨w2, ew2⟩ : ∃ x, x = sI w1 109 1 (σ (12 + p)) := ⟨_, rfl⟩
  obtain ⟨w3, ew3⟩ : ∃ x, x = sI w2 109 2 (sv σ i 3) := ⟨_, rfl⟩
  have hl1 : Lay w1 := by rw [ew1]; exact h.sI _ _ _
  have hl2 : Lay w2 := by rw [ew2]; exact hl1.sI _ _ _
  have hl3 : Lay w3 := by rw [ew3]; exact hl2.sI _ _ _
  have n1 : wI w1 97 = σ := by rw [ew1, wI_s2 _ _ _ (by decide)]; exact hσ
  have n2 : wI w2 97 = σ := by rw [ew2, wI_s2 _ _ _ (by decide)]; exact n1
  have n3 : wI w3 97 = σ := by rw [ew3, wI_s2 _ _ _ (by decide)]; exact n2
  have o3 : f_X9_of 96 (nI i) 3 w2 = some (sv σ i 3, w2) := by rw [m_of3 hl2 (show i < 12 by omega), n2]
  have g3 : Fr (fun a => a = 108 ∨ a = 109) w w3 := by
    rw [ew3, ew2, ew1]
    exact ((Fr.sI (A := fun a => a = 108 ∨ a = 109) w 0 (σ 6) (Or.inr rfl)).tr (Fr.sI _ 1 (σ (12 + p)) (Or.inr rfl))).tr (Fr.sI _ 2 (sv σ i 3) (Or.inr rfl))
  have hJ : ∀ (f : Int32) (w : Wd), Lay w → wI w 97 = σ → j_X9_paysAt_84 96 (nI i) f w = some (shr (sv σ i 0) f, w) := by
    intro f w h hσ
    have o0 := m_of0 h (show i < 12 by omega)
    rw [hσ] at o0
    simp only [j_X9_paysAt_84, lk_96 h, lr_96_0 h, bd1_s, bd2_s, lb_e, ↓reduceIte, o0, shr]
    split
    · rfl
    · split
      · rfl
      · split
        · rfl
        · split <;> rfl
  cases e : lst σ 0 (T_ σ) with
  | none =>
    rw [e] at ec
    refine ⟨w3, ?_, g3⟩
    simp only [f_X9_paysAt, lk_96 h, lr_96_0 h, bd1_s, bd2_s, lb_e, ↓reduceIte, ec, lr_96_24 h, a6 w h, a0 w h, show nx 0 = 0 from rfl, show nx 6 = 6 from rfl, hσ]
    rw [← ew1]
    simp only [lr_96_24 hl1, lr_96_0 hl1, bd1_s, ep, ap w1 hl1, a1 w1 hl1, ↓reduceIte, show nx 1 = 1 from rfl, hpn, n1, lb_e]
    rw [← ew2]
    simp only [lr_96_24 hl2, bd1_s, o3, bd2_s, a2 w2 hl2, ↓reduceIte, show nx 2 = 2 from rfl, lb_e, show ¬ (0 : Int32) ≤ -1 by decide]
    rw [← ew3]
    simp only [lk_96 hl3, lr_96_0 hl3, bd1_s, ↓reduceIte, a6 w3 hl3, ap w3 hl3, hpn, n3, hJ _ w3 hl3 n3]
    unfold payS fareS
    rw [e]
  | some t =>
    rw [e] at ec
    have ht := (lst_lt e).1
    have hx := hT.2.2 t ht
    have h14 := hT.2.1
    have hk := (lst_lt e).2
    obtain ⟨w', v1, v2⟩ := m_worksOut hl3 n3 (t := t) (by omega) hx.1 hx.2.1 hx.2.2.2.1 hx.2.2.2.2 (by unfold nmK; split <;> decide) (F := F3 (σ 6) (σ (12 + p)) (sv σ i 3)) (fun j hj => by
      have hj3 : j < 3 := by unfold nmK at hj; split at hj <;> omega
      have hq : j = 0 ∨ j = 1 ∨ j = 2 := by omega
      rcases hq with rfl | rfl | rfl
      · show wI w3 109 0 = σ 6
        rw [ew3, ew2, ew1, wI_sn _ _ (Or.inr (by decide)), wI_sn _ _ (Or.inr (by decide)), wI_ss]
      · show wI w3 109 1 = σ (12 + p)
        rw [ew3, ew2, ew1, wI_sn _ _ (Or.inr (by decide)), wI_ss]
      · show wI w3 109 2 = sv σ i 3
        rw [ew3, ew2, ew1, wI_ss])
    have hl' := v2.lay hl3
    have n' : wI w' 97 = σ := by rw [v2.2.2.2.2 97 (by decide)]; exact n3
    refine ⟨w', ?_, g3.tr (v2.mono (fun a ha => Or.inl ha))⟩
    simp only [f_X9_paysAt, lk_96 h, lr_96_0 h, bd1_s, bd2_s, lb_e, ↓reduceIte, ec, lr_96_24 h, a6 w h, a0 w h, show nx 0 = 0 from rfl, show nx 6 = 6 from rfl, hσ]
    rw [← ew1]
    simp only [lr_96_24 hl1, lr_96_0 hl1, bd1_s, ep, ap w1 hl1, a1 w1 hl1, ↓reduceIte, show nx 1 = 1 from rfl, hpn, n1, lb_e]
    rw [← ew2]
    simp only [lr_96_24 hl2, bd1_s, o3, bd2_s, a2 w2 hl2, ↓reduceIte, show nx 2 = 2 from rfl, lb_e, show (0 : Int32) ≤ nI t from nI_pos' (show t < 2 ^ 31 by omega)]
    rw [← ew3, lk_96 hl3, if_pos rfl, v1, bd2_s, hld_M, bd2_s, hJ _ w' hl' n']
    unfold payS fareS
    rw [e]
theorem m_sitsDown {w : Wd} {σ : Nat → Int32} {i p : Nat} (h : Lay w) (hσ : wI w 97 = σ) (hV : Vd σ) (hi : i < c_ σ) (hp : p < 12) : ∃ w', f_X9_sitsDown 96 (nI i) (nI p) w = some (payS σ i p, w') ∧ wI w' 97 = seatS σ i p ∧ Fr (fun a => a = 97 ∨ a = 108 ∨ a = 109) w w' := by
  have hc := hV.1.c12
  have hi12 : i < 12 := by omega
  obtain ⟨w1, f1, g1⟩ := m_pays h hσ hV hi hp
  have h1 := g1.lay h
  have n1 : wI w1 97 = σ := by rw [g1.2.2.2.2 97 (by decide)]; exact hσ
  have p1 : ∀ w v, Lay w → f_X9_put 96 (nI i) 1 v w = some ((), sI w 97 (24 + 4 * i + 1) v) := fun w v h => m_put h hi12 (k := 1) (by decide) v
  have p2 : ∀ w v, Lay w → f_X9_put 96 (nI i) 2 v w = some ((), sI w 97 (24 + 4 * i + 2) v) := fun w v h => m_put h hi12 (k := 2) (by decide) v
  have p3 : ∀ w v, Lay w → f_X9_put 96 (nI i) 3 v w = some ((), sI w 97 (24 + 4 * i + 3) v) := fun w v h => m_put h hi12 (k := 3) (by decide) v
  have a10 : ∀ w, Lay w → aK 11 w 97 10 = true := fun w h => la_97 h (show 10 < 1444 by decide)
  obtain ⟨w2, ew2⟩ : ∃ x, x = sI w1 97 (24 + 4 * i + 1) (nI p) := ⟨_, rfl⟩
  have h2 : Lay w2 := by rw [ew2]; exact h1.sI _ _ _
  have e3 : sv (wI w2 97) i 3 = sv σ i 3 := by
    show wI w2 97 (24 + 4 * i + 3) = _
    rw [ew2, wI_sn _ _ (Or.inr (by omega)), n1]; rfl
  obtain ⟨w3, ew3⟩ : ∃ x, x = sI w2 97 (24 + 4 * i + 3) (sv σ i 3 + 1) := ⟨_, rfl⟩
  have h3 : Lay w3 := by rw [ew3]; exact h2.sI _ _ _
  have e2 : sv (wI w3 97) i 2 = sv σ i 2 := by
    show wI w3 97 (24 + 4 * i + 2) = _
    rw [ew3, ew2, wI_sn _ _ (Or.inr (by omega)), wI_sn _ _ (Or.inr (by omega)), n1]; rfl
  obtain ⟨w4, ew4⟩ : ∃ x, x = sI w3 97 (24 + 4 * i + 2) (hld (sv σ i 2 - payS σ i p) (-9999) 9999) := ⟨_, rfl⟩
  have h4 : Lay w4 := by rw [ew4]; exact h3.sI _ _ _
  have e10 : wI w4 97 10 = σ 10 := by
    rw [ew4, ew3, ew2, wI_sn _ _ (Or.inr (by omega)), wI_sn _ _ (Or.inr (by omega)), wI_sn _ _ (Or.inr (by omega)), n1]
  refine ⟨sI w4 97 10 (σ 10 + payS σ i p), ?_, ?_, ?_⟩
  · simp only [f_X9_sitsDown, lk_96 h, ↓reduceIte, f1, bd2_s, lk_96 h1, p1 w1 (nI p) h1]
    rw [← ew2, lk_96 h2, if_pos rfl, m_of3 h2 hi12, bd2_s, lk_96 h2, if_pos rfl, e3, p3 w2 _ h2, bd2_s, ← ew3, lk_96 h3, if_pos rfl, m_of2 h3 hi12, bd2_s, e2, hld_M, bd2_s, lk_96 h3, if_pos rfl, p2 w3 _ h3, bd2_s, ← ew4]
    simp only [lk_96 h4, lr_96_0 h4, bd1_s, ↓reduceIte, a10 w4 h4, lb_e, show nx 10 = 10 from rfl, e10]
  · rw [ew4, ew3, ew2, wI_s1, wI_s1, wI_s1, wI_s1, n1]
    rfl
  · have hA : (fun a => a = 97 ∨ a = 108 ∨ a = 109) 97 := Or.inl rfl
    rw [ew4, ew3, ew2]
    exact ((((g1.mono (B := fun a => a = 97 ∨ a = 108 ∨ a = 109) (fun a ha => Or.inr ha)).tr (Fr.sI _ _ _ hA)).tr (Fr.sI _ _ _ hA)).tr (Fr.sI _ _ _ hA)).tr (Fr.sI _ _ _ hA)
