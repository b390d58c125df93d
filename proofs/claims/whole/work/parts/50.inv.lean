/-! BOTH OBJECTS: what holds between two calls -/
def Mn (σ : Nat → Int32) : Prop := ∃ m, m ≤ 9999 ∧ σ 5 = nI m
def Im (w : Wd) : Prop := (wI w 96 3 = 0 ∧ wI w 0 3 = 0) ∨ (wI w 96 3 = 1 ∧ wI w 0 3 = 1 ∧ Vd (wI w 98) ∧ Mn (wI w 98) ∧ RI w 20 (wI w 98))
def kyB : List Nat := [102, 97, 114, 101, 102, 101, 101, 102, 105, 110, 101]
def kyA : List Nat := [0, 4, 7, 11]
def KY (w : Wd) : Prop := (∀ k, k < 11 → wI w 103 k = nI (kyB.getD k 0)) ∧ ∀ k, k < 4 → wI w 104 k = nI (kyA.getD k 0)
def Tq (w : Wd) : Prop := ∃ t, t ≤ 96 ∧ wI w 61 1 = nI t ∧ wI w 96 8 = nI t ∧ ∀ k, k < t → wI w 62 k = wI w 102 k ∧ ∃ v, v < 256 ∧ wI w 102 k = nI v
def Tp (w : Wd) : Prop := KY w ∧ Tq w
def Sh (w : Wd) : Prop := ∀ s, s < 4 → ∃ (q : Int32) (n : Nat), (q = -1 ∨ q = 0 ∨ q = 1) ∧ n ≤ 24 ∧ wI w (68 + 2 * s) 0 = q ∧ wI w 110 s = q ∧ wI w (68 + 2 * s) 1 = nI n ∧ wI w 111 s = nI n ∧ ∀ k, k < 24 → wI w (69 + 2 * s) k = wI w 112 (24 * s + k)
def wrt (k s : Int32) : Int32 := if k = 1 then s + 6 else if k = 2 then 99 - s else if k = 3 then 2 * (s + 6) else if k = 4 then 95 - s else if k = 5 then 3 else s
def Sl (w : Wd) : Prop := ∀ s, s < 5 → ∃ th, th < 4 ∧ wI w (76 + 4 * s) 0 = nI th ∧ wI w 113 s = nI th ∧ (th = 1 → ∃ k, k < 6 ∧ wI w (77 + 4 * s) 0 = nI k ∧ wI w 114 s = nI k ∧ wI w 115 s = wrt (nI k) (wI w (77 + 4 * s) 3)) ∧ (th = 2 → ∃ n, n ≤ 24 ∧ wI w (78 + 4 * s) 1 = nI n ∧ wI w 114 s = nI n ∧ ∀ k, k < 24 → wI w (79 + 4 * s) k = wI w 116 (24 * s + k)) ∧ (th = 3 → wI w (76 + 4 * s) 3 = wI w 114 s)
def Wq (w : Wd) : Prop := ∃ n, n ≤ 60 ∧ wI w 0 9 = nI n ∧ wI w 96 34 = nI n ∧ ∀ k, k < n → wI w 67 k = wI w 118 k
def Rest (w : Wd) : Prop := Im w ∧ Tp w ∧ Sh w ∧ Sl w ∧ Wq w
def Iv (w : Wd) : Prop := Lay w ∧ (Vd (wI w 97) ∧ Mn (wI w 97) ∧ RI w 1 (wI w 97)) ∧ Rest w
def RA (w w2 : Wd) : Prop := (∀ a, (a = 0 ∨ a = 61 ∨ a = 62 ∨ (67 ≤ a ∧ a < 96) ∨ a = 98 ∨ (102 ≤ a ∧ a < 105) ∨ (110 ≤ a ∧ a < 117) ∨ a = 118) → wI w2 a = wI w a) ∧ wI w2 96 3 = wI w 96 3 ∧ wI w2 96 8 = wI w 96 8 ∧ wI w2 96 34 = wI w 96 34 ∧ ∀ σ, Vd σ → RI w 20 σ → RI w2 20 σ
theorem RA.rf (w : Wd) : RA w w := ⟨fun _ _ => rfl, rfl, rfl, rfl, fun _ _ h => h⟩
theorem RA.tr {w w1 w2 : Wd} (h1 : RA w w1) (h2 : RA w1 w2) : RA w w2 := ⟨fun a ha => (h2.1 a ha).trans (h1.1 a ha), h2.2.1.trans h1.2.1, h2.2.2.1.trans h1.2.2.1, h2.2.2.2.1.trans h1.2.2.2.1, fun σ hV h => h2.2.2.2.2 σ hV (h1.2.2.2.2 σ hV h)⟩
theorem RA.im {w w2 : Wd} (h : RA w w2) (q : Im w) : Im w2 := by
  unfold Im at q ⊢
  rw [h.2.1, h.1 0 (by omega), h.1 98 (by omega)]
  rcases q with q | ⟨q1, q2, q3, q4, q5⟩
  · exact Or.inl q
  · exact Or.inr ⟨q1, q2, q3, q4, h.2.2.2.2 _ q3 q5⟩
theorem RA.tp {w w2 : Wd} (h : RA w w2) (q : Tp w) : Tp w2 := by
  unfold Tp KY Tq at q ⊢
  rw [h.2.2.1, h.1 61 (by omega), h.1 62 (by omega), h.1 102 (by omega), h.1 103 (by omega), h.1 104 (by omega)]
  exact q
theorem RA.sh {w w2 : Wd} (h : RA w w2) (q : Sh w) : Sh w2 := by
  intro s hs
  rw [h.1 110 (by omega), h.1 111 (by omega), h.1 112 (by omega), h.1 (68 + 2 * s) (by omega), h.1 (69 + 2 * s) (by omega)]
  exact q s hs
theorem RA.sl {w w2 : Wd} (h : RA w w2) (q : Sl w) : Sl w2 := by
  intro s hs
  rw [h.1 113 (by omega), h.1 114 (by omega), h.1 115 (by omega), h.1 116 (by omega), h.1 (76 + 4 * s) (by omega), h.1 (77 + 4 * s) (by omega), h.1 (78 + 4 * s) (by omega), h.1 (79 + 4 * s) (by omega)]
  exact q s hs
theorem RA.wq {w w2 : Wd} (h : RA w w2) (q : Wq w) : Wq w2 := by
  unfold Wq at q ⊢
  rw [h.1 0 (by omega), h.2.2.2.1, h.1 67 (by omega), h.1 118 (by omega)]
  exact q
theorem RA.rest {w w2 : Wd} (h : RA w w2) (q : Rest w) : Rest w2 := ⟨h.im q.1, h.tp q.2.1, h.sh q.2.2.1, h.sl q.2.2.2.1, h.wq q.2.2.2.2⟩
/-- frames that leave the rest alone -/
theorem RA.x {w w1 : Wd} {b : Nat} (hb : b = 1 ∨ b = 39) (h : Fr (In_ b) w w1) : RA w w1 := by
  have e : ∀ a, (a = 0 ∨ (58 ≤ a ∧ a < 119)) → wI w1 a = wI w a := fun a ha => h.2.2.2.2 a (fun q => by
    rcases q with q | q
    · omega
    · have := q.1; have := q.2; omega)
  refine ⟨fun a ha => e a (by omega), by rw [e 96 (by omega)], by rw [e 96 (by omega)], by rw [e 96 (by omega)], fun σ hV hR => hR.fr (Or.inr (Or.inl rfl)) hV.1 h (fun x hx => ?_)⟩
  rcases hx with q | q
  · exact ⟨by omega, Or.inl (by omega)⟩
  · exact ⟨Or.inr (by have := q.1; omega), Or.inr q.2⟩
theorem RA.m {w w1 : Wd} (h : FM w w1) : RA w w1 := by
  refine ⟨fun a ha => h.1.2.2.2.2 a (fun q => by omega), h.2 3 (by decide), h.2 8 (by decide), h.2 34 (by decide), fun σ hV hR => hR.fr (Or.inr (Or.inl rfl)) hV.1 h.1 (fun x hx => ⟨by omega, Or.inl (by omega)⟩)⟩
theorem RI.m {w w1 : Wd} {b : Nat} {σ : Nat → Int32} (hb : bI b) (hV : Vd σ) (h : FM w w1) (hR : RI w b σ) : RI w1 b σ := hR.fr hb hV.1 h.1 (fun x hx => ⟨Or.inr (by have := bI_lt hb; omega), Or.inl (by omega)⟩)
/-- a call that changes what an image keeps -/
theorem Iv.now {w w1 w2 : Wd} {σ : Nat → Int32} (I : Iv w) (h1 : Fr (In_ 1) w w1) (hR : RI w1 1 σ) (hV : Vd σ) (hM : Mn σ) (h2 : FM w1 w2) (h97 : wI w2 97 = σ) : Iv w2 := by
  refine ⟨h2.1.lay (h1.lay I.1), ⟨by rw [h97]; exact hV, by rw [h97]; exact hM, by rw [h97]; exact RI.m (Or.inl rfl) hV h2 hR⟩, ((RA.x (Or.inl rfl) h1).tr (RA.m h2)).rest I.2.2⟩
def Ok2 (f g : Wd → Option (Int32 × Wd)) (w : Wd) : Prop := ∃ (r : Int32) (w1 w2 : Wd), f w = some (r, w1) ∧ Lay w1 ∧ g w1 = some (r, w2) ∧ Iv w2
theorem Ok2.q {f g : Wd → Option (Int32 × Wd)} {w : Wd} {r : Int32} (I : Iv w) (h1 : f w = some (r, w)) (h2 : g w = some (r, w)) : Ok2 f g w := ⟨r, w, w, h1, I.1, h2, I⟩
theorem bI1 : bI 1 := Or.inl rfl
theorem bI20 : bI 20 := Or.inr (Or.inl rfl)
theorem bI39 : bI 39 := Or.inr (Or.inr rfl)
/-! tests of both -/
theorem x_isSitter {w : Wd} (I : Iv w) (v : Int32) : f_X8_isSitter 0 v w = some (wi_ v 0 (wI w 97 1 - 1), w) := by
  have h := I.1
  have e := I.2.1.2.2.1.1
  simp only [f_X8_isSitter, lk_0 h, lr_0_0 h, bd1_s, bd2_s, ↓reduceIte, li_k h bI1, e, wi_X, wi_z]
theorem x_isPlace {w : Wd} (I : Iv w) (v : Int32) : f_X8_isPlace 0 v w = some (wi_ v 0 (wI w 97 2 - 1), w) := by
  have h := I.1
  have e := I.2.1.2.2.1.2.1.1
  simp only [f_X8_isPlace, lk_0 h, lr_0_0 h, bd1_s, bd2_s, ↓reduceIte, li_k h bI1, li_r0 h bI1, li_k1 h bI1, e, wi_X, wi_z]
theorem x_isKind (v : Int32) (w : Wd) : f_X8_isKind v w = some (wi_ v 0 5, w) := by
  simp only [f_X8_isKind, wi_X, bd2_s, wi_z, ↓reduceIte]
theorem wi_5 {v : Int32} (h : ¬ wi_ v 0 5 = 0) : ∃ k, k < 6 ∧ v = nI k := by
  obtain ⟨k, -, h2, h3⟩ := wi_ab (v := v) (a := 0) (b := 5) (by decide) h (by decide)
  exact ⟨k, by omega, h3⟩
theorem m_becomes {w : Wd} (h : Lay w) {j : Nat} (hj : j < 1444) (v : Int32) : f_X9_becomes 96 (nI j) v w = some (wI w 97 j, sI w 97 j v) := by
  simp only [f_X9_becomes, lk_96 h, lr_96_0 h, bd1_s, bd2_s, lb_e, ↓reduceIte, la_97 h hj, nx_nI (show j < 2 ^ 31 by omega)]
/-! seed -/
theorem E_seed {w : Wd} (I : Iv w) (v : Int32) : Ok2 (f_X8_seed 0 v) (f_X9_seed 96 v) w := by
  have h := I.1
  obtain ⟨hV, hM, hR⟩ := I.2.1
  have F1 : Fr (In_ 1) w (sI w 1 7 v) := Fr.sI _ _ _ (Or.inl ⟨by decide, by decide⟩)
  have h1 := F1.lay h
  refine ⟨wI w 97 0, sI w 1 7 v, sI (sI w 1 7 v) 97 0 v, ?_, h1, ?_, I.now F1 (hR.num bI1 hV.1 (Or.inr (Or.inr ⟨rfl, rfl⟩)) v) (hV.num v (Or.inl rfl)) ?_ (FM.now 0 v) (by rw [wI_s1, wI_s2 _ _ _ (by decide)])⟩
  · simp only [f_X8_seed, lk_0 h, lr_0_0 h, bd1_s, ↓reduceIte, li_k h bI1, hR.2.1.2.2.2.2, lb_e]
  · have := m_becomes h1 (j := 0) (by decide) v
    rw [show nI 0 = (0 : Int32) from rfl] at this
    simp only [f_X9_seed, lk_96 h1, ↓reduceIte, this, bd2_s, wI_s2 w 7 v (show (97 : Nat) ≠ 1 by decide)]
  · obtain ⟨m, q1, q2⟩ := hM
    exact ⟨m, q1, by rw [upd_n _ _ (by decide)]; exact q2⟩
