/-! A DRAW, A CHOICE, A COMER -/
def dz (σ : Nat → Int32) : Int32 := σ 0 * 1103515245 + 12345
def drw (σ : Nat → Int32) : Nat → Int32 := upd σ 0 (dz σ)
def dv (σ : Nat → Int32) : Int32 := ushr (dz σ) 8
theorem b_m24 : ∀ i, i < 32 → bt (16777215 : Int32) i = decide (i < 24) := by decide +kernel
theorem ushr8 (x : Int32) : ∃ d, d < 2 ^ 24 ∧ ushr x 8 = nI d := by
  have hb : ∀ i, i < 32 → bt (ushr x 8) i = true → i < 24 := by
    intro i hi q
    have e : bt (ushr x 8) i = bt x (8 + i) := b_ushr 8 (by decide) x i
    rw [e] at q
    by_cases z : i < 24
    · exact z
    · rw [b_big (by omega)] at q; cases q
  obtain ⟨n, -, e⟩ := wb32 (ushr x 8)
  have e2 : ushr x 8 = ushr x 8 &&& 16777215 := by
    apply b_ext
    intro i hi
    rw [b_and, b_m24 i hi]
    cases q : bt (ushr x 8) i
    · rfl
    · have := hb i hi q; simp [this]
  refine ⟨n &&& 16777215, ?_, ?_⟩
  · have := Nat.and_two_pow_sub_one_eq_mod n 24
    rw [show 2 ^ 24 - 1 = 16777215 by decide] at this
    rw [this]
    exact Nat.mod_lt _ (by decide)
  · rw [e2, e, show (16777215 : Int32) = nI 16777215 from rfl, nx_and']
theorem drw_n (σ : Nat → Int32) {j : Nat} (h : j ≠ 0) : drw σ j = σ j := upd_n _ _ h
theorem drw_sv (σ : Nat → Int32) (i j : Nat) : sv (drw σ) i j = sv σ i j := drw_n σ (by omega)
theorem drw_c (σ : Nat → Int32) : c_ (drw σ) = c_ σ := c_upd _ (by decide)
theorem drw_N (σ : Nat → Int32) : n_ (drw σ) = n_ σ := n_upd _ (by decide)
theorem Vd.drw {σ : Nat → Int32} (h : Vd σ) : Vd (drw σ) := h.num _ (Or.inl rfl)
theorem x_draw {w : Wd} {b : Nat} {σ : Nat → Int32} (h : Lay w) (hb : bI b) (hV : Vd σ) (hR : RI w b σ) : f_X1_draw b w = some (dv σ, sI w b 7 (dz σ)) ∧ RI (sI w b 7 (dz σ)) b (drw σ) ∧ Fr (In_ b) w (sI w b 7 (dz σ)) := by
  refine ⟨?_, hR.num hb hV.1 (Or.inr (Or.inr ⟨rfl, rfl⟩)) _, Fr.sI _ _ _ (Or.inl ⟨by omega, by omega⟩)⟩
  simp only [f_X1_draw, li_k h hb, li_r0 h hb, li_r1 h hb, li_r3 h hb, li_r4 h hb, li_r8 h hb, li_r10 h hb, li_k1 h hb, bd1_s, bd2_s, lb_e, ↓reduceIte, hR.2.1.2.2.2.2, wI_ss]
  rfl
theorem m_draw {w : Wd} {σ : Nat → Int32} (h : Lay w) (hσ : wI w 97 = σ) : f_X9_draw 96 w = some (dv σ, sI w 97 0 (dz σ)) ∧ wI (sI w 97 0 (dz σ)) 97 = drw σ := by
  refine ⟨?_, by rw [wI_s1, hσ]; rfl⟩
  have a0 : aK 11 w 97 0 = true := la_97 h (show 0 < 1444 by decide)
  have a1 : ∀ v, aK 11 (sI w 97 0 v) 97 0 = true := fun v => la_97 (h.sI _ _ _) (show 0 < 1444 by decide)
  simp only [f_X9_draw, lk_96 h, lr_96_0 h, bd1_s, bd2_s, lb_e, ↓reduceIte, a0, show nx 0 = 0 from rfl, hσ, lr_96_0 (h.sI 97 0 (σ 0 * 1103515245 + 12345)), a1, wI_ss]
  rfl
def fsF (σ : Nat → Int32) : Nat → Nat → Option Nat
  | 0, _ => none
  | m + 1, k => if sv σ k 1 < 0 then some k else fsF σ m (k + 1)
def fs1 (σ : Nat → Int32) : Option Nat := fsF σ (c_ σ) 0
theorem fsF_ok {σ : Nat → Int32} : ∀ {m k i : Nat}, fsF σ m k = some i → k ≤ i ∧ i < k + m ∧ sv σ i 1 < 0 := by
  intro m
  induction m with
  | zero => intro k i h; cases h
  | succ m ih =>
    intro k i h
    rw [fsF] at h
    split at h
    · rename_i c; cases h; exact ⟨by omega, by omega, c⟩
    · have := ih h; exact ⟨by omega, by omega, this.2.2⟩
def cr (σ : Nat → Int32) : Nat → Int32 := if σ 7 = 0 then drw σ else σ
def chP (σ : Nat → Int32) (x : Int32) : Nat := if σ 7 = 0 then kth x (nx (irem (dv σ) (nI (ct x 12)))) else if σ 7 = 1 then kth x 0 else soft σ x
def comeS (σ : Nat → Int32) : (Nat → Int32) × Int32 := match fs1 σ with
  | none => (σ, 0)
  | some i => if pl σ i = 0 then (σ, 0) else (seatS (cr σ) i (chP σ (pl σ i)), 1)
theorem irem_dv {σ : Nat → Int32} {x : Int32} (hp : 0 < ct x 12) : ∃ k, k < ct x 12 ∧ irem (dv σ) (nI (ct x 12)) = nI k := by
  obtain ⟨d, hd, e⟩ := ushr8 (dz σ)
  have h12 := ct12 x
  refine ⟨d % ct x 12, Nat.mod_lt _ hp, ?_⟩
  show irem (ushr (dz σ) 8) _ = _
  rw [e, irem_nI (by omega) (by omega) hp]
theorem chP_ok {σ : Nat → Int32} (hS : Sv σ) {x : Int32} (hB : Bd σ x) (h0 : ¬ x = 0) : chP σ x < n_ σ ∧ bt x (chP σ x) = true := by
  have hpos := ct_pos (hB.b12 hS) h0
  have key : bt x (chP σ x) = true ∧ chP σ x < 32 := by
    unfold chP
    split
    · obtain ⟨k, hk, e⟩ := irem_dv (σ := σ) hpos
      have h12 := ct12 x
      rw [e, nx_nI (by omega)]
      have := kthF_ok x k 12 hk
      exact ⟨this.2.1, by have : kth x k < 12 := this.1; omega⟩
    · have h1 := kthF_ok x 0 12 hpos
      split
      · exact ⟨h1.2.1, by have : kth x 0 < 12 := h1.1; omega⟩
      · have hb := sfL_ok σ x (n_ σ - (kth x 0 + 1)) (kth x 0) (kth x 0 + 1) h1.2.1
        refine ⟨hb, ?_⟩
        by_cases z : soft σ x < 32
        · exact z
        · have : bt x (soft σ x) = false := b_big (by omega)
          rw [show bt x (soft σ x) = true from hb] at this
          cases this
  exact ⟨hB _ key.2 key.1, key.1⟩
theorem pl_Bd {σ : Nat → Int32} (hS : Sv σ) (i : Nat) : Bd σ (pl σ i) := by
  intro p hp q
  unfold pl at q
  split at q
  · rw [plK_b hS _ hp, Bool.and_eq_true, decide_eq_true_eq] at q
    exact q.1
  · rw [b_0] at q; cases q
theorem pl_my {σ : Nat → Int32} (hS : Sv σ) {i p : Nat} (hp : p < 32) (q : bt (pl σ i) p = true) : sv σ i 1 < 0 ∧ p < n_ σ ∧ myS σ (sv σ i 0) p = true := by
  unfold pl at q
  split at q
  · rename_i c
    rw [plK_b hS _ hp, Bool.and_eq_true, decide_eq_true_eq] at q
    exact ⟨c, q⟩
  · rw [b_0] at q; cases q
theorem my_fit {σ : Nat → Int32} {k : Int32} {p : Nat} (h : myS σ k p = true) : fit_ σ k p ∧ sat_ σ k p &&& tk σ = 0 := by
  unfold myS at h
  rw [Bool.and_eq_true, Bool.and_eq_true, decide_eq_true_eq, decide_eq_true_eq] at h
  exact ⟨h.1, h.2.1⟩
theorem x_choose {w : Wd} {b : Nat} {σ : Nat → Int32} (h : Lay w) (hb : bI b) (hV : Vd σ) (hR : RI w b σ) {x : Int32} (hB : Bd σ x) (h0 : ¬ x = 0) : ∃ w', f_X1_choose b x w = some (nI (chP σ x), w') ∧ RI w' b (cr σ) ∧ Fr (In_ b) w w' := by
  have hS := hV.1
  have hB12 := hB.b12 hS
  have hpos := ct_pos hB12 h0
  have h12 := ct12 x
  have e7 : wI w (b + 4) 1 = σ 7 := hR.2.1.2.1 1 (by decide)
  have a1 : aK 11 w (b + 4) 1 = true := li_a4 h hb (show 1 < 4 by decide)
  have hne : ¬ nI (ct x 12) = 0 := nI_ne0 hpos (by omega)
  by_cases c0 : σ 7 = 0
  · obtain ⟨d1, d2, d3⟩ := x_draw h hb hV hR
    obtain ⟨k, hk, ek⟩ := irem_dv (σ := σ) hpos
    have hB' : Bd (drw σ) x := fun i hi q => by rw [drw_N]; exact hB i hi q
    have hn := x_nthOf (d3.lay h) hb hV.drw.1 d2.1 hB' hk
    refine ⟨sI w b 7 (dz σ), ?_, by unfold cr; rw [if_pos c0]; exact d2, d3⟩
    simp only [f_X1_choose, j_pc hB12, li_k h hb, li_r0 h hb, li_r1 h hb, li_r3 h hb, li_r4 h hb, li_r8 h hb, li_r10 h hb, li_k1 h hb, bd1_s, bd2_s, lb_e, ↓reduceIte, hne, a1, show nx 1 = 1 from rfl, e7, c0, d1, not_false_eq_true, wK_sI, ek, hn]
    unfold chP
    rw [if_pos c0, ek, nx_nI (by omega)]
  · by_cases c1 : σ 7 = 1
    · refine ⟨w, ?_, by unfold cr; rw [if_neg c0]; exact hR, Fr.rf w⟩
      simp only [f_X1_choose, j_pc hB12, li_k h hb, li_r0 h hb, li_r1 h hb, li_r3 h hb, li_r4 h hb, li_r8 h hb, li_r10 h hb, li_k1 h hb, bd1_s, bd2_s, lb_e, ↓reduceIte, hne, a1, show nx 1 = 1 from rfl, e7, c0, j_nz hB12 h0, c1, show ¬ (1 : Int32) = 0 by decide]
      unfold chP
      rw [if_neg c0, if_pos c1]
    · refine ⟨w, ?_, by unfold cr; rw [if_neg c0]; exact hR, Fr.rf w⟩
      simp only [f_X1_choose, j_pc hB12, li_k h hb, li_r0 h hb, li_r1 h hb, li_r3 h hb, li_r4 h hb, li_r8 h hb, li_r10 h hb, li_k1 h hb, bd1_s, bd2_s, lb_e, ↓reduceIte, hne, a1, show nx 1 = 1 from rfl, e7, c0, j_nz hB12 h0, c1, x_softest h hb hS hR hB h0]
      unfold chP
      rw [if_neg c0, if_neg c1]
theorem x_choose0 {w : Wd} {b : Nat} (h : Lay w) (hb : bI b) : f_X1_choose b 0 w = some (NONE_, w) := by
  have hB : B12 0 := fun i hi q => by rw [b_0] at q; cases q
  simp only [f_X1_choose, j_pc hB, ct_0, bd2_s, show nI 0 = 0 from rfl, ↓reduceIte]
  rfl
theorem cr_Vd {σ : Nat → Int32} (h : Vd σ) : Vd (cr σ) := by
  unfold cr
  split
  · exact h.drw
  · exact h
theorem cr_n (σ : Nat → Int32) {j : Nat} (h : j ≠ 0) : cr σ j = σ j := by
  unfold cr
  split
  · exact drw_n σ h
  · rfl
theorem cr_sv (σ : Nat → Int32) (i j : Nat) : sv (cr σ) i j = sv σ i j := cr_n σ (by omega)
theorem cr_c (σ : Nat → Int32) : c_ (cr σ) = c_ σ := by unfold c_; rw [cr_n σ (by decide)]
theorem cr_N (σ : Nat → Int32) : n_ (cr σ) = n_ σ := by unfold n_; rw [cr_n σ (by decide)]
theorem cr_fit {σ : Nat → Int32} {k : Int32} {p : Nat} (h : fit_ σ k p) : fit_ (cr σ) k p := by unfold fit_ at h ⊢; rw [cr_N, cr_n σ (by decide)]; exact h
theorem nI_NONE {p : Nat} (h : p < 2 ^ 31) : ¬ nI p = NONE_ := fun q => by
  have := congrArg Int32.toInt q
  rw [nI_toInt h, show NONE_.toInt = -1000000005 from rfl] at this
  omega
theorem x_oneComes {w : Wd} {b : Nat} {σ : Nat → Int32} (h : Lay w) (hb : bI b) (hV : Vd σ) (hR : RI w b σ) : ∃ w', f_X1_oneComes b w = some ((comeS σ).2, w') ∧ RI w' b (comeS σ).1 ∧ Fr (In_ b) w w' := by
  have hS := hV.1
  have hc := hS.c12
  have L : ∀ n m k, k + m = c_ σ → m < n → fsF σ m k = fs1 σ → ∃ w', L_X1_oneComes_2 n b (nI k) w = some ((comeS σ).2, w') ∧ RI w' b (comeS σ).1 ∧ Fr (In_ b) w w' := by
    intro n
    induction n with
    | zero => intro m k _ h2; omega
    | succ n ih =>
      intro m k g1 g2 g3
      unfold L_X1_oneComes_2
      simp only [li_k h hb, li_r0 h hb, li_r1 h hb, li_r3 h hb, li_r4 h hb, li_r8 h hb, li_r10 h hb, li_k1 h hb, bd1_s, bd2_s, lb_e, ↓reduceIte, hR.1.1, hS.c]
      cases m with
      | zero =>
        rw [if_pos ((nI_le' (by omega) (by omega)).mpr (by omega))]
        have e : comeS σ = (σ, 0) := by unfold comeS; rw [← g3]; rfl
        rw [e]
        exact ⟨w, rfl, hR, Fr.rf w⟩
      | succ m =>
        have hk : k < 12 := by omega
        have h4 := li_sk h hb hk
        have e1 : wI w (b + 7 + k) 1 = sv σ k 1 := hR.1.2.2 k (by omega) 1 (by decide)
        rw [if_neg (fun q => by have := (nI_le' (by omega) (by omega)).mp q; omega)]
        simp only [li_a2 h hb hk, nx_nI (show k < 2 ^ 31 by omega), li_s h hb hk, bd1_s, h4, x_sitsNow h4, bd2_s, e1, ↓reduceIte]
        rw [fsF] at g3
        by_cases c : sv σ k 1 < 0
        · rw [if_pos c] at g3
          simp only [c, ↓reduceIte, li_k h hb, li_r1 h hb, bd1_s, li_a2 h hb hk, li_s h hb hk, x_placesFor h hb hS hR.1 (show k < c_ σ by omega), bd2_s]
          by_cases z : pl σ k = 0
          · have e : comeS σ = (σ, 0) := by unfold comeS; rw [← g3]; show (if pl σ k = 0 then _ else _) = _; rw [if_pos z]
            rw [e, z, x_choose0 h hb, bd2_s, if_pos (show NONE_ = -1000000005 from rfl)]
            exact ⟨w, rfl, hR, Fr.rf w⟩
          · have e : comeS σ = (seatS (cr σ) k (chP σ (pl σ k)), 1) := by unfold comeS; rw [← g3]; show (if pl σ k = 0 then _ else _) = _; rw [if_neg z]
            obtain ⟨w1, f1, R1, F1⟩ := x_choose h hb hV hR (pl_Bd hS k) z
            have h1 := F1.lay h
            have hch := chP_ok hS (pl_Bd hS k) z
            have hmy := pl_my hS (show chP σ (pl σ k) < 32 by have := hS.n12; omega) hch.2
            obtain ⟨w2, f2, R2', F2⟩ := x_seat h1 hb (cr_Vd hV) R1 (i := k) (p := chP σ (pl σ k)) (by rw [cr_c]; omega) (by rw [cr_N]; exact hch.1) (by rw [cr_sv]; exact cr_fit (my_fit hmy.2.2).1)
            rw [e, f1, bd2_s, if_neg (show ¬ nI (chP σ (pl σ k)) = -1000000005 from nI_NONE (by have := hS.n12; omega))]
            refine ⟨w2, ?_, R2', F1.tr F2⟩
            simp only [li_k h1 hb, li_r1 h1 hb, bd1_s, ↓reduceIte, li_a2 h1 hb hk, li_s h1 hb hk, f2, bd2_s]
        · rw [if_neg c] at g3
          simp only [c, ↓reduceIte, show ¬ (1 : Int32) = 0 by decide, lb_e, nI_s1]
          exact ih m (k + 1) (by omega) (by omega) g3
  exact L FU (c_ σ) 0 (by omega) (by unfold FU; omega) rfl
/-! the reference -/
def FM (w w' : Wd) : Prop := Fr (fun a => a = 96 ∨ a = 97 ∨ a = 108 ∨ a = 109) w w' ∧ ∀ j, j ≠ 4 → wI w' 96 j = wI w 96 j
theorem FM.rf (w : Wd) : FM w w := ⟨Fr.rf w, fun _ _ => rfl⟩
theorem FM.tr {w w1 w2 : Wd} (h1 : FM w w1) (h2 : FM w1 w2) : FM w w2 := ⟨h1.1.tr h2.1, fun j hj => (h2.2 j hj).trans (h1.2 j hj)⟩
theorem FM.now {w : Wd} (j : Nat) (v : Int32) : FM w (sI w 97 j v) := ⟨Fr.sI _ _ _ (Or.inr (Or.inl rfl)), fun j _ => by rw [wI_s2 _ _ _ (by decide)]⟩
theorem FM.of {w w' : Wd} (h : Fr (fun a => a = 97 ∨ a = 108 ∨ a = 109) w w') : FM w w' := ⟨h.mono (fun a ha => Or.inr ha), fun j _ => by rw [h.2.2.2.2 96 (by decide)]⟩
theorem m_comesIn {w : Wd} {σ : Nat → Int32} (h : Lay w) (hσ : wI w 97 = σ) (hV : Vd σ) : ∃ w', f_X9_comesIn 96 w = some ((), w') ∧ wI w' 97 = (comeS σ).1 ∧ wI w' 96 4 = wI w 96 4 + (comeS σ).2 ∧ FM w w' := by
  have hS := hV.1
  have hc := hS.c12
  have a1 : aK 11 w 97 1 = true := la_97 h (show 1 < 1444 by decide)
  have a7 : aK 11 w 97 7 = true := la_97 h (show 7 < 1444 by decide)
  have hJ : ∀ (w1 : Wd) (σ1 : Nat → Int32) (i p : Nat), Lay w1 → wI w1 97 = σ1 → Vd σ1 → i < c_ σ1 → p < 12 → ∃ w', j_X9_comesIn_101 96 (nI i) (nI p) w1 = some ((), w') ∧ wI w' 97 = seatS σ1 i p ∧ wI w' 96 4 = wI w1 96 4 + 1 ∧ FM w1 w' := by
    intro w1 σ1 i p h1 hσ1 hV1 hi hp
    obtain ⟨w2, f2, n2, F2⟩ := m_sitsDown h1 hσ1 hV1 hi hp
    have h2 := F2.lay h1
    refine ⟨sI w2 96 4 (wI w2 96 4 + 1), ?_, by rw [wI_s2 _ _ _ (by decide)]; exact n2, ?_, ?_⟩
    · simp only [j_X9_comesIn_101, lk_96 h1, ↓reduceIte, f2, bd2_s, lk_96 h2, lb_e]
    · rw [wI_ss, F2.2.2.2.2 96 (by decide)]
    · exact (FM.of F2).tr ⟨Fr.sI _ _ _ (Or.inl rfl), fun j hj => wI_sn _ _ (Or.inr hj)⟩
  have hK : ∀ i, i < c_ σ → fs1 σ = some i → ∃ w', j_X9_comesIn_46 96 (nI i) (pl σ i) w = some ((), w') ∧ wI w' 97 = (comeS σ).1 ∧ wI w' 96 4 = wI w 96 4 + (comeS σ).2 ∧ FM w w' := by
    intro i hi ei
    unfold j_X9_comesIn_46
    by_cases z : pl σ i = 0
    · have e : comeS σ = (σ, 0) := by unfold comeS; rw [ei]; show (if pl σ i = 0 then _ else _) = _; rw [if_pos z]
      rw [if_pos z, e]
      exact ⟨w, rfl, hσ, (Int32.add_zero _).symm, FM.rf w⟩
    · have e : comeS σ = (seatS (cr σ) i (chP σ (pl σ i)), 1) := by unfold comeS; rw [ei]; show (if pl σ i = 0 then _ else _) = _; rw [if_neg z]
      have hB := pl_Bd hS i
      have hpos := ct_pos (hB.b12 hS) z
      have h12 := ct12 (pl σ i)
      have hch := chP_ok hS hB z
      have hn := hS.n12
      rw [if_neg z, e]
      simp only [lk_96 h, lr_96_0 h, bd1_s, bd2_s, lb_e, ↓reduceIte, a7, show nx 7 = 7 from rfl, hσ]
      by_cases c0 : σ 7 = 0
      · obtain ⟨d1, d2⟩ := m_draw h hσ
        obtain ⟨k, hk, ek⟩ := irem_dv (σ := σ) hpos
        have ecr : cr σ = drw σ := by unfold cr; rw [if_pos c0]
        have ech : chP σ (pl σ i) = kth (pl σ i) k := by unfold chP; rw [if_pos c0, ek, nx_nI (by omega)]
        obtain ⟨w', q1, q2, q3, q4⟩ := hJ (sI w 97 0 (dz σ)) (drw σ) i (chP σ (pl σ i)) (h.sI _ _ _) d2 hV.drw (by rw [drw_c]; exact hi) (by omega)
        rw [if_pos c0, d1, bd2_s, m_bits, bd2_s, if_pos (nI_ne0 hpos (by omega)), ek, m_placeIn hk, bd2_s, ← ech]
        refine ⟨w', q1, by rw [ecr]; exact q2, by rw [q3, wI_s2 _ _ _ (by decide)], (FM.now 0 (dz σ)).tr q4⟩
      · have ecr : cr σ = σ := by unfold cr; rw [if_neg c0]
        rw [if_neg c0, ecr]
        by_cases c1 : σ 7 = 1
        · have ech : chP σ (pl σ i) = kth (pl σ i) 0 := by unfold chP; rw [if_neg c0, if_pos c1]
          have mp := m_placeIn hpos w
          rw [show nI 0 = (0 : Int32) from rfl] at mp
          rw [if_pos c1, mp, bd2_s, ← ech]
          exact hJ w σ i _ h hσ hV hi (by omega)
        · have ech : chP σ (pl σ i) = soft σ (pl σ i) := by unfold chP; rw [if_neg c0, if_neg c1]
          rw [if_neg c1, m_softest h hσ hS hB z, bd2_s, ← ech]
          exact hJ w σ i _ h hσ hV hi (by omega)
  have L : ∀ n m k, k + m = c_ σ → m < n → fsF σ m k = fs1 σ → ∃ w', L_X9_comesIn_2 n 96 (nI k) w = some ((), w') ∧ wI w' 97 = (comeS σ).1 ∧ wI w' 96 4 = wI w 96 4 + (comeS σ).2 ∧ FM w w' := by
    intro n
    induction n with
    | zero => intro m k _ h2; omega
    | succ n ih =>
      intro m k g1 g2 g3
      unfold L_X9_comesIn_2
      simp only [lk_96 h, lr_96_0 h, bd1_s, bd2_s, lb_e, ↓reduceIte, a1, show nx 1 = 1 from rfl, hσ, hS.c]
      cases m with
      | zero =>
        rw [if_pos ((nI_le' (by omega) (by omega)).mpr (by omega))]
        have e : comeS σ = (σ, 0) := by unfold comeS; rw [← g3]; rfl
        rw [e]
        refine ⟨w, ?_, hσ, (Int32.add_zero _).symm, FM.rf w⟩
        simp only [j_X9_comesIn_27, lk_96 h, lr_96_0 h, bd1_s, bd2_s, lb_e, ↓reduceIte, a1, show nx 1 = 1 from rfl, hσ, hS.c, show k = c_ σ by omega, j_X9_comesIn_46]
      | succ m =>
        have o1 := m_of1 h (show k < 12 by omega)
        rw [hσ] at o1
        rw [if_neg (fun q => by have := (nI_le' (by omega) (by omega)).mp q; omega), o1, bd2_s]
        rw [fsF] at g3
        by_cases c : sv σ k 1 < 0
        · rw [if_pos c] at g3
          rw [if_pos c]
          simp only [j_X9_comesIn_27, lk_96 h, lr_96_0 h, bd1_s, bd2_s, lb_e, ↓reduceIte, a1, show nx 1 = 1 from rfl, hσ, hS.c, show ¬ nI k = nI (c_ σ) from fun q => by (have := nI_inj (by omega) (by omega) q; omega), m_placesOf h hσ hS (show k < c_ σ by omega)]
          exact hK k (by omega) g3.symm
        · rw [if_neg c] at g3
          rw [if_neg c]
          show ∃ w', L_X9_comesIn_2 n 96 (nI k + 1) w = _ ∧ _
          rw [nI_s1]
          exact ih m (k + 1) (by omega) (by omega) g3
  exact L FU (c_ σ) 0 (by omega) (by unfold FU; omega) rfl
