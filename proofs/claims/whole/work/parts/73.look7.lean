/-! THE OUTLOOK: foresee -/
theorem sb_of : ∀ k F v, v < 2 ^ k → (∀ i, v.testBit i = true → F.testBit i = true) → sb k F v := by
  intro k
  induction k with
  | zero => intro F v hv _; rw [sb]; rw [Nat.pow_zero] at hv; omega
  | succ k ih =>
    intro F v hv h
    refine ⟨fun q => ?_, ih _ _ (by rw [Nat.pow_succ] at hv; omega) (fun i hi => ?_)⟩
    · have := h 0 (by rw [Nat.testBit_zero]; exact decide_eq_true q)
      rw [Nat.testBit_zero] at this
      exact of_decide_eq_true this
    · have := h (i + 1) (by rw [Nat.testBit_succ]; exact hi)
      rw [Nat.testBit_succ] at this
      exact this
theorem sb_bit {k F v i : Nat} (h : sb k F v) (hi : v.testBit i = true) : F.testBit i = true := by
  have e := sb_and k F v h
  rw [← e, Nat.testBit_and] at hi
  exact (Bool.and_eq_true_iff.mp hi).2
theorem sb_lt : ∀ k F v, sb k F v → v < 2 ^ k := by
  intro k
  induction k with
  | zero => intro F v h; rw [sb] at h; rw [h]; decide
  | succ k ih => intro F v h; have := ih _ _ h.2; rw [Nat.pow_succ]; omega
theorem rk_F : ∀ k F, F < 2 ^ k → rk k F F + 1 = 2 ^ cbF k F := by
  intro k
  induction k with
  | zero => intro F _; rfl
  | succ k ih =>
    intro F h
    have := ih (F / 2) (by rw [Nat.pow_succ] at h; omega)
    rw [rk, cbF]
    rcases Nat.mod_two_eq_zero_or_one F with q | q
    · rw [if_neg (by omega), q, Nat.zero_add]; exact this
    · rw [if_pos q, q, Nat.add_comm 1 (cbF k (F / 2)), Nat.pow_succ]; omega
theorem rk_lt : ∀ k F v, rk k F v < 2 ^ k := by
  intro k
  induction k with
  | zero => intro F v; exact Nat.one_pos
  | succ k ih =>
    intro F v
    have := ih (F / 2) (v / 2)
    rw [rk, Nat.pow_succ]
    split <;> omega
theorem RS.fr59 {w w1 : Wd} {σ : Nat → Int32} (h : RS w 1 σ) (hf : Fr (fun a => a = 59) w w1) (hS : Sv σ) : RS w1 1 σ := by
  have h12 := hS.c12
  refine ⟨by rw [hf.2.2.2.2 1 (by decide)]; exact h.1, by rw [hf.2.2.2.2 (1 + 1) (by decide)]; exact h.2.1, fun i hi j hj => by rw [hf.2.2.2.2 (1 + 7 + i) (by omega)]; exact h.2.2 i hi j hj⟩
/-- what is free -/
def FrS (σ : Nat → Int32) (t0 F : Nat) : Prop := (ps (n_ σ) - 1) &&& (tk σ ^^^ -1) = nI F ∧ F < 2 ^ n_ σ ∧ ∀ p, p < 32 → F.testBit p = (decide (p < n_ σ) && !t0.testBit p)
theorem x_foresee {w : Wd} {σ : Nat → Int32} (h : Lay w) (hS : Sv σ) (hR : RS w 1 σ) {md : Int32} (hm : md = 0 ∨ md = 1 ∨ md = 2 ∨ md = 3) {t0 F : Nat} (ht : t0 < 2 ^ n_ σ) (e0 : tk σ = nI t0) (hF : FrS σ t0 F) : ∃ w', f_X2_foresee 58 2 (tk σ) md w = some (gW σ md t0, w') ∧ Fr (fun a => a = 59) w w' ∧ ∀ u, sb 12 F u → wI w' 59 (t0 ||| u) = gW σ md (t0 ||| u) := by
  have h12 := hS.n12
  have h4 := pw12 h12
  obtain ⟨f1, f2, f3⟩ := hF
  have tl : ∀ u, sb 12 F u → t0 ||| u < 2 ^ n_ σ := fun u hu => by
    refine Nat.or_lt_two_pow ht (Nat.lt_of_le_of_lt ?_ f2)
    rw [← sb_and 12 F u hu]
    exact Nat.and_le_right
  have bit : ∀ u p, sb 12 F u → p < n_ σ → t0.testBit p = false → sb 12 F (u ||| 2 ^ p) := fun u p hu hp hz => by
    refine sb_of 12 F _ (Nat.or_lt_two_pow (sb_lt 12 F u hu) (Nat.pow_lt_pow_right (by decide) (by omega))) (fun i hi => ?_)
    rw [Nat.testBit_or] at hi
    rcases Bool.or_eq_true_iff.mp hi with q | q
    · exact sb_bit hu q
    · have : p = i := by
        by_cases e : p = i
        · exact e
        · rw [Nat.testBit_two_pow_of_ne e] at q; cases q
      subst this
      rw [f3 p (by omega), hz, decide_eq_true hp]
      rfl
  have stp : ∀ n v (c : Int32) (w1 : Wd), Fr (fun a => a = 59) w w1 → sb 12 F v → ¬ c ≤ 0 → (∀ u, sb 12 F u → rk 12 F v < rk 12 F u → wI w1 59 (t0 ||| u) = gW σ md (t0 ||| u)) → ∃ w2, L_X2_foresee_23 (n + 1) 58 2 (nI t0) md (nI F) (nI v) c w1 = L_X2_foresee_23 n 58 2 (nI t0) md (nI F) ((nI v - 1) &&& nI F) (c + (-1)) w2 ∧ Fr (fun a => a = 59) w w2 ∧ ∀ u, sb 12 F u → rk 12 F v ≤ rk 12 F u → wI w2 59 (t0 ||| u) = gW σ md (t0 ||| u) := by
    intro n v c w1 F1 hv hc y1
    have h1 := F1.lay h
    have R1 : RS w1 1 σ := hR.fr59 F1 hS
    have o := tl v hv
    have J := x_joined h1 hS hm o (fun p hp z => by
      obtain ⟨q1, q2⟩ := or_no hS o (by omega) z
      rw [Nat.testBit_or, Bool.or_eq_false_iff] at q2
      have g := or_gt q2.2
      have s := bit v p hv q1 q2.1
      rw [Nat.or_assoc]
      exact y1 _ s (rk_mono 12 F _ _ hv s g))
    refine ⟨sI w1 59 (t0 ||| v) (gW σ md (t0 ||| v)), ?_, F1.tr (Fr.sI _ _ _ rfl), fun u hu hr => ?_⟩
    · rw [show L_X2_foresee_23 (n + 1) 58 2 (nI t0) md (nI F) (nI v) c w1 = _ from by unfold L_X2_foresee_23; rfl, if_neg hc, nI_or]
      simp only [lb_e, lk_58 h1, ↓reduceIte, lr_58_0 h1, bd1_s, li_k1 h1 bI1, x_or h1 bI1 hS R1, bd2_s, J, la_59 h1 (show t0 ||| v < 4096 by omega), nx_nI (show t0 ||| v < 2 ^ 31 by omega)]
    · rw [wI_s1]
      by_cases y : t0 ||| u = t0 ||| v
      · rw [y, upd_s]
      · rw [upd_n _ _ y]
        refine y1 u hu ?_
        rcases Nat.lt_trichotomy u v with q | q | q
        · have := rk_mono 12 F u v hu hv q; omega
        · subst q; exact absurd rfl y
        · exact rk_mono 12 F v u hv hu q
  have L : ∀ r n v (w1 : Wd), Fr (fun a => a = 59) w w1 → sb 12 F v → rk 12 F v = r → (∀ u, sb 12 F u → r < rk 12 F u → wI w1 59 (t0 ||| u) = gW σ md (t0 ||| u)) → r + 1 < n → ∃ w', L_X2_foresee_23 n 58 2 (nI t0) md (nI F) (nI v) (nI (r + 1)) w1 = some (gW σ md t0, w') ∧ Fr (fun a => a = 59) w w' ∧ ∀ u, sb 12 F u → wI w' 59 (t0 ||| u) = gW σ md (t0 ||| u) := by
    intro r
    induction r with
    | zero =>
      intro n v w1 F1 hv hr y1 hn
      obtain ⟨n, rfl⟩ : ∃ j, n = j + 2 := ⟨n - 2, by omega⟩
      obtain ⟨w2, f2, F2, y2⟩ := stp (n + 1) v (nI (0 + 1)) w1 F1 hv (by decide) (fun u hu q => y1 u hu (by omega))
      have h2 := F2.lay h
      have y0 := y2 0 (sb_0 12 F)
      refine ⟨w2, ?_, F2, fun u hu => y2 u hu (by omega)⟩
      rw [show n + 2 = n + 1 + 1 from rfl, f2]
      unfold L_X2_foresee_23
      rw [if_pos (show nI (0 + 1) + -1 ≤ 0 by decide)]
      simp only [lk_58 h2, ↓reduceIte, lr_58_0 h2, bd1_s, la_59 h2 (show t0 < 4096 by omega), nx_nI (show t0 < 2 ^ 31 by omega)]
      rw [Nat.or_zero] at y0
      rw [y0 (by rw [rk_0]; omega)]
    | succ r ih =>
      intro n v w1 F1 hv hr y1 hn
      obtain ⟨n, rfl⟩ : ∃ j, n = j + 1 := ⟨n - 1, by omega⟩
      have rl := rk_lt 12 F v
      have vl := sb_lt 12 F v hv
      have vp : 0 < v := by
        rcases Nat.eq_zero_or_pos v with q | q
        · subst q; rw [rk_0] at hr; omega
        · exact q
      obtain ⟨s1, s2⟩ := rk_next 12 F v hv vp
      obtain ⟨w2, f2, F2, y2⟩ := stp n v (nI (r + 1 + 1)) w1 F1 hv (fun q => by have := (nI_le' (b := 0) (by omega) (by omega)).mp q; omega) (fun u hu q => y1 u hu (by omega))
      rw [f2, nI_m1 (by omega), pr_nI (by omega), nx_and', Nat.add_sub_cancel]
      exact ih n ((v - 1) &&& F) w2 F2 s1 (by omega) (fun u hu q => y2 u hu (by omega)) (by omega)
  have sF : sb 12 F F := sb_of 12 F F (by omega) (fun i hi => hi)
  obtain ⟨w', g1, g2, g3⟩ := L (rk 12 F F) FU F w (Fr.rf w) sF rfl (fun u hu q => by
    have ul := sb_and 12 F u hu
    have : u ≤ F := by rw [← ul]; exact Nat.and_le_right
    rcases Nat.lt_or_ge u F with z | z
    · have := rk_mono 12 F u F hu sF z; omega
    · obtain rfl : u = F := by omega
      omega) (by have := rk_lt 12 F F; unfold FU; omega)
  refine ⟨w', ?_, g2, g3⟩
  have e3 : wI w (1 + 1) 3 = ps (n_ σ) - 1 := hR.2.1.2.2.2
  have B : B12 (nI F) := fun i hi q => by
    rw [bt_nI hi, f3 i hi] at q
    have := of_decide_eq_true (Bool.and_eq_true_iff.mp q).1
    omega
  have c12 := cb_le 12 F
  have sh : (1 : Int32) <<< (nI (cbF 12 F) &&& 31) = nI (rk 12 F F + 1) := by
    have := ps_2 (cbF 12 F) (by omega)
    unfold ps at this
    rw [this, rk_F 12 F (by omega)]
  rw [show (2 : Nat) = 1 + 1 from rfl]
  simp only [f_X2_foresee, li_k1 h bI1, ↓reduceIte, e3, f1, lb_e, j_pc B, bd2_s, cb_ct (show F < 4096 by omega), sh]
  rw [e0]
  exact g1
