/-! TEXTS: a text stands -/
def cdF : List Nat → Nat → Nat
  | [], _ => 0
  | x :: r, k => if k = r.length then x else cdF r k
theorem Rw_c {f row : Nat → Int32} : ∀ (l : List Nat), Rw f row l → ∀ k, k < l.length → row k = f (cdF l k) := by
  intro l
  induction l with
  | nil => intro _ k hk; cases hk
  | cons x r ih =>
    intro h k hk
    rw [List.length_cons] at hk
    rw [cdF]
    by_cases c : k = r.length
    · rw [if_pos c, c]; exact h.1
    · rw [if_neg c]; exact ih h.2 k (by omega)
theorem cd_n {x : Nat} {r : List Nat} {k : Nat} (h : k < r.length) : cdF (x :: r) k = cdF r k := by rw [cdF, if_neg (by omega)]
theorem cd_d (x : Nat) (r : List Nat) : ∀ k, k ≤ r.length → dpt (cdF (x :: r)) k = dpt (cdF r) k := dpt_cg (fun _ hk => cd_n hk)
theorem dp_L : ∀ c, dpt (cdF c) c.length = dL c := by
  intro c
  induction c with
  | nil => rfl
  | cons x r ih =>
    rw [List.length_cons, dpt, dL, cd_d x r _ (Nat.le_refl _), ih, show cdF (x :: r) r.length = x by rw [cdF, if_pos rfl]]
theorem ok_W {nm a : Nat} : ∀ c, okL nm a c → (∀ k, k < c.length → (cdF c k < 10000 + nm ∨ (20000 ≤ cdF c k ∧ cdF c k < 20010)) ∧ (cdF c k = 20009 → 1 ≤ dpt (cdF c) k) ∧ (20000 ≤ cdF c k → cdF c k < 20009 → 2 ≤ dpt (cdF c) k)) ∧ ∀ k, k ≤ c.length → dpt (cdF c) k ≤ a := by
  intro c
  induction c with
  | nil =>
    intro _
    refine ⟨fun k hk => (by cases hk), fun k hk => ?_⟩
    rw [List.length_nil] at hk
    obtain rfl : k = 0 := by omega
    exact Nat.zero_le _
  | cons x r ih =>
    intro h
    obtain ⟨i1, i2⟩ := ih h.2.2
    have dl := dp_L r
    refine ⟨fun k hk => ?_, fun k hk => ?_⟩
    · rw [List.length_cons] at hk
      by_cases c : k = r.length
      · rw [c, cd_d x r _ (Nat.le_refl _), dl, show cdF (x :: r) r.length = x by rw [cdF, if_pos rfl]]
        exact h.1
      · rw [cd_n (by omega), cd_d x r _ (by omega)]
        exact i1 k (by omega)
    · rw [List.length_cons] at hk
      by_cases c : k = r.length + 1
      · have := dp_L (x :: r)
        rw [List.length_cons] at this
        rw [c, this]
        exact h.2.1
      · rw [cd_d x r _ (by omega)]
        exact i2 k (by omega)
theorem WF_of {nm a : Nat} {c : List Nat} (h : okL nm a c) (h1 : dL c = 1) (h2 : c.length ≤ 96) (h3 : a ≤ 96) : WF (cdF c) c.length nm a := ⟨⟨h2, h3⟩, (ok_W c h).1, by rw [dp_L]; exact h1, (ok_W c h).2⟩
theorem PF_p {b : Nat → Nat} {L key : Nat} : ∀ m e g wn st cd at', e ≤ L → (PF b L key m e g wn st cd at').2 ≤ L := by
  intro m
  induction m with
  | zero => intro e g wn st cd at' _; exact Nat.zero_le _
  | succ m ih =>
    intro e g wn st cd at' he
    rw [PF]
    by_cases z : L ≤ tSk b L e
    · rw [if_pos z]; exact Nat.le_refl _
    · rw [if_neg z]
      cases SP b key (tKd b L e g) (tSk b L e) (tTe b L e) wn st cd at' with
      | none => exact sk_le he
      | some x => exact ih _ _ _ _ _ _ (te_b he).2.1
theorem PT_p (b : Nat → Nat) (L : Nat) : (PT b L).2 ≤ L := by
  unfold PT
  by_cases c : kyS b (tSk b L 0) (tTe b L 0) < 3
  · rw [if_pos c]
    have := PF_p (b := b) (L := L) (key := kyS b (tSk b L 0) (tTe b L 0)) 97 (tTe b L 0) true true [] [] 0 (te_b (Nat.zero_le L)).2.1
    revert this
    rcases PF b L (kyS b (tSk b L 0) (tTe b L 0)) 97 (tTe b L 0) true true [] [] 0 with ⟨o, p⟩
    cases o with
    | none => intro q; exact q
    | some x => intro q; exact q
  · rw [if_neg c]; exact sk_le (Nat.zero_le L)
theorem PT_w {b : Nat → Nat} {L : Nat} (hL : L ≤ 96) {x : Nat × List Nat × Nat} (h : (PT b L).1 = some x) : x.1 < 3 ∧ x.2.1.length ≤ 96 ∧ x.2.2 ≤ 96 ∧ WF (cdF x.2.1) x.2.1.length (nmK x.1) x.2.2 := by
  unfold PT at h
  by_cases c : kyS b (tSk b L 0) (tTe b L 0) < 3
  · rw [if_pos c] at h
    have I := PF_i (b := b) (key := kyS b (tSk b L 0) (tTe b L 0)) hL 97 (tTe b L 0) true true [] [] 0 (te_b (Nat.zero_le L)).2.1 (Nat.zero_le _) (IS_0 _)
    revert h I
    rcases PF b L (kyS b (tSk b L 0) (tTe b L 0)) 97 (tTe b L 0) true true [] [] 0 with ⟨o, p⟩
    cases o with
    | none => intro h; cases h
    | some y =>
      intro h I
      cases h
      obtain ⟨j1, j2, j3, j4⟩ := I y.1 y.2 rfl
      exact ⟨c, j3, j4, WF_of j1 j2 j3 j4⟩
  · rw [if_neg c] at h; cases h
/-- three cells more -/
def FN3 (w w' : Wd) : Prop := wN w' = wN w + 3 ∧ ∀ a, a < wN w → wK w' a = wK w a ∧ wL w' a = wL w a ∧ wR w' a = wR w a ∧ wI w' a = wI w a
theorem FN3.lay {w w' : Wd} (h : FN3 w w') (hL : Lay w) : Lay w' := by
  obtain ⟨l1, l2, l3⟩ := hL
  refine ⟨by rw [h.1]; omega, by rw [h.1]; omega, fun a ha => ?_⟩
  obtain ⟨k1, k2, k3, k4⟩ := h.2 a (by omega)
  rw [k1, k2, k3]
  exact l3 a ha
theorem TXc.n3 {w w' : Wd} {a key len at' : Nat} {τ : Nat → Nat} (hT : TXc w a key len at' τ) (h : FN3 w w') : TXc w' a key len at' τ := by
  obtain ⟨⟨q1, q2, q3⟩, q4, q5, q6⟩ := hT
  obtain ⟨a1, a2, a3, a4⟩ := h.2 a (by omega)
  obtain ⟨b1, b2, b3, b4⟩ := h.2 (a - 1) (by omega)
  obtain ⟨c1, c2, c3, c4⟩ := h.2 (a + 1) (by omega)
  refine ⟨⟨q1, q2, by rw [h.1]; omega⟩, ?_, ?_, ?_⟩
  · rw [a1, a3, a4]; exact q4
  · rw [b1, b2, c1, c2]; exact q5
  · rw [b4]; exact q6
theorem RI.n3 {w w' : Wd} {b : Nat} {σ : Nat → Int32} (hb : bI b) (hL : Lay w) (hS : Sv σ) (R : RI w b σ) (h : FN3 w w') : RI w' b σ := by
  have h12 := hS.c12
  have bl := bI_lt hb
  have l1 := hL.1
  have e : ∀ x, x < 119 → wI w' x = wI w x := fun x hx => (h.2 x (by omega)).2.2.2
  refine ⟨⟨?_, ?_, fun i hi j hj => ?_⟩, ⟨fun p hp => ?_, fun j hj => ?_, ?_⟩, ?_, fun k hk => ?_, fun t ht => ?_⟩
  · rw [e b (by omega)]; exact R.1.1
  · rw [e (b + 1) (by omega)]; exact R.1.2.1
  · rw [e (b + 7 + i) (by omega)]; exact R.1.2.2 i hi j hj
  · rw [e (b + 3) (by omega)]; exact R.2.1.1 p hp
  · rw [e (b + 4) (by omega)]; exact R.2.1.2.1 j hj
  · rw [e b (by omega)]; exact R.2.1.2.2
  · rw [e b (by omega)]; exact R.2.2.1
  · rw [e (b + 6) (by omega)]; exact R.2.2.2.1 k hk
  · obtain ⟨a, h1, h2⟩ := R.2.2.2.2 t ht
    exact ⟨a, by rw [(h.2 (b + 5) (by omega)).2.2.1]; exact h1, h2.n3 h⟩
theorem nK1 (w : Wd) (k n : Nat) : wK (nC w k n) (wN w) = k := va_up_self _ _ _
theorem nK2 (w : Wd) (k n : Nat) {a : Nat} (h : a ≠ wN w) : wK (nC w k n) a = wK w a := va_up_ne _ _ h
theorem nL1 (w : Wd) (k n : Nat) : wL (nC w k n) (wN w) = n := va_up_self _ _ _
theorem nL2 (w : Wd) (k n : Nat) {a : Nat} (h : a ≠ wN w) : wL (nC w k n) a = wL w a := va_up_ne _ _ h
theorem nI2 (w : Wd) (k n : Nat) {a : Nat} (h : a ≠ wN w) : wI (nC w k n) a = wI w a := va_up_ne _ _ h
theorem nR2 (w : Wd) (k n : Nat) {a : Nat} (h : a ≠ wN w) : wR (nC w k n) a = wR w a := va_up_ne _ _ h
theorem ib_y {k n : Nat} (h : k < n) (hn : n < 2 ^ 31) : ib (nI k) n = true := by
  unfold ib
  rw [nI_toInt (by omega), decide_eq_true (show (0 : Int) ≤ (k : Int) by omega), decide_eq_true (show (k : Int) < (n : Int) by omega)]
  rfl
theorem x_law {w : Wd} {key at' : Nat} {st cd : List Nat} (h : Lay w) (X : XS w key st cd at') (hl : cd.length ≤ 96) (ha : at' ≤ 96) : ∃ w', f_X6_lawRead 61 w = some (some (wN w + 1), w') ∧ FN3 w w' ∧ TXc w' (wN w + 1) key cd.length at' (cdF cd) := by
  obtain ⟨x5, x8, x9, -, -, -, xc, -⟩ := X
  have l1 := h.1
  have l2 := h.2.1
  obtain ⟨N, eN⟩ : ∃ N, N = wN w := ⟨_, rfl⟩
  obtain ⟨w5, e5⟩ : ∃ w5, w5 = nC w 11 cd.length := ⟨_, rfl⟩
  have n5 : wN w5 = N + 1 := by rw [e5, eN]; rfl
  have k5 : ∀ a, a ≠ N → wK w5 a = wK w a ∧ wL w5 a = wL w a ∧ wI w5 a = wI w a ∧ wR w5 a = wR w a := fun a q => by
    rw [eN] at q
    rw [e5]
    exact ⟨nK2 w _ _ q, nL2 w _ _ q, nI2 w _ _ q, nR2 w _ _ q⟩
  have k5N : wK w5 N = 11 ∧ wL w5 N = cd.length := by rw [e5, eN]; exact ⟨nK1 w _ _, nL1 w _ _⟩
  obtain ⟨w11, e11⟩ : ∃ w11, w11 = cp_W w5 63 0 N 0 (nI cd.length) := ⟨_, rfl⟩
  have n11 : wN w11 = N + 1 := by rw [e11]; exact n5
  have K11 : wK w11 = wK w5 ∧ wL w11 = wL w5 ∧ wR w11 = wR w5 := by rw [e11]; exact ⟨rfl, rfl, rfl⟩
  have I11 : ∀ a, a ≠ N → wI w11 a = wI w5 a := fun a q => by rw [e11]; exact wI_c2 _ _ _ _ _ q
  have I11N : ∀ k, k < cd.length → wI w11 N k = wI w5 63 k := fun k hk => by rw [e11]; exact cp_at w5 63 N (by omega) hk
  obtain ⟨w15, e15⟩ : ∃ w15, w15 = nC w11 7 4 := ⟨_, rfl⟩
  have n15 : wN w15 = N + 2 := by rw [e15]; show wN w11 + 1 = _; rw [n11]
  have k15 : ∀ a, a ≠ N + 1 → wK w15 a = wK w11 a ∧ wL w15 a = wL w11 a ∧ wI w15 a = wI w11 a ∧ wR w15 a = wR w11 a := fun a q => by
    rw [← n11] at q
    rw [e15]
    exact ⟨nK2 w11 _ _ q, nL2 w11 _ _ q, nI2 w11 _ _ q, nR2 w11 _ _ q⟩
  have k15N : wK w15 (N + 1) = 7 := by rw [e15, ← n11]; exact nK1 w11 _ _
  obtain ⟨w6, e6⟩ : ∃ w6, w6 = sR (sI (sI w15 (N + 1) 0 (nI key)) (N + 1) 1 (nI at')) (N + 1) 2 (some N) := ⟨_, rfl⟩
  have n6 : wN w6 = N + 2 := by rw [e6]; exact n15
  have K6 : wK w6 = wK w15 ∧ wL w6 = wL w15 := by rw [e6]; exact ⟨rfl, rfl⟩
  have I6 : ∀ a, a ≠ N + 1 → wI w6 a = wI w15 a := fun a q => by rw [e6]; show wI (sI (sI w15 (N + 1) 0 (nI key)) (N + 1) 1 (nI at')) a = _; rw [wI_s2 _ _ _ q, wI_s2 _ _ _ q]
  have R6 : ∀ a, a ≠ N + 1 → wR w6 a = wR w15 a := fun a q => by rw [e6, wR_r3 _ _ q]; rfl
  obtain ⟨w18, e18⟩ : ∃ w18, w18 = nC w6 11 (at' + 1) := ⟨_, rfl⟩
  have n18 : wN w18 = N + 3 := by rw [e18]; show wN w6 + 1 = _; rw [n6]
  have k18 : ∀ a, a ≠ N + 2 → wK w18 a = wK w6 a ∧ wL w18 a = wL w6 a ∧ wI w18 a = wI w6 a ∧ wR w18 a = wR w6 a := fun a q => by
    rw [← n6] at q
    rw [e18]
    exact ⟨nK2 w6 _ _ q, nL2 w6 _ _ q, nI2 w6 _ _ q, nR2 w6 _ _ q⟩
  have k18N : wK w18 (N + 2) = 11 ∧ wL w18 (N + 2) = at' + 1 := by rw [e18, ← n6]; exact ⟨nK1 w6 _ _, nL1 w6 _ _⟩
  obtain ⟨w19, e19⟩ : ∃ w19, w19 = sR w18 (N + 1) 3 (some (N + 2)) := ⟨_, rfl⟩
  have n19 : wN w19 = N + 3 := by rw [e19]; exact n18
  have K19 : wK w19 = wK w18 ∧ wL w19 = wL w18 ∧ wI w19 = wI w18 := by rw [e19]; exact ⟨rfl, rfl, rfl⟩
  have R19 : ∀ a, a ≠ N + 1 → wR w19 a = wR w18 a := fun a q => by rw [e19]; exact wR_r3 _ _ q
  have k61 : wK w5 61 = 6 ∧ wK w15 61 = 6 := by
    have a1 := (k5 61 (by omega)).1
    refine ⟨by rw [a1]; exact lk_61 h, ?_⟩
    rw [(k15 61 (by omega)).1, K11.1, a1]
    exact lk_61 h
  have f61 : wI w5 61 = wI w 61 ∧ wI w15 61 = wI w 61 := by
    have a1 := (k5 61 (by omega)).2.2.1
    refine ⟨a1, ?_⟩
    rw [(k15 61 (by omega)).2.2.1, I11 61 (by omega), a1]
  have r61 : wR w5 61 7 = some 63 := by rw [(k5 61 (by omega)).2.2.2]; exact lr_61_7 h
  have k63 := k5 63 (by omega)
  have cpk : cp_ok w5 63 0 N 0 (nI cd.length) = true := by
    unfold cp_ok
    rw [k63.1, lk_63 h, k63.2.1, ll_63 h, k5N.1, k5N.2, show nx 0 = 0 from rfl, nx_nI (by omega)]
    simp only [decide_true, Bool.true_and, Bool.and_eq_true, decide_eq_true_eq]
    exact ⟨by decide, by decide, nI_nlt0 (by omega), by omega, by omega⟩
  have init : f_X7_init (N + 1) (nI key) (nI at') N w15 = some ((), w19) := by
    unfold f_X7_init
    have s7 : wK (nC w6 11 (at' + 1)) (N + 1) = 7 := by rw [← e18, (k18 (N + 1) (by omega)).1, K6.1]; exact k15N
    rw [if_pos k15N, lb_e, lb_e, lb_e, ← e6, nI_s1, ib_y (by omega) (by decide), if_pos rfl, lb_e, nx_nI (by omega), n6, lb_e, s7, if_pos rfl, lb_e, ← e18, ← e19]
  refine ⟨w19, ?_, ⟨by rw [n19, eN], fun a q => ?_⟩, ?_⟩
  · unfold f_X6_lawRead
    rw [lk_61 h, if_pos rfl, x8, ib_y (by omega) (by decide), if_pos rfl, lb_e, nx_nI (by omega), ← e5, lb_e, k61.1, if_pos rfl, r61, bd1_s, f61.1, x8, ← eN, cpk, if_pos rfl, ← e11, lb_e, n11, lb_e, ← e15, lb_e, k61.2, if_pos rfl, f61.2, x5, x9, init, bd2_s]
  · rw [← eN] at q
    have q1 : a ≠ N := by omega
    have q2 : a ≠ N + 1 := by omega
    have q3 : a ≠ N + 2 := by omega
    obtain ⟨a1, a2, a3, a4⟩ := k5 a q1
    obtain ⟨b1, b2, b3, b4⟩ := k15 a q2
    obtain ⟨c1, c2, c3, c4⟩ := k18 a q3
    refine ⟨?_, ?_, ?_, ?_⟩
    · rw [K19.1, c1, K6.1, b1, K11.1, a1]
    · rw [K19.2.1, c2, K6.2, b2, K11.2.1, a2]
    · rw [R19 a q2, c4, R6 a q2, b4, K11.2.2, a4]
    · rw [K19.2.2, c3, I6 a q2, b3, I11 a q1, a3]
  · rw [← eN]
    have m1 := k18 (N + 1) (by omega)
    have m0 := k18 N (by omega)
    have p0 := k15 N (by omega)
    refine ⟨⟨by omega, by omega, by rw [n19]; omega⟩, ⟨?_, ?_, ?_, ?_, ?_⟩, ⟨?_, ?_, ?_, ?_⟩, fun k hk => ?_⟩
    · rw [K19.1, m1.1, K6.1]; exact k15N
    · rw [K19.2.2, m1.2.2.1, e6]; show wI (sI (sI w15 (N + 1) 0 (nI key)) (N + 1) 1 (nI at')) (N + 1) 0 = _; rw [wI_sn _ _ (Or.inr (by decide)), wI_ss]
    · rw [K19.2.2, m1.2.2.1, e6]; show wI (sI (sI w15 (N + 1) 0 (nI key)) (N + 1) 1 (nI at')) (N + 1) 1 = _; rw [wI_ss]
    · rw [e19, wR_r2 _ _ (Or.inr (by decide)), m1.2.2.2, e6, wR_r1, Nat.add_sub_cancel]
    · rw [e19, wR_r1]
    · rw [Nat.add_sub_cancel, K19.1, m0.1, K6.1, p0.1, K11.1]; exact k5N.1
    · rw [Nat.add_sub_cancel, K19.2.1, m0.2.1, K6.2, p0.2.1, K11.2.1]; exact k5N.2
    · rw [K19.1]; exact k18N.1
    · rw [K19.2.1]; exact k18N.2
    · rw [Nat.add_sub_cancel, K19.2.2, m0.2.2.1, I6 N (by omega), p0.2.2.1, I11N k hk, k63.2.2.1]
      exact Rw_c cd xc k hk
