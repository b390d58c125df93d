/-! THE CALLS: sits, who, cushion, rule, told, inn -/
theorem FM.of97 {w w' : Wd} (h : Fr (fun a => a = 97 ∨ a = 108 ∨ a = 109) w w') : FM w w' := FM.of h
theorem seatS_Mn {σ : Nat → Int32} (h : Mn σ) (i p : Nat) : Mn (seatS σ i p) := by
  obtain ⟨m, q1, q2⟩ := h
  exact ⟨m, q1, by rw [seatS_lo σ (by decide) (by decide)]; exact q2⟩
theorem E_sits {w : Wd} (I : Iv w) (s p : Int32) : Ok2 (f_X8_sits 0 s p) (f_X9_sits 96 s p) w := by
  have h := I.1
  obtain ⟨hV, hM, hR⟩ := I.2.1
  have hS := hV.1
  have h12 := hS.c12
  have hn12 := hS.n12
  have xi := x_isSitter I s
  have xp := x_isPlace I p
  have mi := m_isSitter h rfl s
  have mp := m_isPlace h rfl p
  by_cases c1 : wi_ s 0 (wI w 97 1 - 1) = 0
  · exact Ok2.q I (r := -1000000001) (by simp only [f_X8_sits, lk_0 h, lr_0_0 h, bd1_s, bd2_s, lb_e, ↓reduceIte, li_k h bI1, li_r0 h bI1, li_r1 h bI1, li_r3 h bI1, li_r4 h bI1, li_k1 h bI1, xi, c1]) (by simp only [f_X9_sits, lk_96 h, lr_96_0 h, bd1_s, bd2_s, lb_e, ↓reduceIte, mi, c1])
  by_cases c2 : wi_ p 0 (wI w 97 2 - 1) = 0
  · exact Ok2.q I (r := -1000000001) (by simp only [f_X8_sits, lk_0 h, lr_0_0 h, bd1_s, bd2_s, lb_e, ↓reduceIte, li_k h bI1, li_r0 h bI1, li_r1 h bI1, li_r3 h bI1, li_r4 h bI1, li_k1 h bI1, xi, c1, xp, c2]) (by simp only [f_X9_sits, lk_96 h, lr_96_0 h, bd1_s, bd2_s, lb_e, ↓reduceIte, mi, c1, mp, c2])
  have c1' := c1
  have c2' := c2
  rw [hS.c] at c1'
  rw [hS.n] at c2'
  obtain ⟨i, hi, rfl⟩ := wi_n (by omega) c1'
  obtain ⟨q, hq, rfl⟩ := wi_n (by omega) c2'
  have hi12 : i < 12 := by omega
  have hP := x_placesFor h bI1 hS hR.1 hi
  have hmy := m_may h rfl hS hi hq
  have hbit : bt (pl (wI w 97) i) q = true ↔ (sv (wI w 97) i 1 < 0 ∧ myS (wI w 97) (sv (wI w 97) i 0) q = true) := by
    unfold pl
    by_cases c : sv (wI w 97) i 1 < 0
    · rw [if_pos c, plK_b hS _ (by omega), decide_eq_true hq, Bool.true_and]
      exact ⟨fun z => ⟨c, z⟩, fun z => z.2⟩
    · rw [if_neg c, b_0]
      exact ⟨(fun z => by cases z), fun z => absurd z.1 c⟩
  by_cases c : sv (wI w 97) i 1 < 0 ∧ myS (wI w 97) (sv (wI w 97) i 0) q = true
  · obtain ⟨w1, f1, R1, F1⟩ := x_seat h bI1 hV hR hi hq (my_fit c.2).1
    have h1 := F1.lay h
    have e97 : wI w1 97 = wI w 97 := F1.2.2.2.2 97 (by unfold In_ Sk; omega)
    obtain ⟨w2, f2, n2, F2⟩ := m_sitsDown h1 e97 hV hi (show q < 12 by omega)
    have mi1 := m_isSitter h1 e97 (nI i)
    have mp1 := m_isPlace h1 e97 (nI q)
    have mt1 := m_taken h1 e97 hS
    have mm1 := m_may h1 e97 hS hi hq
    refine ⟨payS (wI w 97) i q, w1, w2, ?_, h1, ?_, I.now F1 R1 (hV.seat hi hq c.2) (seatS_Mn hM i q) (FM.of F2) n2⟩
    · simp only [f_X8_sits, lk_0 h, lr_0_0 h, bd1_s, bd2_s, lb_e, ↓reduceIte, li_k h bI1, li_r0 h bI1, li_r1 h bI1, li_r3 h bI1, li_r4 h bI1, li_k1 h bI1, xi, c1, xp, c2, li_a2 h bI1 hi12, nx_nI (show i < 2 ^ 31 by omega), li_s h bI1 hi12, hP, f_X8_has, bh (show q < 32 by omega), hbit.mpr c, show ¬ (1 : Int32) = 0 by decide, f1]
    · simp only [f_X9_sits, lk_96 h1, bd2_s, ↓reduceIte, mi1, c1, mp1, c2, mt1, mm1, c, and_self, show ¬ (1 : Int32) = 0 by decide, f2]
  · refine Ok2.q I (r := -1000000002) ?_ ?_
    · have hb0 : bt (pl (wI w 97) i) q = false := by
        cases z : bt (pl (wI w 97) i) q
        · rfl
        · exact absurd (hbit.mp z) c
      simp only [f_X8_sits, lk_0 h, lr_0_0 h, bd1_s, bd2_s, lb_e, ↓reduceIte, li_k h bI1, li_r0 h bI1, li_r1 h bI1, li_r3 h bI1, li_r4 h bI1, li_k1 h bI1, xi, c1, xp, c2, li_a2 h bI1 hi12, nx_nI (show i < 2 ^ 31 by omega), li_s h bI1 hi12, hP, f_X8_has, bh (show q < 32 by omega), hb0, Bool.false_eq_true]
    · simp only [f_X9_sits, lk_96 h, lr_96_0 h, bd1_s, bd2_s, lb_e, ↓reduceIte, mi, c1, mp, c2, m_taken h rfl hS, hmy, c]
/-- who takes a place: the first that does -/
def whF (σ : Nat → Int32) (p : Nat) : Nat → Nat → Option Nat
  | 0, _ => none
  | m + 1, k => if bt (so σ k) p = true then some k else whF σ p m (k + 1)
theorem whF_ok {σ : Nat → Int32} {p : Nat} : ∀ {m k i : Nat}, whF σ p m k = some i → k ≤ i ∧ i < k + m ∧ bt (so σ i) p = true := by
  intro m
  induction m with
  | zero => intro k i h; cases h
  | succ m ih =>
    intro k i h
    rw [whF] at h
    split at h
    · rename_i c; cases h; exact ⟨by omega, by omega, c⟩
    · have := ih h; exact ⟨by omega, by omega, this.2.2⟩
theorem whF_no {σ : Nat → Int32} {p : Nat} : ∀ {m k : Nat}, whF σ p m k = none → ∀ i, k ≤ i → i < k + m → bt (so σ i) p = false := by
  intro m
  induction m with
  | zero => intro k h i h1 h2; omega
  | succ m ih =>
    intro k h i h1 h2
    rw [whF] at h
    split at h
    · cases h
    · rename_i c
      by_cases e : i = k
      · subst e
        cases z : bt (so σ i) p
        · rfl
        · exact absurd z c
      · exact ih h i (by omega) (by omega)
theorem E_who {w : Wd} (I : Iv w) (p : Int32) : Ok2 (f_X8_who 0 p) (f_X9_who 96 p) w := by
  have h := I.1
  obtain ⟨hV, hM, hR⟩ := I.2.1
  have hS := hV.1
  have hD := hV.2.2.2
  have h12 := hS.c12
  have hn12 := hS.n12
  have xp := x_isPlace I p
  have mp := m_isPlace h rfl p
  by_cases c2 : wi_ p 0 (wI w 97 2 - 1) = 0
  · exact Ok2.q I (r := -1000000001) (by simp only [f_X8_who, lk_0 h, lr_0_0 h, bd1_s, bd2_s, lb_e, ↓reduceIte, li_k h bI1, li_r0 h bI1, li_r1 h bI1, li_r3 h bI1, li_r4 h bI1, li_k1 h bI1, xp, c2]) (by simp only [f_X9_who, lk_96 h, lr_96_0 h, bd1_s, bd2_s, lb_e, ↓reduceIte, mp, c2])
  have c2' := c2
  rw [hS.n] at c2'
  obtain ⟨q, hq, rfl⟩ := wi_n (by omega) c2'
  have hq32 : q < 32 := by omega
  have LX : ∀ n m k, k + m = c_ (wI w 97) → m < n → L_X8_who_13 n 0 (nI q) (nI k) w = some (match whF (wI w 97) q m k with | none => NONE_ | some i => nI i, w) := by
    intro n
    induction n with
    | zero => intro m k _ g; omega
    | succ n ih =>
      intro m k g1 g2
      unfold L_X8_who_13
      simp only [lk_0 h, lr_0_0 h, bd1_s, bd2_s, lb_e, ↓reduceIte, li_k h bI1, li_r0 h bI1, li_r1 h bI1, li_r3 h bI1, li_r4 h bI1, li_k1 h bI1, hR.1.1, hS.c]
      cases m with
      | zero => rw [if_pos ((nI_le' (by omega) (by omega)).mpr (by omega))]; rfl
      | succ m =>
        rw [if_neg (fun z => by have := (nI_le' (by omega) (by omega)).mp z; omega)]
        have hk12 : k < 12 := by omega
        simp only [li_a2 h bI1 hk12, nx_nI (show k < 2 ^ 31 by omega), li_s h bI1 hk12, bd1_s, x_placesOf h bI1 hS hR.1 (show k < c_ (wI w 97) by omega), bd2_s, f_X8_has, bh hq32, ↓reduceIte]
        rw [whF]
        cases z : bt (so (wI w 97) k) q
        · simp only [Bool.false_eq_true, ↓reduceIte, lb_e, nI_s1]
          exact ih m (k + 1) (by omega) (by omega)
        · simp only [↓reduceIte, show ¬ (1 : Int32) = 0 by decide]
  have a1 : aK 11 w 97 1 = true := la_97 h (show 1 < 1444 by decide)
  have LM : ∀ n m k (f : Int32), k + m = c_ (wI w 97) → m < n → (∀ i, whF (wI w 97) q (c_ (wI w 97)) 0 = some i → i < k → f = nI i) → (whF (wI w 97) q (c_ (wI w 97)) 0 = none → f = -1) → ((∃ i, whF (wI w 97) q (c_ (wI w 97)) 0 = some i ∧ k ≤ i) → f = -1) → L_X9_who_15 n 96 (nI q) f (nI k) w = some (match whF (wI w 97) q (c_ (wI w 97)) 0 with | none => NONE_ | some i => nI i, w) := by
    intro n
    induction n with
    | zero => intro m k f _ g; omega
    | succ n ih =>
      intro m k f g1 g2 f1 f2 f3
      unfold L_X9_who_15
      simp only [lk_96 h, lr_96_0 h, bd1_s, bd2_s, lb_e, ↓reduceIte, a1, show nx 1 = 1 from rfl, hS.c]
      cases m with
      | zero =>
        rw [if_pos ((nI_le' (by omega) (by omega)).mpr (by omega))]
        simp only [f_X9_told0, bd2_s]
        cases e : whF (wI w 97) q (c_ (wI w 97)) 0 with
        | none => rw [f2 e]; rfl
        | some i =>
          have hi := whF_ok e
          rw [f1 i e (by omega), if_pos (nI_pos' (by omega))]
      | succ m =>
        rw [if_neg (fun z => by have := (nI_le' (by omega) (by omega)).mp z; omega), m_setOf h rfl hS (by omega), bd2_s, nI_s1]
        rw [show (if so (wI w 97) k >>> (nI q &&& 31) &&& 1 = 1 then nI k else f) = (if bt (so (wI w 97) k) q = true then nI k else f) by
          rw [b_has hq32]
          cases bt (so (wI w 97) k) q
          · simp only [Bool.false_eq_true, ↓reduceIte, show ¬ (0 : Int32) = 1 by decide]
          · simp only [↓reduceIte]]
        refine ih m (k + 1) _ (by omega) (by omega) (fun i e hi => ?_) (fun e => ?_) (fun e => ?_)
        · have hi' := whF_ok e
          by_cases z : i = k
          · subst z; rw [if_pos hi'.2.2]
          · rw [if_neg (fun b => hD i k (by omega) (by omega) q hq32 ⟨hi'.2.2, b⟩)]
            exact f1 i e (by omega)
        · have := whF_no e k (by omega) (by omega)
          rw [this]
          exact f2 e
        · obtain ⟨i, e1, e2⟩ := e
          have hi' := whF_ok e1
          rw [if_neg (fun b => hD k i (by omega) (by omega) q hq32 ⟨b, hi'.2.2⟩)]
          exact f3 ⟨i, e1, by omega⟩
  refine Ok2.q I (r := match whF (wI w 97) q (c_ (wI w 97)) 0 with | none => NONE_ | some i => nI i) ?_ ?_
  · simp only [f_X8_who, lk_0 h, lr_0_0 h, bd1_s, bd2_s, lb_e, ↓reduceIte, li_k h bI1, li_r0 h bI1, li_r1 h bI1, li_r3 h bI1, li_r4 h bI1, li_k1 h bI1, xp, c2]
    exact LX FU (c_ (wI w 97)) 0 (by omega) (by unfold FU; omega)
  · simp only [f_X9_who, lk_96 h, lr_96_0 h, bd1_s, bd2_s, lb_e, ↓reduceIte, mp, c2]
    exact LM FU (c_ (wI w 97)) 0 (-1) (by omega) (by unfold FU; omega) (fun i _ hi => absurd hi (Nat.not_lt_zero i)) (fun _ => rfl) (fun _ => rfl)
/-! cushions and rules -/
theorem RI.cu {w : Wd} {b p : Nat} {σ : Nat → Int32} (hb : bI b) (hS : Sv σ) (h : RI w b σ) (hp : p < 12) (v : Int32) : RI (sI w (b + 3) p v) b (upd σ (12 + p) v) := by
  have h12 := hS.c12
  have hbl := bI_lt hb
  have e : ∀ x, x ≠ b + 3 → wI (sI w (b + 3) p v) x = wI w x := fun x hx => wI_s2 _ _ _ hx
  refine ⟨⟨?_, ?_, fun i' hi' j' hj' => ?_⟩, ⟨fun q hq => ?_, fun j' hj' => ?_, ?_⟩, h.2.2.go hb (Tsm.upd v (by omega) (by omega)) (Fr.sI (A := fun x => x = b + 3) w p v rfl) (fun x q => Or.inl (by omega)) (by rw [e b (by omega)]) (fun k _ => by rw [e (b + 6) (by omega)])⟩
  · rw [e b (by omega), upd_n _ _ (by omega)]; exact h.1.1
  · rw [e (b + 1) (by omega), upd_n _ _ (by omega), upd_n _ _ (by omega), upd_n _ _ (by omega), n_upd v (by omega)]; exact h.1.2.1
  · rw [c_upd v (by omega)] at hi'
    unfold sv
    rw [e _ (by omega), upd_n _ _ (by omega)]; exact h.1.2.2 i' hi' j' hj'
  · by_cases z : q = p
    · subst z; rw [wI_ss, upd_s]
    · rw [wI_sn _ _ (Or.inr z), upd_n _ _ (by omega)]; exact h.2.1.1 q hq
  · rw [e (b + 4) (by omega), upd_n _ _ (by omega)]; exact h.2.1.2.1 j' hj'
  · rw [e b (by omega), upd_n _ _ (by omega), upd_n _ _ (by omega), upd_n _ _ (by omega)]; exact h.2.1.2.2
theorem RI.ru {w : Wd} {b p : Nat} {σ : Nat → Int32} (hb : bI b) (hS : Sv σ) (h : RI w b σ) (hp : p < 4) (v : Int32) : RI (sI w (b + 4) p v) b (upd σ (6 + p) v) := by
  have h12 := hS.c12
  have hbl := bI_lt hb
  have e : ∀ x, x ≠ b + 4 → wI (sI w (b + 4) p v) x = wI w x := fun x hx => wI_s2 _ _ _ hx
  refine ⟨⟨?_, ?_, fun i' hi' j' hj' => ?_⟩, ⟨fun q hq => ?_, fun j' hj' => ?_, ?_⟩, h.2.2.go hb (Tsm.upd v (by omega) (by omega)) (Fr.sI (A := fun x => x = b + 4) w p v rfl) (fun x q => Or.inl (by omega)) (by rw [e b (by omega)]) (fun k _ => by rw [e (b + 6) (by omega)])⟩
  · rw [e b (by omega), upd_n _ _ (by omega)]; exact h.1.1
  · rw [e (b + 1) (by omega), upd_n _ _ (by omega), upd_n _ _ (by omega), upd_n _ _ (by omega), n_upd v (by omega)]; exact h.1.2.1
  · rw [c_upd v (by omega)] at hi'
    unfold sv
    rw [e _ (by omega), upd_n _ _ (by omega)]; exact h.1.2.2 i' hi' j' hj'
  · rw [e (b + 3) (by omega), upd_n _ _ (by omega)]; exact h.2.1.1 q hq
  · by_cases z : j' = p
    · subst z; rw [wI_ss, upd_s]
    · rw [wI_sn _ _ (Or.inr z), upd_n _ _ (by omega)]; exact h.2.1.2.1 j' hj'
  · rw [e b (by omega), upd_n _ _ (by omega), upd_n _ _ (by omega), upd_n _ _ (by omega)]; exact h.2.1.2.2
/-- price and cushions within -/
theorem Vd.cu {σ : Nat → Int32} (hV : Vd σ) {j q : Nat} (hj : j = 6 ∨ (12 ≤ j ∧ j < 24)) (hq : q ≤ 99) : Vd (upd σ j (nI q)) := by
  have u : ∀ x, x ≠ j → upd σ j (nI q) x = σ x := fun x hx => upd_n _ _ hx
  have us : ∀ i f, sv (upd σ j (nI q)) i f = sv σ i f := fun i f => by unfold sv; exact u _ (by omega)
  have eso : ∀ i, so (upd σ j (nI q)) i = so σ i := fun i => by unfold so; rw [us, us, n_upd _ (by omega)]
  obtain ⟨hS, hP, hT, hD⟩ := hV
  refine ⟨?_, ⟨?_, fun p hp => ?_⟩, (Tsm.upd _ (by omega) (by omega)).tv hT, ?_⟩
  · unfold Sv
    rw [c_upd _ (by omega), n_upd _ (by omega), u 1 (by omega), u 2 (by omega), u 3 (by omega), u 4 (by omega)]
    exact ⟨hS.1, hS.2.1, hS.2.2.1, hS.2.2.2.1, fun i hi => by rw [us, us]; exact hS.2.2.2.2 i hi⟩
  · by_cases z : j = 6
    · rw [z, upd_s]; exact ⟨q, hq, rfl⟩
    · rw [u 6 (by omega)]; exact hP.1
  · by_cases z : j = 12 + p
    · rw [z, upd_s]; exact ⟨q, hq, rfl⟩
    · rw [u _ (fun e => z e.symm)]; exact hP.2 p hp
  · intro i k h1 h2 p hp
    rw [c_upd _ (by omega)] at h2
    rw [eso, eso]
    exact hD i k h1 h2 p hp
theorem E_cushion {w : Wd} (I : Iv w) (p v : Int32) : Ok2 (f_X8_cushion 0 p v) (f_X9_cushion 96 p v) w := by
  have h := I.1
  obtain ⟨hV, hM, hR⟩ := I.2.1
  have hS := hV.1
  have hn12 := hS.n12
  have xp := x_isPlace I p
  have mp := m_isPlace h rfl p
  by_cases c1 : wi_ p 0 (wI w 97 2 - 1) = 0
  · exact Ok2.q I (r := -1000000001) (by simp only [f_X8_cushion, lk_0 h, lr_0_0 h, bd1_s, bd2_s, lb_e, ↓reduceIte, li_k h bI1, li_r0 h bI1, li_r1 h bI1, li_r3 h bI1, li_r4 h bI1, li_k1 h bI1, xp, c1]) (by simp only [f_X9_cushion, lk_96 h, lr_96_0 h, bd1_s, bd2_s, lb_e, ↓reduceIte, mp, c1])
  by_cases c2 : wi_ v 0 99 = 0
  · exact Ok2.q I (r := -1000000001) (by simp only [f_X8_cushion, lk_0 h, lr_0_0 h, bd1_s, bd2_s, lb_e, ↓reduceIte, li_k h bI1, li_r0 h bI1, li_r1 h bI1, li_r3 h bI1, li_r4 h bI1, li_k1 h bI1, xp, c1, wi_X, c2]) (by simp only [f_X9_cushion, lk_96 h, lr_96_0 h, bd1_s, bd2_s, lb_e, ↓reduceIte, mp, c1, wi_M, c2])
  have c1' := c1
  rw [hS.n] at c1'
  obtain ⟨q, hq, rfl⟩ := wi_n (by omega) c1'
  obtain ⟨u, -, hu, rfl⟩ := wi_ab (v := v) (a := 0) (b := 99) (by decide) c2 (by decide)
  have hq12 : q < 12 := by omega
  have F1 : Fr (In_ 1) w (sI w (1 + 3) q (nI u)) := Fr.sI _ _ _ (Or.inl ⟨by decide, by decide⟩)
  have h1 := F1.lay h
  have e97 : wI (sI w (1 + 3) q (nI u)) 97 = wI w 97 := wI_s2 _ _ _ (by decide)
  have mp1 := m_isPlace h1 e97 (nI q)
  have bc := m_becomes h1 (j := 12 + q) (by omega) (nI u)
  rw [e97, show nI (12 + q) = 12 + nI q by rw [show (12 : Int32) = nI 12 from rfl, nI_add]] at bc
  refine ⟨wI w 97 (12 + q), _, _, ?_, h1, ?_, I.now F1 (hR.cu bI1 hS hq12 (nI u)) (hV.cu (Or.inr ⟨by omega, by omega⟩) hu) (hM.upd _ (by omega)) (FM.now (12 + q) (nI u)) (by rw [wI_s1, e97])⟩
  · simp only [f_X8_cushion, lk_0 h, lr_0_0 h, bd1_s, bd2_s, lb_e, ↓reduceIte, li_k h bI1, li_r0 h bI1, li_r1 h bI1, li_r3 h bI1, li_r4 h bI1, li_k1 h bI1, xp, c1, wi_X, c2, li_a3 h bI1 hq12, nx_nI (show q < 2 ^ 31 by omega), hR.2.1.1 q hq12]
  · simp only [f_X9_cushion, lk_96 h1, bd2_s, ↓reduceIte, mp1, c1, wi_M, c2, bc]
theorem E_rule {w : Wd} (I : Iv w) (j v : Int32) : Ok2 (f_X8_rule 0 j v) (f_X9_rule 96 j v) w := by
  have h := I.1
  obtain ⟨hV, hM, hR⟩ := I.2.1
  have hS := hV.1
  by_cases c1 : wi_ j 0 3 = 0
  · exact Ok2.q I (r := -1000000001) (by simp only [f_X8_rule, bd2_s, wi_X, c1, ↓reduceIte]) (by simp only [f_X9_rule, bd2_s, wi_M, c1, ↓reduceIte])
  obtain ⟨q, -, hq, rfl⟩ := wi_ab (v := j) (a := 0) (b := 3) (by decide) c1 (by decide)
  have hq4 : q < 4 := by omega
  have et : ∀ q, q < 4 → rtL.getD q 0 = (if nI q = 0 then 99 else if nI q = 1 then 2 else 100 : Int32) := by decide +kernel
  have etop : rtL.getD (nx (nI q)) 0 = (if nI q = 0 then 99 else if nI q = 1 then 2 else 100 : Int32) := by rw [nx_nI (by omega)]; exact et q hq4
  generalize htop : (if nI q = 0 then 99 else if nI q = 1 then 2 else 100 : Int32) = top at etop
  by_cases c2 : wi_ v 0 top = 0
  · exact Ok2.q I (r := -1000000001) (by simp only [f_X8_rule, bd2_s, wi_X, c1, ↓reduceIte, ib_k hq4 (by decide), etop, c2]) (by simp only [f_X9_rule, bd2_s, wi_M, c1, ↓reduceIte, htop, c2])
  have F1 : Fr (In_ 1) w (sI w (1 + 4) q v) := Fr.sI _ _ _ (Or.inl ⟨by decide, by decide⟩)
  have h1 := F1.lay h
  have e97 : wI (sI w (1 + 4) q v) 97 = wI w 97 := wI_s2 _ _ _ (by decide)
  have bc := m_becomes h1 (j := 6 + q) (by omega) v
  rw [e97, show nI (6 + q) = 6 + nI q by rw [show (6 : Int32) = nI 6 from rfl, nI_add]] at bc
  have hVd : Vd (upd (wI w 97) (6 + q) v) := by
    by_cases z : q = 0
    · subst z
      have ht : top = 99 := htop.symm
      subst ht
      obtain ⟨u, -, hu, rfl⟩ := wi_ab (v := v) (a := 0) (b := 99) (by decide) c2 (by decide)
      exact hV.cu (Or.inl rfl) hu
    · exact hV.num v (Or.inr (Or.inr ⟨by omega, by omega⟩))
  refine ⟨wI w 97 (6 + q), _, _, ?_, h1, ?_, I.now F1 (hR.ru bI1 hS hq4 v) hVd (hM.upd _ (by omega)) (FM.now (6 + q) v) (by rw [wI_s1, e97])⟩
  · simp only [f_X8_rule, lk_0 h, lr_0_0 h, bd1_s, bd2_s, lb_e, ↓reduceIte, li_k h bI1, li_r0 h bI1, li_r1 h bI1, li_r3 h bI1, li_r4 h bI1, li_k1 h bI1, wi_X, c1, ib_k hq4 (show 4 < 2 ^ 31 by decide), etop, c2, li_a4 h bI1 hq4]
    rw [nx_nI (by omega), hR.2.1.2.1 q hq4]
  · simp only [f_X9_rule, lk_96 h1, bd2_s, ↓reduceIte, wi_M, c1, htop, c2, bc]
