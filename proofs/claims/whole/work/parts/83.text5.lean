/-! TEXTS: the class, signs and the whole -/
theorem sgI_y {x : Nat} (h : sgI x < 9) : nI x = sgX (sgI x) ∧ ¬ x = 41 := by
  unfold sgI at *
  by_cases a : x = 124
  · subst a; decide
  rw [if_neg a] at h ⊢
  by_cases a : x = 38
  · subst a; decide
  rw [if_neg a] at h ⊢
  by_cases a : x = 60
  · subst a; decide
  rw [if_neg a] at h ⊢
  by_cases a : x = 61
  · subst a; decide
  rw [if_neg a] at h ⊢
  by_cases a : x = 62
  · subst a; decide
  rw [if_neg a] at h ⊢
  by_cases a : x = 43
  · subst a; decide
  rw [if_neg a] at h ⊢
  by_cases a : x = 45
  · subst a; decide
  rw [if_neg a] at h ⊢
  by_cases a : x = 42
  · subst a; decide
  rw [if_neg a] at h ⊢
  by_cases a : x = 47
  · subst a; decide
  rw [if_neg a] at h
  omega
theorem sgI_n {x : Nat} (hx : x < 256) (h : ¬ sgI x < 9) (w : Wd) : f_X6_tightnessOf (nI x) w = some (0, w) := by
  have n : ∀ y, y < 256 → sgI y < 9 → ¬ nI x = nI y := fun y hy hs q => by
    have := nI_inj (show x < 2 ^ 31 by omega) (show y < 2 ^ 31 by omega) q
    subst this
    exact h hs
  unfold f_X6_tightnessOf
  rw [if_neg (show ¬ nI x = 38 from n 38 (by decide) (by decide)), if_neg (show ¬ nI x = 42 from n 42 (by decide) (by decide)), if_neg (show ¬ nI x = 43 from n 43 (by decide) (by decide)), if_neg (show ¬ nI x = 45 from n 45 (by decide) (by decide)), if_neg (show ¬ nI x = 47 from n 47 (by decide) (by decide)), if_neg (show ¬ nI x = 60 from n 60 (by decide) (by decide)), if_neg (show ¬ nI x = 61 from n 61 (by decide) (by decide)), if_neg (show ¬ nI x = 62 from n 62 (by decide) (by decide)), if_neg (show ¬ nI x = 124 from n 124 (by decide) (by decide))]
theorem x_settle {key at' t : Nat} (ht : t ≤ 5) {st cd : List Nat} {w : Wd} (h : Lay w) (g : gd st) (hh : hdN st ≠ 9) (hl : st.length + cd.length ≤ 96) (X : XS w key st cd at') : ∃ w', f_X6_settle 61 (nI t) w = some ((), w') ∧ FS w w' ∧ XS w' key (slS t st) (slC t st cd) at' ∧ wI w' 61 6 = wI w 61 6 := x_sl ht st cd FU w h g hh (by unfold FU; omega) hl X
theorem x_j79 {b : Nat → Nat} {s key at' : Nat} {st cd : List Nat} {w : Wd} (h : Lay w) (g : gd st) (hh : hdN st ≠ 9) (hl : st.length + cd.length + 1 ≤ 96) (X : XS w key st cd at') (hs : sgI (b s) < 9) (hd : dL cd = nb st + 1) {nm : Nat} (ho : okL nm at' cd) : ∃ w', j_X6_takesSign_79 61 (nI (b s)) (nI (rkS (sgI (b s)))) w = some (1, w') ∧ FS w w' ∧ XS w' key (sgI (b s) :: slS (rkS (sgI (b s))) st) (slC (rkS (sgI (b s))) st cd) at' ∧ wI w' 61 6 = 1 := by
  have rk5 : ∀ s, s ≤ 8 → rkS s ≤ 5 := by decide
  obtain ⟨w1, a1, F1, X1, a4⟩ := x_settle (rk5 (sgI (b s)) (by omega)) h g hh (by omega) X
  have h1 := F1.1.lay h
  obtain ⟨-, -, -, -, -, -, -, l8, -⟩ := sl_p (t := rkS (sgI (b s))) st cd g hh hd ho
  have hold := x_hold h1 (show (slS (rkS (sgI (b s))) st).length < 96 by omega) X1.2.2.2.1 (nI (b s))
  have X2 := X1.hold (sgI_y hs).1 (by rw [X1.2.2.2.2.1, cnt, if_neg (by omega), Nat.zero_add]) (by rw [X1.2.2.2.2.2.1, cnt, if_neg (by omega), Nat.zero_add])
  have F2 : FS w1 (sI (sI w1 64 (slS (rkS (sgI (b s))) st).length (nI (b s))) 61 11 (nI ((slS (rkS (sgI (b s))) st).length + 1))) := (FS.r _ _ _ (Or.inr rfl)).tr (FS.s _ _ (by decide))
  have h2 := F2.1.lay h1
  obtain ⟨w2, e2⟩ : ∃ w2, w2 = sI (sI w1 64 (slS (rkS (sgI (b s))) st).length (nI (b s))) 61 11 (nI ((slS (rkS (sgI (b s))) st).length + 1)) := ⟨_, rfl⟩
  rw [← e2] at hold X2 F2 h2
  refine ⟨sI w2 61 6 1, ?_, (F1.tr F2).tr (FS.s _ _ (by decide)), ?_, wI_ss _ _ _ _⟩
  · simp only [j_X6_takesSign_79, lk_61 h, ↓reduceIte, a1, bd2_s, lk_61 h1, hold, lk_61 h2, lb_e]
  · obtain ⟨x5, x8, x9, x11, x12, x13, xc, xs⟩ := X2
    have e : ∀ j, j ≠ 6 → wI (sI w2 61 6 1) 61 j = wI w2 61 j := fun j hj => wI_sn _ _ (Or.inr hj)
    exact ⟨by rw [e 5 (by decide)]; exact x5, by rw [e 8 (by decide)]; exact x8, by rw [e 9 (by decide)]; exact x9, by rw [e 11 (by decide)]; exact x11, by rw [e 12 (by decide)]; exact x12, by rw [e 13 (by decide)]; exact x13, by rw [wI_s2 _ _ _ (by decide)]; exact xc, by rw [wI_s2 _ _ _ (by decide)]; exact xs⟩
theorem x_sign {b : Nat → Nat} {L key k s e at' : Nat} {st cd : List Nat} {w : Wd} (h : Lay w) (hL : L ≤ 96) (hT : TB w b L) (X : XS w key st cd at') (g : gd st) (hh : hdN st ≠ 9) (hl : st.length + cd.length + 1 ≤ 96) (e2 : wI w 61 2 = nI k) (k5 : k < 5) (e3 : wI w 61 3 = nI s) (hs : s < L) (w6 : wI w 61 6 = 0) (c8 : cnt 10 st ≤ 8) (hd : dL cd = nb st + 1) {nm : Nat} (ho : okL nm at' cd) : Rs (f_X6_takesSign 61) w key (SP b key k s e false st cd at') := by
  obtain ⟨t1, t2⟩ := hT.2 s hs
  unfold SP
  rw [if_neg (by decide)]
  by_cases k3 : k = 3
  · rw [if_pos k3]
    have bx : ∀ y, y < 256 → (nI (b s) = nI y ↔ b s = y) := fun y hy => nI_eq' (by omega) (by omega)
    have st0 : f_X6_takesSign 61 w = f_X6_takesSign 61 w := rfl
    conv at st0 => rhs; unfold f_X6_takesSign
    rw [lk_61 h, if_pos rfl, e2, k3, if_pos (show nI 3 = 3 from rfl), lr_61_0 h, bd1_s, e3, la_62 h (show s < 96 by omega), if_pos rfl, nx_nI (by omega), t1, lb_e] at st0
    by_cases c : b s = 41
    · rw [if_pos c]
      rw [if_pos (show nI (b s) = 41 by rw [c]; rfl)] at st0
      by_cases z : cnt 10 st = 0
      · rw [if_pos z]
        refine ⟨w, ?_, FS.rf w⟩
        rw [st0]
        unfold f_X6_takesClosing
        rw [lk_61 h, if_pos rfl, X.2.2.2.2.1, z, if_pos (show nI 0 = 0 from rfl), bd2_s, if_pos (Or.inl rfl)]
      · rw [if_neg z]
        obtain ⟨w1, a1, F1, X1, a4⟩ := x_settle (t := 1) (by decide) h g hh (by omega) X
        obtain ⟨s1, s2, s3, s4, s5, s6, s7, s8, s9⟩ := sl_p (t := 1) st cd g hh hd ho
        have h1 := F1.1.lay h
        have e1 := sl_10 s1 s2 s3 (by omega)
        obtain ⟨r, er⟩ : ∃ r, r = (slS 1 st).tail := ⟨_, rfl⟩
        rw [← er] at e1
        show ∃ w', f_X6_takesSign 61 w = some (1, w') ∧ FS w w' ∧ XS w' key (pnS (slS 1 st).tail) (pnC (slS 1 st).tail (slC 1 st cd)) at' ∧ wI w' 61 6 = 0
        rw [← er]
        rw [e1] at X1 s1 s8
        rw [List.length_cons] at s8
        obtain ⟨x5, x8, x9, x11, x12, x13, xc, xs⟩ := X1
        rw [List.length_cons] at x11
        rw [cnt, if_pos rfl] at x12
        rw [cnt, if_neg (by decide), Nat.zero_add] at x13
        obtain ⟨w2, ew2⟩ : ∃ w2, w2 = sI (sI (sI w1 61 12 (nI (cnt 10 r))) 61 11 (nI r.length)) 61 6 0 := ⟨_, rfl⟩
        have F2 : FS w1 w2 := by rw [ew2]; exact ((FS.s _ _ (by decide)).tr (FS.s _ _ (by decide))).tr (FS.s _ _ (by decide))
        have h2 := F2.1.lay h1
        have f2 : ∀ j, j ≠ 6 → j ≠ 11 → j ≠ 12 → wI w2 61 j = wI w1 61 j := fun j j1 j2 j3 => by rw [ew2, wI_sn _ _ (Or.inr j1), wI_sn _ _ (Or.inr j2), wI_sn _ _ (Or.inr j3)]
        have X2 : XS w2 key r (slC 1 st cd) at' := by
          refine ⟨by rw [f2 5 (by decide) (by decide) (by decide)]; exact x5, by rw [f2 8 (by decide) (by decide) (by decide)]; exact x8, by rw [f2 9 (by decide) (by decide) (by decide)]; exact x9, by rw [ew2, wI_sn _ _ (Or.inr (by decide)), wI_ss], by rw [ew2, wI_sn _ _ (Or.inr (by decide)), wI_sn _ _ (Or.inr (by decide)), wI_ss], by rw [f2 13 (by decide) (by decide) (by decide)]; exact x13, ?_, ?_⟩
          · rw [ew2, wI_s2 _ _ _ (by decide), wI_s2 _ _ _ (by decide), wI_s2 _ _ _ (by decide)]; exact xc
          · rw [ew2, wI_s2 _ _ _ (by decide), wI_s2 _ _ _ (by decide), wI_s2 _ _ _ (by decide)]; exact xs.2
        obtain ⟨w', b1, b2, b3, b4⟩ := x_pn r (slC 1 st cd) FU w2 h2 s1.2.2 (by unfold FU; omega) (by omega) X2
        refine ⟨w', ?_, (F1.tr F2).tr b2, b3, by rw [b4, ew2, wI_ss]⟩
        have a1' : f_X6_settle 61 1 w = some ((), w1) := a1
        have p12 : wI w1 61 12 - 1 = nI (cnt 10 r) := by rw [x12, pr_nI (by omega), Nat.add_comm, Nat.add_sub_cancel]
        have p11 : ∀ v, wI (sI w1 61 12 v) 61 11 - 1 = nI r.length := fun v => by rw [wI_sn _ _ (Or.inr (by decide)), x11, pr_nI (by omega), Nat.add_sub_cancel]
        have h12' : wK (sI (sI w1 61 12 (nI (cnt 10 r))) 61 11 (nI r.length)) 61 = 6 := lk_61 ((h1.sI _ _ _).sI _ _ _)
        rw [st0]
        have tc : f_X6_takesClosing 61 w = some (1, w') := by
          unfold f_X6_takesClosing
          rw [lk_61 h, if_pos rfl, X.2.2.2.2.1, if_neg (fun q : nI (cnt 10 st) = 0 => z (nI_inj (b := 0) (by omega) (by decide) q)), a1', bd2_s, lk_61 h1, if_pos rfl, lb_e, lb_e, p12, p11]
          unfold f_X6_pieceStands
          rw [h12', if_pos rfl, lb_e, ← ew2, b1, bd2_s]
        rw [tc, bd2_s, if_pos (Or.inr rfl)]
    · rw [if_neg c]
      rw [if_neg (fun q : nI (b s) = 41 => c ((bx 41 (by decide)).mp q))] at st0
      by_cases z : sgI (b s) < 9
      · rw [if_pos z]
        have tt : f_X6_tightnessOf (nI (b s)) w = some (nI (rkS (sgI (b s))), w) := by rw [(sgI_y z).1]; exact x_tight _ (by omega) w
        have rk1 : ∀ s, s ≤ 8 → 1 ≤ rkS s ∧ rkS s ≤ 5 := by decide
        have r15 := rk1 (sgI (b s)) (by omega)
        rw [tt, bd2_s, if_neg (fun q : nI (rkS (sgI (b s))) = 0 => by have := nI_inj (b := 0) (by omega) (by decide) q; omega)] at st0
        by_cases r3 : rkS (sgI (b s)) = 3
        · rw [r3, if_pos (show nI 3 = 3 from rfl), if_pos (lk_61 h)] at st0
          obtain ⟨w1, a1, F1, X1, a4⟩ := x_settle (t := 4) (by decide) h g hh (by omega) X
          obtain ⟨s1, s2, s3, s4, s5, s6, s7, s8, s9⟩ := sl_p (t := 4) st cd g hh hd ho
          have h1 := F1.1.lay h
          have a1' : f_X6_settle 61 4 w = some ((), w1) := a1
          rw [a1', bd2_s, lk_61 h1, if_pos rfl, X1.2.2.2.1] at st0
          obtain ⟨w', c1, c2, c3, c4⟩ := x_j79 (b := b) (s := s) h1 s1 s2 (by omega) X1 z s6 s7
          rw [r3, (sl_34 st cd).1, (sl_34 st cd).2] at c3
          rw [r3] at c1
          cases el : slS 4 st with
          | nil =>
            rw [el] at st0
            rw [show nI ([] : List Nat).length = 0 from rfl, if_pos (by decide)] at st0
            rw [if_neg (fun q => by cases q.2)]
            refine ⟨w', by rw [st0]; exact c1, F1.tr c2, ?_, c4⟩
            rw [r3]; exact c3
          | cons q r =>
            rw [el, List.length_cons] at st0
            rw [el] at s1 s2 s8 X1
            rw [List.length_cons] at s8
            have xq := X1.2.2.2.2.2.2.2.1
            rw [if_neg (fun q : nI (r.length + 1) ≤ 0 => by have := (nI_le' (b := 0) (by omega) (by omega)).mp q; omega), lr_61_10 h1, bd1_s, pr_nI (by omega), Nat.add_sub_cancel, la_64 h1 (show r.length < 96 by omega), if_pos rfl, nx_nI (by omega), xq] at st0
            have q10 := s1.1
            have q9 : ¬ q = 9 := s2
            by_cases q8 : q ≤ 8
            · rw [x_tight q q8, bd2_s] at st0
              have rq := rk1 q q8
              by_cases y : rkS q = 3
              · have y' : hd3 (q :: r) = true := by unfold hd3 hdN; rw [decide_eq_true q8, decide_eq_true y]; rfl
                rw [if_pos ⟨r3, y'⟩]
                rw [y, if_pos (show nI 3 = 3 from rfl)] at st0
                exact ⟨w1, st0, F1⟩
              · have y' : ¬ hd3 (q :: r) = true := by unfold hd3 hdN; rw [decide_eq_false y, Bool.and_false]; decide
                rw [if_neg (fun t => y' t.2)]
                rw [if_neg (fun t : nI (rkS q) = 3 => y (nI_inj (b := 3) (by omega) (by decide) t))] at st0
                refine ⟨w', by rw [st0]; exact c1, F1.tr c2, ?_, c4⟩
                rw [r3]; exact c3
            · have q10' : q = 10 := by omega
              subst q10'
              rw [show f_X6_tightnessOf (sgX 10) w1 = some (0, w1) from rfl, bd2_s, if_neg (by decide)] at st0
              rw [if_neg (fun t => by cases t.2)]
              refine ⟨w', by rw [st0]; exact c1, F1.tr c2, ?_, c4⟩
              rw [r3]; exact c3
        · rw [if_neg (fun q : nI (rkS (sgI (b s))) = 3 => r3 (nI_inj (b := 3) (by omega) (by decide) q))] at st0
          rw [if_neg (fun q => r3 q.1)]
          obtain ⟨w', c1, c2, c3, c4⟩ := x_j79 (b := b) (s := s) h g hh (by omega) X z hd ho
          exact ⟨w', by rw [st0]; exact c1, c2, c3, c4⟩
      · rw [if_neg z]
        rw [sgI_n t2 z w, bd2_s, if_pos rfl] at st0
        exact ⟨w, st0, FS.rf w⟩
  · rw [if_neg k3]
    refine ⟨w, ?_, FS.rf w⟩
    unfold f_X6_takesSign
    rw [lk_61 h, if_pos rfl, e2, if_neg (fun q : nI k = 3 => k3 (nI_inj (b := 3) (by omega) (by decide) q))]
theorem kd_lt (b : Nat → Nat) (L e : Nat) (g : Bool) : tKd b L e g < 5 ∧ (tKd b L e g = 0 ↔ L ≤ tSk b L e) ∧ (tKd b L e g = 2 → cls (b (tSk b L e)) = 2) ∧ (tKd b L e g = 1 → ∀ j, tSk b L e ≤ j → j < tTe b L e → cls (b j) = 1) := by
  have c4 := cls_lt (b (tSk b L e))
  unfold tKd tTe
  by_cases c : L ≤ tSk b L e
  · rw [if_pos c]; exact ⟨by decide, ⟨fun _ => c, fun _ => rfl⟩, fun q => (by cases q), fun q => by cases q⟩
  · rw [if_neg c]
    by_cases c3 : cls (b (tSk b L e)) = 3
    · rw [if_pos c3]; exact ⟨by decide, ⟨fun q => (by cases q), fun q => absurd q c⟩, fun q => (by cases q), fun q => by cases q⟩
    · rw [if_neg c3]
      by_cases z : g = true ∧ tSk b L e = e
      · rw [if_pos z]; exact ⟨by decide, ⟨fun q => (by cases q), fun q => absurd q c⟩, fun q => (by cases q), fun q => by cases q⟩
      · rw [if_neg z]
        refine ⟨by omega, ⟨fun q => by omega, fun q => absurd q c⟩, fun q => q, fun q j j1 j2 => ?_⟩
        rw [if_neg c, if_neg c3, q] at j2
        by_cases y : j = tSk b L e
        · rw [y]; exact q
        · exact rn_c (by omega) j2
theorem cnt_l (x : Nat) : ∀ l, cnt x l ≤ l.length := by
  intro l
  induction l with
  | nil => exact Nat.le_refl _
  | cons s r ih => rw [cnt, List.length_cons]; split <;> omega
theorem FA.xs {w w1 : Wd} {key at' : Nat} {st cd : List Nat} (h : FA w w1) (X : XS w key st cd at') : XS w1 key st cd at' := by
  obtain ⟨x5, x8, x9, x11, x12, x13, xc, xs⟩ := X
  have e : ∀ j, 5 ≤ j → wI w1 61 j = wI w 61 j := fun j hj => h.2 j (by omega) (by omega) (by omega)
  exact ⟨by rw [e 5 (by decide)]; exact x5, by rw [e 8 (by decide)]; exact x8, by rw [e 9 (by decide)]; exact x9, by rw [e 11 (by decide)]; exact x11, by rw [e 12 (by decide)]; exact x12, by rw [e 13 (by decide)]; exact x13, by rw [h.1.2.2.2.2 63 (by decide)]; exact xc, by rw [h.1.2.2.2.2 64 (by decide)]; exact xs⟩
/-- what the class's reader answers, by the document's -/
def Rp_ (w w' : Wd) (key : Nat) (r : Int32) (o : Option (List Nat × Nat) × Nat) : Prop := Fr Tx_ w w' ∧ wI w' 61 1 = wI w 61 1 ∧ match o.1 with
  | none => r = nI o.2
  | some x => r = -1 ∧ ∃ st, XS w' key st x.1 x.2
theorem x_loop {b : Nat → Nat} {L key : Nat} (hL : L ≤ 96) (hk : key < 3) : ∀ m n i e g wn st cd at' (w : Wd), L - e < m → m < n → i ≤ e → e ≤ L → Lay w → TB w b L → XS w key st cd at' → wI w 61 6 = (if wn = true then 1 else 0) → wI w 61 4 = nI e → ((if wI w 61 2 = 1 then (1 : Int32) else if wI w 61 2 = 2 then 1 else 0) = if g = true then 1 else 0) → IS (nmA key) wn st cd at' → st.length + cd.length ≤ e → ∃ r w', L_X6_parse_30 n 61 (nI i) w = some (r, w') ∧ Rp_ w w' key r (PF b L key m e g wn st cd at') := by
  intro m
  induction m with
  | zero => intro n i e g wn st cd at' w q; omega
  | succ m ih =>
    intro n i e g wn st cd at' w m1 m2 hi he h hT X w6 e4 hg I hl
    obtain ⟨n, rfl⟩ : ∃ k, n = k + 1 := ⟨n - 1, by omega⟩
    obtain ⟨w1, a1, A1, d2, d3, d4⟩ := x_advance h hL he hT e4 hg
    have h1 := A1.1.lay h
    have T1 := A1.tb hT
    have X1 := A1.xs X
    have w61 : wI w1 61 6 = (if wn = true then 1 else 0) := by rw [A1.2 6 (by decide) (by decide) (by decide)]; exact w6
    have l1 : wI w1 61 1 = wI w 61 1 := A1.2 1 (by decide) (by decide) (by decide)
    have FA1 : Fr Tx_ w w1 := A1.1.mono (fun a ha => Or.inl ha)
    obtain ⟨k5, k0, k2, k1⟩ := kd_lt b L e g
    obtain ⟨t1, t2, t3⟩ := te_b (b := b) he
    have sg := sk_ge b L e
    obtain ⟨i1, i2, i3, i4, i5, i6⟩ := I
    rw [show L_X6_parse_30 (n + 1) 61 (nI i) w = _ from by unfold L_X6_parse_30; rfl, show (96 : Int32) = nI 96 from rfl, if_neg (fun q => by have := (nI_lt' (by omega) (by omega)).mp q; omega), lk_61 h, if_pos rfl, a1, bd2_s, lk_61 h1, if_pos rfl, d2, PF]
    by_cases z : L ≤ tSk b L e
    · rw [if_pos z, if_pos (show nI (tKd b L e g) = 0 by rw [k0.mpr z]; rfl)]
      unfold j_X6_parse_85 j_X6_parse_99
      rw [lk_61 h1, if_pos rfl, w61, X1.2.2.2.2.1]
      have fl : ∃ r w', (if (6 : Nat) = 6 then some (wI w1 61 1, w1) else none) = some (r, w') ∧ Rp_ w w' key r (none, L) := ⟨_, w1, by rw [if_pos rfl], FA1, l1, by show wI w1 61 1 = nI L; exact T1.1⟩
      by_cases y : wn = true ∨ 0 < cnt 10 st
      · rw [if_pos y]
        by_cases yw : wn = true
        · rw [if_pos yw, if_neg (by decide)]
          exact fl
        · have yc := y.resolve_left yw
          rw [if_neg yw, if_pos rfl, if_neg (fun q : nI (cnt 10 st) ≤ 0 => by have := (nI_le' (b := 0) (by omega) (by omega)).mp q; omega)]
          exact fl
      · rw [if_neg y]
        have yw : ¬ wn = true := fun q => y (Or.inl q)
        have yc : cnt 10 st = 0 := by omega
        rw [if_neg yw] at i3
        obtain ⟨w2, b1, F2, X2, b4⟩ := x_settle (t := 0) (by decide) h1 i1 (i2 (by simpa using yw)) (by omega) X1
        have b1' : f_X6_settle 61 0 w1 = some ((), w2) := b1
        rw [if_neg yw, if_pos rfl, yc, if_pos (show nI 0 ≤ 0 by decide), b1', bd2_s]
        exact ⟨-1, w2, rfl, FA1.tr F2.1, by rw [F2.2 1 (by decide)]; exact l1, rfl, _, X2⟩
    · rw [if_neg z, if_neg (fun q : nI (tKd b L e g) = 0 => z (k0.mp (nI_inj (b := 0) (by omega) (by decide) q)))]
      have t3' := t3 (by omega)
      have step : ∀ x, SP b key (tKd b L e g) (tSk b L e) (tTe b L e) wn st cd at' = some x → ∀ w2, FS w1 w2 → XS w2 key x.2.1 x.2.2.1 x.2.2.2 → wI w2 61 6 = (if x.1 = true then 1 else 0) → ∃ r w', L_X6_parse_30 n 61 (nI (i + 1)) w2 = some (r, w') ∧ Rp_ w w' key r (PF b L key m (tTe b L e) (decide (tKd b L e g = 1 ∨ tKd b L e g = 2)) x.1 x.2.1 x.2.2.1 x.2.2.2) := fun x hx w2 F2 X2 w62 => by
        obtain ⟨I', l'⟩ := SP_i (b := b) (key := key) ⟨i1, i2, i3, i4, i5, i6⟩ (fun q => kd_1 q) hx
        have gk : ∀ k, k < 5 → (if nI k = 1 then (1 : Int32) else if nI k = 2 then 1 else 0) = if decide (k = 1 ∨ k = 2) = true then 1 else 0 := by decide +kernel
        obtain ⟨r, w', r1, r2, r3, r4⟩ := ih n (i + 1) (tTe b L e) (decide (tKd b L e g = 1 ∨ tKd b L e g = 2)) x.1 x.2.1 x.2.2.1 x.2.2.2 w2 (by omega) (by omega) (by omega) t2 (F2.1.lay h1) (F2.tb T1) X2 w62 (by rw [F2.2 4 (by decide)]; exact d4) (by rw [F2.2 2 (by decide), d2]; exact gk _ k5) I' (by omega)
        exact ⟨r, w', r1, (FA1.tr F2.1).tr r2, by rw [r3, F2.2 1 (by decide)]; exact l1, r4⟩
      have stop : ∀ w2, FS w1 w2 → ∃ r w', j_X6_parse_74 61 w2 = some (r, w') ∧ Rp_ w w' key r (none, tSk b L e) := fun w2 F2 => by
        unfold j_X6_parse_74
        rw [lk_61 (F2.1.lay h1), if_pos rfl]
        exact ⟨_, w2, rfl, FA1.tr F2.1, by rw [F2.2 1 (by decide)]; exact l1, by show wI w2 61 3 = _; rw [F2.2 3 (by decide)]; exact d3⟩
      have c9 := cnt_l 9 st
      by_cases yw : wn = true
      · rw [w61, if_pos yw, if_neg (by decide)]
        have w61' : wI w1 61 6 = 1 := by rw [w61, if_pos yw]
        have P := x_piece (e := tTe b L e) h1 hL hk T1 X1 i1 (by omega) d2 k5 d3 d4 t3' t2 k1 k2 w61' i5 (by omega)
        rw [← yw] at P
        cases q : SP b key (tKd b L e g) (tSk b L e) (tTe b L e) wn st cd at' with
        | none =>
          rw [q] at P
          obtain ⟨w2, p1, p2⟩ := P
          rw [p1, bd2_s, if_pos rfl]
          exact stop w2 p2
        | some x =>
          rw [q] at P
          obtain ⟨w2, p1, p2, p3, p4⟩ := P
          rw [p1, bd2_s, if_neg (by decide), lb_e, nI_s1]
          exact step x q w2 p2 p3 p4
      · have wf : wn = false := by simpa using yw
        rw [w61, if_neg yw, if_pos rfl]
        have w61' : wI w1 61 6 = 0 := by rw [w61, if_neg yw]
        rw [if_neg yw] at i3
        have P := x_sign (e := tTe b L e) h1 hL T1 X1 i1 (i2 wf) (by omega) d2 k5 d3 (by omega) w61' i5 i3 i4
        rw [← wf] at P
        cases q : SP b key (tKd b L e g) (tSk b L e) (tTe b L e) wn st cd at' with
        | none =>
          rw [q] at P
          obtain ⟨w2, p1, p2⟩ := P
          rw [p1, bd2_s, if_pos rfl]
          exact stop w2 p2
        | some x =>
          rw [q] at P
          obtain ⟨w2, p1, p2, p3, p4⟩ := P
          rw [p1, bd2_s, if_neg (by decide), lb_e, nI_s1]
          refine step x q w2 p2 p3 p4
