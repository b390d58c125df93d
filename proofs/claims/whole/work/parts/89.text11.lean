/-! TEXTS: the reference, signs and the whole -/
theorem sl_c {t : Nat} : ∀ st, gd st → (slS t st).length ≤ st.length ∧ cnt 10 (slS t st) = cnt 10 st ∧ cnt 9 (slS t st) = cnt 9 st := by
  intro st
  induction st with
  | nil => intro _; exact ⟨Nat.le_refl _, rfl, rfl⟩
  | cons s r ih =>
    intro g
    rw [slS]
    by_cases c : s ≤ 8 ∧ t ≤ rkS s
    · rw [if_pos c]
      obtain ⟨h1, h2, h3⟩ := ih g.2.2
      exact ⟨by rw [List.length_cons]; omega, by rw [h2, cnt, if_neg (by omega), Nat.zero_add], by rw [h3, cnt, if_neg (by omega), Nat.zero_add]⟩
    · rw [if_neg c]; exact ⟨Nat.le_refl _, rfl, rfl⟩
theorem m_j305 {w : Wd} {b : Nat → Nat} {L e key at' i : Nat} {g : Bool} {st cd : List Nat} (kk : Nat → Int32 → Int32 → Int32 → Wd → Option (Int32 × Wd)) (h : Lay w) (hL : L ≤ 96) (he : e ≤ L) (hT : TM w b L) (G : GO w b L e g) (z3 : tKd b L e g = 3) (gS : gd st) (hh : hdN st ≠ 9) (hl : st.length + cd.length + 1 ≤ 96) (X : MS w key st cd at') (R : TR w st) (c8 : cnt 10 st ≤ 8) (hd : dL cd = nb st + 1) {nm : Nat} (ho : okL nm at' cd) (hi : i ≤ 8) {x : Int32} (hx : x = tbI (lvT (i :: slS (rkS i) st))) (v2 : Int32) : ∃ w', j_X9_takesE_305 kk 96 (nI (cnt 10 st)) v2 (sgM i) x (nI (cnt 10 st)) 107 w = kk 96 (nI (cnt 10 (i :: slS (rkS i) st))) v2 1 w' ∧ FZ w w' ∧ MS w' key (i :: slS (rkS i) st) (slC (rkS i) st cd) at' ∧ TR w' (i :: slS (rkS i) st) ∧ GO w' b L (tTe b L e) (decide (tKd b L e g = 1 ∨ tKd b L e g = 2)) := by
  have rk5 : ∀ s, s ≤ 8 → rkS s ≤ 5 := by decide
  obtain ⟨l1, l2, l3⟩ := sl_c (t := rkS i) st gS
  obtain ⟨-, -, -, -, -, -, -, l8, -⟩ := sl_p (t := rkS i) st cd gS hh hd ho
  obtain ⟨w1, e1⟩ : ∃ w1, w1 = sI w 107 (cnt 10 st) x := ⟨_, rfl⟩
  have F1 : FY w w1 := by rw [e1]; exact FY.r _ _ _ (by omega)
  have h1 := F1.1.lay h
  have X1 : MS w1 key st cd at' := by rw [e1]; exact X.r7 _ _
  obtain ⟨w2, a1, a2, a3⟩ := m_sl (rk5 i hi) st cd FU w1 h1 gS hh (by unfold FU; omega) (by omega) X1
  have h2 := a2.1.lay h1
  have x21 := a3.2.2.2.1
  have X3 := a3.push (s := i) (v := sgM i) rfl
  obtain ⟨w3, e3⟩ : ∃ w3, w3 = sI (sI w2 106 (slS (rkS i) st).length (sgM i)) 96 21 (nI ((slS (rkS i) st).length + 1)) := ⟨_, rfl⟩
  rw [← e3] at X3
  have F3 : FY w w3 := by rw [e3]; exact (F1.tr a2.y).tr ((FY.r _ _ _ (by omega)).tr (FY.s _ _ (by omega)))
  have h3 := F3.1.lay h
  obtain ⟨w4, b1, b2, b3⟩ := m_next h3 hL he (F3.tm hT) (F3.go G) (Or.inr (Or.inr z3))
  have r4 : wI w4 107 = upd (wI w 107) (cnt 10 st) x := by rw [b2.1.2.2.2.2 107 (by decide), e3, wI_s2 _ _ _ (by decide), wI_s2 _ _ _ (by decide), a2.1.2.2.2.2 107 (by unfold Ts_; omega), e1, wI_s1]
  have c10 : cnt 10 (i :: slS (rkS i) st) = cnt 10 st := by rw [cnt, if_neg (by omega), Nat.zero_add, l2]
  refine ⟨w4, ?_, F3.z.tr b2.z, b2.ms X3, ⟨?_, fun y => by omega, ?_⟩, b3⟩
  · unfold j_X9_takesE_305
    have x01 : x = 0 ∨ x = 1 := by
      rw [hx]; unfold tbI
      by_cases y : lvT (i :: slS (rkS i) st) = true
      · rw [if_pos y]; exact Or.inr rfl
      · rw [if_neg y]; exact Or.inl rfl
    have rki : f_X9_rank (sgM i) w1 = some (nI (rkS i), w1) := by
      rw [m_rank i (by omega)]
      unfold rkM
      rw [if_pos hi]
    have a1' : f_X9_settle 96 (nI (rkS i)) w1 = some ((), w2) := a1
    rw [if_pos x01, la_107 h (show cnt 10 st < 10 by omega), if_pos rfl, nx_nI (by omega), lb_e, ← e1, rki, bd2_s, if_pos (lk_96 h1), a1', bd2_s, if_pos (lk_96 h2), lr_96_20 h2, bd1_s, x21, la_106 h2 (show (slS (rkS i) st).length < 96 by omega), if_pos rfl, nx_nI (by omega), lb_e, wI_sn _ _ (Or.inl (show (96 : Nat) ≠ 106 by decide)), x21, nI_s1, lb_e, ← e3, b1, bd2_s, c10]
  · rw [r4, c10, upd_s, hx]
  · rw [r4]; exact tk_u _ (tk_sl st R.2) (by omega)
theorem m_step0 {w : Wd} {b : Nat → Nat} {L e key at' n : Nat} {g : Bool} {st cd : List Nat} (h : Lay w) (hL : L ≤ 96) (he : e ≤ L) (hT : TM w b L) (G : GO w b L e g) (hs : tSk b L e < L) (gS : gd st) (hh : hdN st ≠ 9) (hl : st.length + cd.length + 1 ≤ 96) (X : MS w key st cd at') (R : TR w st) (c8 : cnt 10 st ≤ 8) (hd : dL cd = nb st + 1) {nm : Nat} (ho : okL nm at' cd) : Rm b L e g n key (nI (cnt 10 st)) (nI (cnt 9 st)) 0 w (SP b key (tKd b L e g) (tSk b L e) (tTe b L e) false st cd at') := by
  obtain ⟨k5, k0, k2, k1⟩ := kd_lt b L e g
  obtain ⟨m3, m0, m1, m2, m5⟩ := mT_3 (l := tTe b L e - tSk b L e) k5
  have G0 := G
  obtain ⟨g9, g10, g11, g12, gv, -⟩ := G
  obtain ⟨u1, u2⟩ := hT.2 _ hs
  have q3 : nI (mT (tKd b L e g) (tTe b L e - tSk b L e)) = 3 ↔ tKd b L e g = 3 := (nI_eq' (b := 3) (by decide) (by omega)).trans m3
  have start : L_X9_takesE_28 (n + 1) 96 (nI (cnt 10 st)) (nI (cnt 9 st)) 0 w = L_X9_takesE_28 (n + 1) 96 (nI (cnt 10 st)) (nI (cnt 9 st)) 0 w := rfl
  conv at start => rhs; unfold L_X9_takesE_28
  rw [if_pos (show (0 : Int32) = 0 from rfl), if_pos (lk_96 h), g11, if_neg (fun y : nI (mT (tKd b L e g) (tTe b L e - tSk b L e)) = 0 => by have := (m0.mp (nI_inj (b := 0) (by omega) (by decide) y)); have := k0.mp this; omega)] at start
  unfold j_X9_takesE_39 at start
  rw [if_pos (show (0 : Int32) = 0 from rfl), if_pos (lk_96 h), g11] at start
  have sg := m_sign (x := b (tSk b L e)) h u2 k5 g11 (fun y => g12 (Or.inr y))
  have j237n : ¬ (tKd b L e g = 3 ∧ sgI (b (tSk b L e)) < 9) → j_X9_takesE_237 (L_X9_takesE_28 n) 96 (nI (cnt 10 st)) (nI (cnt 9 st)) w = some (0, w) := fun c => by
    unfold j_X9_takesE_237
    rw [if_pos (lk_96 h), sg, bd2_s]
    by_cases z3 : tKd b L e g = 3
    · rw [if_pos z3]
      unfold sgH
      rw [if_neg (fun y => c ⟨z3, y⟩), if_pos rfl]
    · rw [if_neg z3, if_pos rfl]
  unfold SP
  rw [if_neg (by decide)]
  by_cases z3 : tKd b L e g = 3
  · rw [if_pos z3]
    rw [if_pos (q3.mpr z3), g12 (Or.inr z3)] at start
    by_cases c : b (tSk b L e) = 41
    · rw [if_pos c]
      rw [if_pos (show nI (b (tSk b L e)) = 41 by rw [c]; rfl)] at start
      by_cases z : cnt 10 st = 0
      · rw [if_pos z]
        show L_X9_takesE_28 (n + 1) 96 _ _ _ w = some (0, w)
        rw [if_pos (show nI (cnt 10 st) ≤ 0 by rw [z]; decide), j237n (fun y => by have := y.2; rw [c] at this; exact absurd this (by decide))] at start
        exact start
      · rw [if_neg z]
        rw [if_neg (fun y : nI (cnt 10 st) ≤ 0 => by have := (nI_le' (b := 0) (by omega) (by omega)).mp y; omega)] at start
        obtain ⟨s1, s2, s3, s4, s5, s6, s7, s8, s9⟩ := sl_p (t := 1) st cd gS hh hd ho
        have e10 := sl_10 s1 s2 s3 (by omega)
        obtain ⟨r, er⟩ : ∃ r, r = (slS 1 st).tail := ⟨_, rfl⟩
        rw [← er] at e10
        have rk1 : ∀ s, s ≤ 8 → 1 ≤ rkS s := by decide
        have e01 : ∀ l cd, slS 0 l = slS 1 l ∧ slC 0 l cd = slC 1 l cd := by
          intro l
          induction l with
          | nil => intro cd; exact ⟨rfl, rfl⟩
          | cons s r ih =>
            intro cd
            by_cases y : s ≤ 8
            · have := rk1 s y
              rw [slS, slC, slS, slC, if_pos (show s ≤ 8 ∧ 0 ≤ rkS s from ⟨y, Nat.zero_le _⟩), if_pos (show s ≤ 8 ∧ 0 ≤ rkS s from ⟨y, Nat.zero_le _⟩), if_pos (show s ≤ 8 ∧ 1 ≤ rkS s from ⟨y, this⟩), if_pos (show s ≤ 8 ∧ 1 ≤ rkS s from ⟨y, this⟩)]
              exact ih _
            · rw [slS, slC, slS, slC, if_neg (fun q : s ≤ 8 ∧ 0 ≤ rkS s => y q.1), if_neg (fun q : s ≤ 8 ∧ 0 ≤ rkS s => y q.1), if_neg (fun q : s ≤ 8 ∧ 1 ≤ rkS s => y q.1), if_neg (fun q : s ≤ 8 ∧ 1 ≤ rkS s => y q.1)]
              exact ⟨rfl, rfl⟩
        obtain ⟨w1, a1, a2, a3⟩ := m_sl (t := 0) (by decide) st cd FU w h gS hh (by unfold FU; omega) (by omega) X
        rw [(e01 st cd).1, (e01 st cd).2, e10] at a3
        have h1 := a2.1.lay h
        have a1' : f_X9_settle 96 0 w = some ((), w1) := a1
        obtain ⟨x14, x18, x19, x21, xc, xs⟩ := a3
        rw [List.length_cons] at x21
        rw [a1', bd2_s, if_pos (lk_96 h1), x21, pr_nI (by omega), Nat.add_sub_cancel, lb_e, lb_e] at start
        obtain ⟨w2, e2⟩ : ∃ w2, w2 = sI w1 96 21 (nI r.length) := ⟨_, rfl⟩
        rw [← e2] at start
        have F2 : FY w w2 := by rw [e2]; exact a2.y.tr (FY.s _ _ (by omega))
        have h2 := F2.1.lay h
        have f2 : ∀ j, j ≠ 21 → wI w2 96 j = wI w1 96 j := fun j hj => by rw [e2, wI_sn _ _ (Or.inr hj)]
        have X2 : MS w2 key r (slC 1 st cd) at' := ⟨by rw [f2 14 (by decide)]; exact x14, by rw [f2 18 (by decide)]; exact x18, by rw [f2 19 (by decide)]; exact x19, by rw [e2, wI_ss], by rw [e2, wI_s2 _ _ _ (by decide)]; exact xc, by rw [e2, wI_s2 _ _ _ (by decide)]; exact xs.2⟩
        rw [e10] at s1 s4 s6 s8
        rw [List.length_cons] at s8
        rw [cnt, if_pos rfl] at s4
        rw [nb, if_neg (by decide), Nat.zero_add] at s6
        obtain ⟨w3, b1, b2, b3⟩ := m_pn r (slC 1 st cd) FU w2 h2 s1.2.2 (by unfold FU; omega) (by omega) X2
        have h3 := b2.1.lay h2
        have b1' : f_X9_settle 96 6 w2 = some ((), w3) := b1
        obtain ⟨p1, p2, p3, p4, p5, p6, p7, p8⟩ := pn_p (nm := nm) (a := at') r (slC 1 st cd) s1.2.2 (by omega) s7
        rw [b1', bd2_s, if_pos (lk_96 h3), m_nots h3 p1 (by omega) b3, bd2_s, if_pos (lk_96 h3)] at start
        have F3 := F2.tr b2.y
        obtain ⟨w4, c1, c2, c3⟩ := m_next h3 hL he (F3.tm hT) (F3.go G0) (Or.inr (Or.inr z3))
        rw [c1, bd2_s] at start
        show ∃ w', L_X9_takesE_28 (n + 1) 96 _ _ _ w = L_X9_takesE_28 n 96 (nI (cnt 10 (pnS (slS 1 st).tail))) (nI (cnt 9 (pnS (slS 1 st).tail))) 0 w' ∧ FZ w w' ∧ MS w' key (pnS (slS 1 st).tail) (pnC (slS 1 st).tail (slC 1 st cd)) at' ∧ TR w' (pnS (slS 1 st).tail) ∧ _
        rw [← er]
        have r4 : wI w4 107 = wI w 107 := by rw [c2.1.2.2.2.2 107 (by decide), b2.1.2.2.2.2 107 (by unfold Ts_; omega), e2, wI_s2 _ _ _ (by decide), a2.1.2.2.2.2 107 (by unfold Ts_; omega)]
        have tk1 : TBk (wI w 107) (10 :: r) := by rw [← e10]; exact tk_sl st R.2
        refine ⟨w4, ?_, F3.z.tr c2.z, c2.ms b3, ⟨?_, ?_⟩, c3⟩
        · rw [start, p4, nI_m1 (by omega), show cnt 10 st - 1 = cnt 10 r by omega]
        · rw [r4, p4, lv_pn]; exact tk1.1 rfl
        · rw [r4]; exact tk_pn r tk1.2
    · rw [if_neg c]
      rw [if_neg (fun y : nI (b (tSk b L e)) = 41 => c (nI_inj (b := 41) (by omega) (by decide) y))] at start
      by_cases z : sgI (b (tSk b L e)) < 9
      · rw [if_pos z]
        obtain ⟨i, ei⟩ : ∃ i, i = sgI (b (tSk b L e)) := ⟨_, rfl⟩
        rw [← ei] at z ⊢
        have hi : i ≤ 8 := by omega
        have sgi : f_X9_signHere 96 w = some (sgM i, w) := by
          rw [sg, if_pos z3]
          unfold sgH
          rw [← ei, if_pos z]
        have rki : f_X9_rank (sgM i) w = some (nI (rkS i), w) := by
          rw [m_rank i (by omega)]
          unfold rkM
          rw [if_pos hi]
        have rk15 : ∀ s, s ≤ 8 → 1 ≤ rkS s ∧ rkS s ≤ 5 := by decide
        have r15 := rk15 i hi
        have ne0 : ∀ s, s ≤ 8 → ¬ sgM s = 0 := by decide +kernel
        unfold j_X9_takesE_237 at start
        rw [if_pos (lk_96 h), sgi, bd2_s, if_neg (ne0 i hi), rki, bd2_s] at start
        obtain ⟨s1, s2, s3, s4, s5, s6, s7, s8, s9⟩ := sl_p (t := 4) st cd gS hh hd ho
        have lh := lv_h3 s1 s2 s3
        obtain ⟨t1, t2, t3, t4, t5, t6, t7, t8, t9⟩ := sl_p (t := rkS i) st cd gS hh hd ho
        have c9 : cnt 9 (i :: slS (rkS i) st) = cnt 9 st := by rw [cnt, if_neg (by omega), Nat.zero_add, t5]
        have fin : ∀ x : Int32, x = tbI (lvT (i :: slS (rkS i) st)) → L_X9_takesE_28 (n + 1) 96 (nI (cnt 10 st)) (nI (cnt 9 st)) 0 w = j_X9_takesE_305 (L_X9_takesE_28 n) 96 (nI (cnt 10 st)) (nI (cnt 9 st)) (sgM i) x (nI (cnt 10 st)) 107 w → Rm b L e g n key (nI (cnt 10 st)) (nI (cnt 9 st)) 0 w (some (true, i :: slS (rkS i) st, slC (rkS i) st cd, at')) := fun x hx hq => by
          obtain ⟨w', a1, a2⟩ := m_j305 (L_X9_takesE_28 n) h hL he hT G0 z3 gS hh hl X R c8 hd ho hi hx (nI (cnt 9 st))
          refine ⟨w', ?_, a2⟩
          show _ = L_X9_takesE_28 n 96 (nI (cnt 10 (i :: slS (rkS i) st))) (nI (cnt 9 (i :: slS (rkS i) st))) 1 w'
          rw [hq, a1, c9]
        by_cases r3 : rkS i = 3
        · rw [if_pos (show nI (rkS i) = 3 by rw [r3]; rfl), if_pos (lk_96 h), lr_96_22 h, bd1_s, la_107 h (show cnt 10 st < 10 by omega), if_pos rfl, nx_nI (by omega), R.1] at start
          by_cases y : lvT st = true
          · rw [if_pos ⟨r3, by rw [lh]; exact y⟩]
            show L_X9_takesE_28 (n + 1) 96 _ _ _ w = some (0, w)
            unfold tbI at start
            rw [if_pos y, if_neg (show ¬ (1 : Int32) = 0 by decide)] at start
            exact start
          · rw [if_neg (fun q => y (by rw [← lh]; exact q.2))]
            unfold tbI at start
            rw [if_neg y, if_pos (show (0 : Int32) = 0 from rfl)] at start
            unfold j_X9_takesE_268 j_X9_takesE_300 at start
            rw [if_pos (lk_96 h), lr_96_22 h, bd1_s, rki, bd2_s, if_pos (show nI (rkS i) = 3 by rw [r3]; rfl)] at start
            refine fin 1 ?_ start
            rw [lvT, if_neg (by omega), decide_eq_true r3, Bool.true_or]; rfl
        · rw [if_neg (fun q => r3 q.1)]
          rw [if_neg (fun y : nI (rkS i) = 3 => r3 (nI_inj (b := 3) (by omega) (by decide) y))] at start
          unfold j_X9_takesE_268 j_X9_takesE_304 at start
          rw [if_pos (lk_96 h), lr_96_22 h, bd1_s, rki, bd2_s, if_neg (fun y : nI (rkS i) = 3 => r3 (nI_inj (b := 3) (by omega) (by decide) y)), rki, bd2_s] at start
          have lvi : lvT (i :: slS (rkS i) st) = lvT (slS (rkS i) st) := by rw [lvT, if_neg (by omega), decide_eq_false r3, Bool.false_or]
          by_cases r2 : rkS i ≤ 3
          · rw [if_pos (show nI (rkS i) ≤ 3 from (nI_le' (b := 3) (by decide) (by omega)).mpr r2)] at start
            refine fin 0 ?_ start
            rw [lvi, lv_lo _ t1 t2 (fun y => by have := t3 y; omega)]; rfl
          · rw [if_neg (fun y : nI (rkS i) ≤ 3 => r2 ((nI_le' (b := 3) (by decide) (by omega)).mp y)), if_pos (lk_96 h), lr_96_22 h, bd1_s, la_107 h (show cnt 10 st < 10 by omega), if_pos rfl, if_pos rfl, nx_nI (by omega), R.1] at start
            refine fin (if tbI (lvT st) = 0 then 0 else 1) ?_ ?_
            · rw [lvi, lv_hi (by omega)]
              unfold tbI
              by_cases y : lvT st = true
              · rw [if_pos y, if_neg (by decide)]
              · rw [if_neg y, if_pos rfl]
            · rw [start]
              unfold j_X9_takesE_305
              rw [if_pos (show (if tbI (lvT st) = 0 then (0 : Int32) else 1) = 0 ∨ (if tbI (lvT st) = 0 then (0 : Int32) else 1) = 1 by
                by_cases y : tbI (lvT st) = 0
                · rw [if_pos y]; exact Or.inl rfl
                · rw [if_neg y]; exact Or.inr rfl), la_107 h (show cnt 10 st < 10 by omega), if_pos rfl, nx_nI (by omega)]
      · rw [if_neg z]
        show L_X9_takesE_28 (n + 1) 96 _ _ _ w = some (0, w)
        rw [j237n (fun y => z y.2)] at start
        exact start
  · rw [if_neg z3]
    show L_X9_takesE_28 (n + 1) 96 _ _ _ w = some (0, w)
    rw [if_neg (fun y => z3 (q3.mp y)), j237n (fun y => z3 y.1)] at start
    exact start
theorem m_loop {b : Nat → Nat} {L key : Nat} (hL : L ≤ 96) (hk : key < 3) : ∀ m n e g wn st cd at' (w : Wd), L - e < m → m < n → e ≤ L → Lay w → TM w b L → MS w key st cd at' → TR w st → GO w b L e g → IS (nmA key) wn st cd at' → st.length + cd.length ≤ e → ∃ r w', L_X9_takesE_28 n 96 (nI (cnt 10 st)) (nI (cnt 9 st)) (if wn = true then 1 else 0) w = some (r, w') ∧ FZ w w' ∧ match (PF b L key m e g wn st cd at').1 with
    | none => r = 0 ∧ wI w' 96 10 = nI (PF b L key m e g wn st cd at').2
    | some x => r = 1 ∧ ∃ st', MS w' key st' x.1 x.2 := by
  intro m
  induction m with
  | zero => intro n e g wn st cd at' w q; omega
  | succ m ih =>
    intro n e g wn st cd at' w m1 m2 he h hT X R G I hl
    obtain ⟨n, rfl⟩ : ∃ k, n = k + 1 := ⟨n - 1, by omega⟩
    obtain ⟨k5, k0, k2, k1⟩ := kd_lt b L e g
    obtain ⟨t1, t2, t3⟩ := te_b (b := b) he
    have sle := sk_le (b := b) he
    have sge := sk_ge b L e
    have I0 := I
    obtain ⟨i1, i2, i3, i4, i5, i6⟩ := I
    rw [PF]
    by_cases z : L ≤ tSk b L e
    · rw [if_pos z]
      have kz := k0.mpr z
      have sL : tSk b L e = L := by omega
      have G0 := G
      obtain ⟨g9, g10, g11, -, -, -⟩ := G
      rw [kz] at g11
      by_cases yw : wn = true
      · rw [if_pos yw, if_pos (Or.inl yw)]
        refine ⟨0, w, ?_, FZ.rf w, rfl, by rw [g10, sL]⟩
        have e11 : wI w 96 11 = 0 := g11
        unfold L_X9_takesE_28
        rw [if_neg (by decide)]
        unfold j_X9_takesE_39
        rw [if_neg (by decide), if_pos (lk_96 h), e11, if_neg (by decide)]
        unfold j_X9_takesE_97
        rw [if_pos (lk_96 h), e11, if_neg (by decide)]
        unfold j_X9_takesE_158 f_X9_takesPart j_X9_takesPart_36 j_X9_takesPart_37
        rw [lk_96 h, if_pos rfl, if_pos rfl, e11, if_neg (by decide), if_pos rfl, if_neg (by decide), if_pos rfl, bd2_s, if_pos rfl]
      · rw [if_neg yw] at i3
        have wf : wn = false := by simpa using yw
        obtain ⟨w1, a1, a2, a3⟩ := m_sl (t := 0) (by decide) st cd FU w h i1 (i2 wf) (by unfold FU; omega) (by omega) X
        have a1' : f_X9_settle 96 0 w = some ((), w1) := a1
        rw [if_neg yw]
        unfold L_X9_takesE_28
        rw [if_pos rfl, if_pos (lk_96 h), g11, if_pos (show nI (mT 0 (tTe b L e - tSk b L e)) = 0 from rfl), a1', bd2_s]
        by_cases y : 0 < cnt 10 st
        · rw [if_pos (Or.inr y), if_neg (fun q : nI (cnt 10 st) = 0 => by have := nI_inj (b := 0) (by omega) (by decide) q; omega)]
          exact ⟨0, w1, rfl, a2.y.z, rfl, by rw [a2.2 10 (by decide) (by decide), g10, sL]⟩
        · rw [if_neg (show ¬ (wn = true ∨ 0 < cnt 10 st) from fun q => q.elim yw y), if_pos (show nI (cnt 10 st) = 0 by rw [show cnt 10 st = 0 by omega]; rfl)]
          exact ⟨1, w1, rfl, a2.y.z, rfl, _, a3⟩
    · rw [if_neg z]
      have t3' := t3 (by omega)
      have S : Rm b L e g n key (nI (cnt 10 st)) (nI (cnt 9 st)) (if wn = true then 1 else 0) w (SP b key (tKd b L e g) (tSk b L e) (tTe b L e) wn st cd at') := by
        by_cases yw : wn = true
        · rw [if_pos yw] at i3 ⊢
          rw [yw]
          exact m_step1 h hL he hk hT G (by omega) i1 (by omega) X R i5 (by omega) i4
        · have wf : wn = false := by simpa using yw
          rw [if_neg yw] at i3 ⊢
          rw [wf]
          exact m_step0 h hL he hT G (by omega) i1 (i2 wf) (by omega) X R i5 i3 i4
      cases q : SP b key (tKd b L e g) (tSk b L e) (tTe b L e) wn st cd at' with
      | none =>
        rw [q] at S
        exact ⟨0, w, S, FZ.rf w, rfl, G.2.1⟩
      | some x =>
        rw [q] at S
        obtain ⟨w', s1, s2, s3, s4, s5⟩ := S
        obtain ⟨I', l'⟩ := SP_i (b := b) (key := key) I0 (fun q => kd_1 q) q
        obtain ⟨r, w2, r1, r2, r3⟩ := ih n (tTe b L e) (decide (tKd b L e g = 1 ∨ tKd b L e g = 2)) x.1 x.2.1 x.2.2.1 x.2.2.2 w' (by omega) (by omega) t2 (s2.1.lay h) (s2.tm hT) s3 s4 s5 I' (by omega)
        exact ⟨r, w2, by rw [s1]; exact r1, s2.tr r2, r3⟩
