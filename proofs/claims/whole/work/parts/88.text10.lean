/-! TEXTS: the reference, all steps -/
theorem MS.push {w : Wd} {key at' s : Nat} {st cd : List Nat} (X : MS w key st cd at') {v : Int32} (hv : v = sgM s) : MS (sI (sI w 106 st.length v) 96 21 (nI (st.length + 1))) key (s :: st) cd at' := by
  obtain ⟨x14, x18, x19, x21, xc, xs⟩ := X
  have e : ∀ j, j ≠ 21 → wI (sI (sI w 106 st.length v) 96 21 (nI (st.length + 1))) 96 j = wI w 96 j := fun j hj => by rw [wI_sn _ _ (Or.inr hj), wI_s2 _ _ _ (by decide)]
  refine ⟨by rw [e 14 (by decide)]; exact x14, by rw [e 18 (by decide)]; exact x18, by rw [e 19 (by decide)]; exact x19, by rw [wI_ss, List.length_cons], ?_, ?_⟩
  · rw [wI_s2 _ _ _ (by decide), wI_s2 _ _ _ (by decide)]; exact xc
  · rw [wI_s2 _ _ _ (by decide), wI_s1]; exact Rw_p xs hv
theorem MS.r7 {w : Wd} {key at' : Nat} {st cd : List Nat} (X : MS w key st cd at') (j : Nat) (v : Int32) : MS (sI w 107 j v) key st cd at' := by
  unfold MS at X ⊢
  rw [wI_s2 _ _ _ (show (96 : Nat) ≠ 107 by decide), wI_s2 _ _ _ (show (105 : Nat) ≠ 107 by decide), wI_s2 _ _ _ (show (106 : Nat) ≠ 107 by decide)]
  exact X
def sgH (x : Nat) : Int32 := if sgI x < 9 then sgM (sgI x) else 0
theorem m_sign {w : Wd} {x k l : Nat} (h : Lay w) (hx : x < 256) (hk : k < 5) (e11 : wI w 96 11 = nI (mT k l)) (e12 : k = 3 → wI w 96 12 = nI x) : f_X9_signHere 96 w = some (if k = 3 then sgH x else 0, w) := by
  obtain ⟨m3, -, -, -, m5⟩ := mT_3 (l := l) hk
  have q3 : nI (mT k l) = 3 ↔ k = 3 := (nI_eq' (b := 3) (by decide) (by omega)).trans m3
  unfold f_X9_signHere
  rw [lk_96 h, if_pos rfl, e11]
  by_cases c : k = 3
  · rw [if_pos (q3.mpr c), if_pos c, e12 c]
    have ne : ∀ y : Nat, y < 256 → ((nI x : Int32) = nI y ↔ x = y) := fun y hy => nI_eq' (by omega) (by omega)
    rw [show (38 : Int32) = nI 38 from rfl, show (42 : Int32) = nI 42 from rfl, show (43 : Int32) = nI 43 from rfl, show (45 : Int32) = nI 45 from rfl, show (47 : Int32) = nI 47 from rfl, show (60 : Int32) = nI 60 from rfl, show (61 : Int32) = nI 61 from rfl, show (62 : Int32) = nI 62 from rfl, show (124 : Int32) = nI 124 from rfl]
    simp only [ne 38 (by decide), ne 42 (by decide), ne 43 (by decide), ne 45 (by decide), ne 47 (by decide), ne 60 (by decide), ne 61 (by decide), ne 62 (by decide), ne 124 (by decide)]
    by_cases a : x = 38
    · subst a; rfl
    rw [if_neg a]
    by_cases a2 : x = 42
    · subst a2; rfl
    rw [if_neg a2]
    by_cases a3 : x = 43
    · subst a3; rfl
    rw [if_neg a3]
    by_cases a4 : x = 45
    · subst a4; rfl
    rw [if_neg a4]
    by_cases a5 : x = 47
    · subst a5; rfl
    rw [if_neg a5]
    by_cases a6 : x = 60
    · subst a6; rfl
    rw [if_neg a6]
    by_cases a7 : x = 61
    · subst a7; rfl
    rw [if_neg a7]
    by_cases a8 : x = 62
    · subst a8; rfl
    rw [if_neg a8]
    by_cases a9 : x = 124
    · subst a9; rfl
    rw [if_neg a9]
    unfold sgH sgI
    rw [if_neg a9, if_neg a, if_neg a6, if_neg a7, if_neg a8, if_neg a3, if_neg a4, if_neg a2, if_neg a5, if_neg (by decide)]
  · rw [if_neg (fun z => c (q3.mp z)), if_neg c]
/-- what the reference does at a step that is none -/
def Rm (b : Nat → Nat) (L e : Nat) (g : Bool) (n key : Nat) (c10 c9 wn : Int32) (w : Wd) (o : Option St) : Prop := match o with
  | none => L_X9_takesE_28 (n + 1) 96 c10 c9 wn w = some (0, w)
  | some x => ∃ w', L_X9_takesE_28 (n + 1) 96 c10 c9 wn w = L_X9_takesE_28 n 96 (nI (cnt 10 x.2.1)) (nI (cnt 9 x.2.1)) (if x.1 = true then 1 else 0) w' ∧ FZ w w' ∧ MS w' key x.2.1 x.2.2.1 x.2.2.2 ∧ TR w' x.2.1 ∧ GO w' b L (tTe b L e) (decide (tKd b L e g = 1 ∨ tKd b L e g = 2))
theorem m_step1 {w : Wd} {b : Nat → Nat} {L e key at' n : Nat} {g : Bool} {st cd : List Nat} (h : Lay w) (hL : L ≤ 96) (he : e ≤ L) (hk : key < 3) (hT : TM w b L) (G : GO w b L e g) (hs : tSk b L e < L) (gS : gd st) (hl : st.length + cd.length + 1 ≤ 96) (X : MS w key st cd at') (R : TR w st) (c8 : cnt 10 st ≤ 8) (hd : dL cd = nb st) {nm : Nat} (ho : okL nm at' cd) : Rm b L e g n key (nI (cnt 10 st)) (nI (cnt 9 st)) 1 w (SP b key (tKd b L e g) (tSk b L e) (tTe b L e) true st cd at') := by
  obtain ⟨k5, k0, k2, k1⟩ := kd_lt b L e g
  obtain ⟨m3, m0, m1, m2, m5⟩ := mT_3 (l := tTe b L e - tSk b L e) k5
  have G0 := G
  obtain ⟨g9, g10, g11, g12, gv, -⟩ := G
  obtain ⟨u1, u2⟩ := hT.2 _ hs
  obtain ⟨P1, P0⟩ := m_part h hL he hk hT G0 hs gS hl X
  have c9 := cnt_l 9 st
  have q3 : nI (mT (tKd b L e g) (tTe b L e - tSk b L e)) = 3 ↔ tKd b L e g = 3 := (nI_eq' (b := 3) (by decide) (by omega)).trans m3
  have start : L_X9_takesE_28 (n + 1) 96 (nI (cnt 10 st)) (nI (cnt 9 st)) 1 w = L_X9_takesE_28 (n + 1) 96 (nI (cnt 10 st)) (nI (cnt 9 st)) 1 w := rfl
  conv at start => rhs; unfold L_X9_takesE_28
  rw [if_neg (show ¬ (1 : Int32) = 0 by decide)] at start
  unfold j_X9_takesE_39 at start
  rw [if_neg (show ¬ (1 : Int32) = 0 by decide), if_pos (lk_96 h), g11] at start
  have j97 : ¬ (tKd b L e g = 3 ∧ b (tSk b L e) = 40 ∧ cnt 10 st < 8) → j_X9_takesE_97 (L_X9_takesE_28 n) 96 (nI (cnt 10 st)) 1 w = j_X9_takesE_158 (L_X9_takesE_28 n) 96 (nI (cnt 10 st)) w := fun c => by
    unfold j_X9_takesE_97
    rw [if_pos (lk_96 h), g11]
    by_cases z3 : tKd b L e g = 3
    · rw [if_pos (q3.mpr z3), g12 (Or.inr z3)]
      by_cases z4 : b (tSk b L e) = 40
      · rw [if_pos (show nI (b (tSk b L e)) = 40 by rw [z4]; rfl), if_pos (show (8 : Int32) ≤ nI (cnt 10 st) from (nI_le' (a := 8) (by omega) (by omega)).mpr (by
          by_cases y : cnt 10 st < 8
          · exact absurd ⟨z3, z4, y⟩ c
          · omega))]
      · rw [if_neg (fun y : nI (b (tSk b L e)) = 40 => z4 (nI_inj (b := 40) (by omega) (by decide) y))]
    · rw [if_neg (fun y => z3 (q3.mp y))]
  have j158n : ¬ (tKd b L e g = 1 ∧ tTe b L e - tSk b L e ≤ 4) → ¬ (tKd b L e g = 2 ∧ (tTe b L e - tSk b L e = 1 ∧ nmI key (b (tSk b L e)) < 3)) → j_X9_takesE_158 (L_X9_takesE_28 n) 96 (nI (cnt 10 st)) w = some (0, w) := fun c1 c2 => by
    unfold j_X9_takesE_158
    rw [if_pos (lk_96 h), P0 c1 c2, bd2_s, if_pos rfl]
  have j158y : ∀ y, ((tKd b L e g = 1 ∧ tTe b L e - tSk b L e ≤ 4 ∧ y = vlN b (tTe b L e - tSk b L e) (tSk b L e) 0) ∨ (tKd b L e g = 2 ∧ (tTe b L e - tSk b L e = 1 ∧ nmI key (b (tSk b L e)) < 3) ∧ y = 10000 + nmI key (b (tSk b L e)))) → y < 20000 → (y < 10000 + nm ∨ True) → ∃ w', j_X9_takesE_158 (L_X9_takesE_28 n) 96 (nI (cnt 10 st)) w = L_X9_takesE_28 n 96 (nI (cnt 10 (pnS st))) (nI (cnt 9 (pnS st))) 0 w' ∧ FZ w w' ∧ MS w' key (pnS st) (pnC st (y :: cd)) (at' + 1) ∧ TR w' (pnS st) ∧ GO w' b L (tTe b L e) (decide (tKd b L e g = 1 ∨ tKd b L e g = 2)) := fun y hy yl _ => by
    obtain ⟨w', a1, a2, a3, a4, a5⟩ := P1 y hy
    have h' := a2.1.lay h
    have c10 : ∀ l, cnt 10 (pnS l) = cnt 10 l := by
      intro l
      induction l with
      | nil => rfl
      | cons s r ih =>
        rw [pnS]
        by_cases c : s = 9
        · rw [if_pos c, ih, cnt, if_neg (by omega), Nat.zero_add]
        · rw [if_neg c]
    have gp : ∀ l, gd l → gd (pnS l) ∧ (pnS l).length ≤ l.length := by
      intro l
      induction l with
      | nil => intro q; exact ⟨q, Nat.le_refl _⟩
      | cons s r ih =>
        intro q
        rw [pnS]
        by_cases c : s = 9
        · rw [if_pos c]
          have := ih q.2.2
          exact ⟨this.1, by rw [List.length_cons]; omega⟩
        · rw [if_neg c]; exact ⟨q, Nat.le_refl _⟩
    refine ⟨w', ?_, a2, a3, ?_, a4⟩
    · unfold j_X9_takesE_158
      rw [if_pos (lk_96 h), a1, bd2_s, if_neg (by decide)]
      unfold j_X9_takesE_172
      rw [if_pos (lk_96 h'), m_nots h' (gp st gS).1 (by have := (gp st gS).2; omega) a3, bd2_s, c10]
    · refine ⟨?_, ?_⟩
      · rw [a5, c10, lv_pn]; exact R.1
      · rw [a5]; exact tk_pn st R.2
  unfold SP
  rw [if_pos rfl]
  by_cases z1 : tKd b L e g = 1
  · rw [if_neg (fun y => by have := q3.mp y; omega), j97 (fun y => by omega)] at start
    rw [if_pos z1]
    by_cases c : tTe b L e - tSk b L e ≤ 4
    · rw [if_pos c]
      have yl : vlN b (tTe b L e - tSk b L e) (tSk b L e) 0 < 20000 := by
        have t := te_b (b := b) he
        have := vl_lt (b := b) (tTe b L e - tSk b L e) (tSk b L e) 0 (fun j j1 j2 => (cls_1 (k1 z1 j j1 (by omega))).2)
        have p4 : 10 ^ (tTe b L e - tSk b L e) ≤ 10 ^ 4 := Nat.pow_le_pow_right (by decide) c
        omega
      obtain ⟨w', a1, a2⟩ := j158y _ (Or.inl ⟨z1, c, rfl⟩) yl (Or.inr trivial)
      exact ⟨w', by rw [start]; exact a1, a2⟩
    · rw [if_neg c]
      show L_X9_takesE_28 (n + 1) 96 _ _ _ w = some (0, w)
      rw [start]
      exact j158n (fun y => c y.2) (fun y => by omega)
  · rw [if_neg z1]
    by_cases z2 : tKd b L e g = 2
    · rw [if_neg (fun y => by have := q3.mp y; omega), j97 (fun y => by omega)] at start
      rw [if_pos z2]
      by_cases c : tTe b L e - tSk b L e = 1 ∧ nmI key (b (tSk b L e)) < 3
      · rw [if_pos c]
        obtain ⟨w', a1, a2⟩ := j158y _ (Or.inr ⟨z2, c, rfl⟩) (by omega) (Or.inr trivial)
        exact ⟨w', by rw [start]; exact a1, a2⟩
      · rw [if_neg c]
        show L_X9_takesE_28 (n + 1) 96 _ _ _ w = some (0, w)
        rw [start]
        exact j158n (fun y => by omega) (fun y => c y.2)
    · rw [if_neg z2]
      have nn : j_X9_takesE_158 (L_X9_takesE_28 n) 96 (nI (cnt 10 st)) w = some (0, w) := j158n (fun y => z1 y.1) (fun y => z2 y.1)
      by_cases z3 : tKd b L e g = 3
      · rw [if_pos z3]
        rw [if_pos (q3.mpr z3), g12 (Or.inr z3)] at start
        have x21 := X.2.2.2.1
        by_cases c : b (tSk b L e) = 40 ∧ cnt 10 st < 8
        · rw [if_pos c]
          rw [if_neg (fun y : nI (b (tSk b L e)) = 33 => by have := nI_inj (b := 33) (by omega) (by decide) y; omega)] at start
          unfold j_X9_takesE_97 at start
          rw [if_pos (lk_96 h), g11, if_pos (q3.mpr z3), g12 (Or.inr z3), if_pos (show nI (b (tSk b L e)) = 40 by rw [c.1]; rfl), if_neg (fun y : (8 : Int32) ≤ nI (cnt 10 st) => by have := (nI_le' (a := 8) (by omega) (by omega)).mp y; omega), lr_96_20 h, bd1_s, x21, la_106 h (show st.length < 96 by omega), if_pos rfl, nx_nI (by omega), lb_e, wI_sn _ _ (Or.inl (show (96 : Nat) ≠ 106 by decide)), x21, nI_s1, lb_e, lb_e, nI_s1] at start
          have X1 := X.push (s := 10) (v := -11) (by decide)
          obtain ⟨w1, e1⟩ : ∃ w1, w1 = sI (sI w 106 st.length (-11)) 96 21 (nI (st.length + 1)) := ⟨_, rfl⟩
          rw [← e1] at start X1
          have F1 : FY w w1 := by rw [e1]; exact (FY.r _ _ _ (by omega)).tr (FY.s _ _ (by omega))
          have h1 := F1.1.lay h
          have r1 : wI w1 107 = wI w 107 := by rw [e1, wI_s2 _ _ _ (by decide), wI_s2 _ _ _ (by decide)]
          rw [lr_96_22 h1, bd1_s, la_107 h1 (show cnt 10 st + 1 < 10 by omega), if_pos rfl, nx_nI (by omega), lb_e] at start
          obtain ⟨w2, e2⟩ : ∃ w2, w2 = sI w1 107 (cnt 10 st + 1) 0 := ⟨_, rfl⟩
          rw [← e2] at start
          have F2 : FY w w2 := by rw [e2]; exact F1.tr (FY.r _ _ _ (by omega))
          have h2 := F2.1.lay h
          have X2 : MS w2 key (10 :: st) cd at' := by rw [e2]; exact X1.r7 _ _
          obtain ⟨w3, b1, b2, b3⟩ := m_next h2 hL he (F2.tm hT) (F2.go G0) (Or.inr (Or.inr z3))
          have h3 := b2.1.lay h2
          have X3 := b2.ms X2
          have g10' : gd (10 :: st) := ⟨by decide, fun y => by omega, gS⟩
          have r3 : wI w3 107 = upd (wI w 107) (cnt 10 st + 1) 0 := by rw [b2.1.2.2.2.2 107 (by decide), e2, wI_s1, r1]
          unfold j_X9_takesE_172 at start
          rw [b1, bd2_s, if_pos (lk_96 h3), m_nots h3 g10' (by rw [List.length_cons]; omega) X3, bd2_s] at start
          refine ⟨w3, ?_, F2.z.tr b2.z, X3, ⟨?_, fun _ => ?_, ?_⟩, b3⟩
          · show L_X9_takesE_28 (n + 1) 96 _ _ _ w = L_X9_takesE_28 n 96 (nI (cnt 10 (10 :: st))) (nI (cnt 9 (10 :: st))) 1 w3
            rw [start, show cnt 10 (10 :: st) = cnt 10 st + 1 by rw [cnt, if_pos rfl, Nat.add_comm]]
          · show wI w3 107 (cnt 10 (10 :: st)) = tbI (lvT (10 :: st))
            rw [r3, show cnt 10 (10 :: st) = cnt 10 st + 1 by rw [cnt, if_pos rfl, Nat.add_comm], upd_s]; rfl
          · rw [r3, upd_n _ _ (by omega)]; exact R.1
          · rw [r3]; exact tk_u st R.2 (by omega)
        · rw [if_neg c]
          by_cases c' : b (tSk b L e) = 33 ∧ cnt 9 st < 8
          · rw [if_pos c']
            rw [if_pos (show nI (b (tSk b L e)) = 33 by rw [c'.1]; rfl), if_neg (fun y : (8 : Int32) ≤ nI (cnt 9 st) => by have := (nI_le' (a := 8) (by omega) (by omega)).mp y; omega), lr_96_20 h, bd1_s, x21, la_106 h (show st.length < 96 by omega), if_pos rfl, nx_nI (by omega), lb_e, wI_sn _ _ (Or.inl (show (96 : Nat) ≠ 106 by decide)), x21, nI_s1, lb_e, lb_e] at start
            have X1 := X.push (s := 9) (v := -10) (by decide)
            obtain ⟨w1, e1⟩ : ∃ w1, w1 = sI (sI w 106 st.length (-10)) 96 21 (nI (st.length + 1)) := ⟨_, rfl⟩
            rw [← e1] at start X1
            have F1 : FY w w1 := by rw [e1]; exact (FY.r _ _ _ (by omega)).tr (FY.s _ _ (by omega))
            have h1 := F1.1.lay h
            have r1 : wI w1 107 = wI w 107 := by rw [e1, wI_s2 _ _ _ (by decide), wI_s2 _ _ _ (by decide)]
            obtain ⟨w3, b1, b2, b3⟩ := m_next h1 hL he (F1.tm hT) (F1.go G0) (Or.inr (Or.inr z3))
            have h3 := b2.1.lay h1
            have X3 := b2.ms X1
            have g9' : gd (9 :: st) := ⟨by decide, fun y => by omega, gS⟩
            have r3 : wI w3 107 = wI w 107 := by rw [b2.1.2.2.2.2 107 (by decide), r1]
            unfold j_X9_takesE_172 at start
            rw [b1, bd2_s, if_pos (lk_96 h3), m_nots h3 g9' (by rw [List.length_cons]; omega) X3, bd2_s] at start
            have c10 : cnt 10 (9 :: st) = cnt 10 st := by rw [cnt, if_neg (by decide), Nat.zero_add]
            refine ⟨w3, ?_, F1.z.tr b2.z, X3, ⟨?_, fun y => by omega, ?_⟩, b3⟩
            · show L_X9_takesE_28 (n + 1) 96 _ _ _ w = L_X9_takesE_28 n 96 (nI (cnt 10 (9 :: st))) (nI (cnt 9 (9 :: st))) 1 w3
              rw [start, c10]
            · show wI w3 107 (cnt 10 (9 :: st)) = tbI (lvT (9 :: st))
              rw [r3, c10]; exact R.1
            · rw [r3]; exact R.2
          · rw [if_neg c']
            show L_X9_takesE_28 (n + 1) 96 _ _ _ w = some (0, w)
            have jj := j97 (fun y => c y.2)
            rw [nn] at jj
            by_cases y3 : b (tSk b L e) = 33
            · rw [if_pos (show nI (b (tSk b L e)) = 33 by rw [y3]; rfl), if_pos (show (8 : Int32) ≤ nI (cnt 9 st) from (nI_le' (a := 8) (by omega) (by omega)).mpr (by
                by_cases y : cnt 9 st < 8
                · exact absurd ⟨y3, y⟩ c'
                · omega)), jj] at start
              exact start
            · rw [if_neg (fun y : nI (b (tSk b L e)) = 33 => y3 (nI_inj (b := 33) (by omega) (by decide) y)), jj] at start
              exact start
      · rw [if_neg z3]
        show L_X9_takesE_28 (n + 1) 96 _ _ _ w = some (0, w)
        rw [if_neg (fun y => z3 (q3.mp y)), j97 (fun y => z3 y.1), nn] at start
        exact start
