/-! TEXTS: the reference, a step -/
def tbI (x : Bool) : Int32 := if x = true then 1 else 0
def lvT : List Nat → Bool
  | [] => false
  | s :: r => if s = 10 then false else (decide (rkS s = 3) || lvT r)
def TBk (row : Nat → Int32) : List Nat → Prop
  | [] => True
  | s :: r => (s = 10 → row (cnt 10 r) = tbI (lvT r)) ∧ TBk row r
theorem lv_pn : ∀ st, lvT (pnS st) = lvT st := by
  intro st
  induction st with
  | nil => rfl
  | cons s r ih =>
    rw [pnS]
    by_cases c : s = 9
    · rw [if_pos c, ih, lvT, if_neg (by omega), c]; rfl
    · rw [if_neg c]
theorem tk_pn {row : Nat → Int32} : ∀ st, TBk row st → TBk row (pnS st) := by
  intro st
  induction st with
  | nil => intro h; exact h
  | cons s r ih =>
    intro h
    rw [pnS]
    by_cases c : s = 9
    · rw [if_pos c]; exact ih h.2
    · rw [if_neg c]; exact h
theorem tk_sl {row : Nat → Int32} {t : Nat} : ∀ st, TBk row st → TBk row (slS t st) := by
  intro st
  induction st with
  | nil => intro h; exact h
  | cons s r ih =>
    intro h
    rw [slS]
    by_cases c : s ≤ 8 ∧ t ≤ rkS s
    · rw [if_pos c]; exact ih h.2
    · rw [if_neg c]; exact h
theorem tk_u {row : Nat → Int32} {j : Nat} {v : Int32} : ∀ st, TBk row st → cnt 10 st ≤ j → TBk (upd row j v) st := by
  intro st
  induction st with
  | nil => intro h _; exact h
  | cons s r ih =>
    intro h hj
    rw [cnt] at hj
    refine ⟨fun q => ?_, ih h.2 (by omega)⟩
    rw [if_pos q] at hj
    rw [upd_n _ _ (by omega)]
    exact h.1 q
theorem lv_lo : ∀ l, gd l → hdN l ≠ 9 → (hdN l ≤ 8 → rkS (hdN l) < 3) → lvT l = false := by
  intro l
  induction l with
  | nil => intros; rfl
  | cons s r ih =>
    intro g h9 h8
    rw [lvT]
    by_cases c : s = 10
    · rw [if_pos c]
    · have s9 : ¬ s = 9 := h9
      have g1 := g.1
      have s8 : s ≤ 8 := by omega
      have k3 : rkS s < 3 := h8 s8
      rw [if_neg c, decide_eq_false (by omega), Bool.false_or]
      exact ih g.2.2 (g.2.1 s8).1 (fun q => by have := (g.2.1 s8).2 q; omega)
theorem lv_hi {t : Nat} (ht : 4 ≤ t) : ∀ st, lvT (slS t st) = lvT st := by
  intro st
  induction st with
  | nil => rfl
  | cons s r ih =>
    rw [slS]
    by_cases c : s ≤ 8 ∧ t ≤ rkS s
    · rw [if_pos c, ih, lvT, if_neg (by omega), decide_eq_false (by omega), Bool.false_or]
    · rw [if_neg c]
theorem lv_h3 {st : List Nat} (g : gd (slS 4 st)) (h9 : hdN (slS 4 st) ≠ 9) (h8 : hdN (slS 4 st) ≤ 8 → rkS (hdN (slS 4 st)) < 4) : hd3 (slS 4 st) = lvT st := by
  rw [← lv_hi (Nat.le_refl 4) st]
  cases e : slS 4 st with
  | nil => rfl
  | cons s r =>
    rw [e] at g h9 h8
    have g1 := g.1
    have s9 : ¬ s = 9 := h9
    unfold hd3 hdN
    by_cases c : s = 10
    · rw [lvT, if_pos c, c]; rfl
    · have s8 : s ≤ 8 := by omega
      have k4 : rkS s < 4 := h8 s8
      rw [decide_eq_true s8, Bool.true_and]
      by_cases k3 : rkS s = 3
      · rw [lvT, if_neg c, decide_eq_true k3, Bool.true_or]
      · rw [decide_eq_false k3, lv_lo (s :: r) g h9 (fun _ => by show rkS s < 3; omega)]
def TR (w : Wd) (st : List Nat) : Prop := wI w 107 (cnt 10 st) = tbI (lvT st) ∧ TBk (wI w 107) st
def Tz_ (a : Nat) : Prop := a = 96 ∨ (105 ≤ a ∧ a ≤ 107)
def FY (w w' : Wd) : Prop := Fr Tz_ w w' ∧ ∀ j, j ≠ 18 → j ≠ 19 → j ≠ 21 → wI w' 96 j = wI w 96 j
theorem FY.rf (w : Wd) : FY w w := ⟨Fr.rf w, fun _ _ _ _ => rfl⟩
theorem FY.tr {w w1 w2 : Wd} (h1 : FY w w1) (h2 : FY w1 w2) : FY w w2 := ⟨h1.1.tr h2.1, fun j a c d => (h2.2 j a c d).trans (h1.2 j a c d)⟩
theorem FY.s (w : Wd) {j : Nat} (v : Int32) (hj : j = 18 ∨ j = 19 ∨ j = 21) : FY w (sI w 96 j v) := ⟨Fr.sI _ _ _ (Or.inl rfl), fun k a c d => wI_sn _ _ (Or.inr (by omega))⟩
theorem FY.r (w : Wd) {a : Nat} (j : Nat) (v : Int32) (ha : 105 ≤ a ∧ a ≤ 107) : FY w (sI w a j v) := ⟨Fr.sI _ _ _ (Or.inr ha), fun k _ _ _ => wI_sn _ _ (Or.inl (by omega))⟩
theorem FT.y {w w' : Wd} (h : FT w w') : FY w w' := ⟨h.1.mono (fun a ha => by unfold Ts_ at ha; unfold Tz_; omega), fun j a _ c => h.2 j a c⟩
theorem FY.tm {w w1 : Wd} {b : Nat → Nat} {L : Nat} (h : FY w w1) (t : TM w b L) : TM w1 b L := ⟨by rw [h.2 8 (by decide) (by decide) (by decide)]; exact t.1, fun k hk => by rw [h.1.2.2.2.2 102 (by unfold Tz_; omega)]; exact t.2 k hk⟩
theorem FY.go {w w1 : Wd} {b : Nat → Nat} {L e : Nat} {g : Bool} (h : FY w w1) (G : GO w b L e g) : GO w1 b L e g := by
  unfold GO at G ⊢
  rw [h.2 9 (by decide) (by decide) (by decide), h.2 10 (by decide) (by decide) (by decide), h.2 11 (by decide) (by decide) (by decide), h.2 12 (by decide) (by decide) (by decide), h.2 13 (by decide) (by decide) (by decide)]
  exact G
def FZ (w w' : Wd) : Prop := Fr Tz_ w w' ∧ ∀ j, j < 9 ∨ j = 14 ∨ 21 < j → wI w' 96 j = wI w 96 j
theorem FZ.rf (w : Wd) : FZ w w := ⟨Fr.rf w, fun _ _ => rfl⟩
theorem FZ.tr {w w1 w2 : Wd} (h1 : FZ w w1) (h2 : FZ w1 w2) : FZ w w2 := ⟨h1.1.tr h2.1, fun j a => (h2.2 j a).trans (h1.2 j a)⟩
theorem FY.z {w w' : Wd} (h : FY w w') : FZ w w' := ⟨h.1, fun j a => h.2 j (by omega) (by omega) (by omega)⟩
theorem FE.z {w w' : Wd} (h : FE w w') : FZ w w' := ⟨h.1.mono (fun a ha => Or.inl ha), fun j a => h.2 j (by omega)⟩
theorem FZ.tm {w w1 : Wd} {b : Nat → Nat} {L : Nat} (h : FZ w w1) (t : TM w b L) : TM w1 b L := ⟨by rw [h.2 8 (by omega)]; exact t.1, fun k hk => by rw [h.1.2.2.2.2 102 (by unfold Tz_; omega)]; exact t.2 k hk⟩
theorem FE.ms {w w1 : Wd} {key at' : Nat} {st cd : List Nat} (h : FE w w1) (X : MS w key st cd at') : MS w1 key st cd at' := by
  unfold MS at X ⊢
  rw [h.2 14 (by omega), h.2 18 (by omega), h.2 19 (by omega), h.2 21 (by omega), h.1.2.2.2.2 105 (by decide), h.1.2.2.2.2 106 (by decide)]
  exact X
theorem m_next {w : Wd} {b : Nat → Nat} {L e : Nat} {g : Bool} (h : Lay w) (hL : L ≤ 96) (he : e ≤ L) (hT : TM w b L) (G : GO w b L e g) (hk : tKd b L e g = 1 ∨ tKd b L e g = 2 ∨ tKd b L e g = 3) : ∃ w', f_X9_go 96 w = some ((), w') ∧ FE w w' ∧ GO w' b L (tTe b L e) (decide (tKd b L e g = 1 ∨ tKd b L e g = 2)) := m_go h hL (te_b he).2.1 hT G.1 (G.2.2.2.2.2 hk)
theorem mT_3 {k l : Nat} (h : k < 5) : (mT k l = 3 ↔ k = 3) ∧ (mT k l = 0 ↔ k = 0) ∧ (mT k l = 1 ↔ k = 2) ∧ (mT k l = 2 ↔ k = 1 ∧ l ≤ 4) ∧ mT k l < 5 := by
  unfold mT
  rcases (show k = 0 ∨ k = 1 ∨ k = 2 ∨ k = 3 ∨ k = 4 by omega) with q | q | q | q | q <;> subst q
  · simp
  · by_cases c : l ≤ 4
    · simp [c]
    · simp [c]
  · simp
  · simp
  · simp
theorem m_name {key x : Nat} {w : Wd} (h : Lay w) (hk : key < 3) (hx : x < 256) (e : wI w 96 14 = nI key) : f_X9_nameOf 96 (nI x) w = some (if nmI key x < 3 then nI (nmI key x) else -1, w) := by
  have ne : ∀ y : Nat, y < 256 → ((nI x : Int32) = nI y ↔ x = y) := fun y hy => nI_eq' (by omega) (by omega)
  unfold f_X9_nameOf
  rw [lk_96 h, if_pos rfl, e]
  unfold nmI
  rw [show (112 : Int32) = nI 112 from rfl, show (99 : Int32) = nI 99 from rfl, show (115 : Int32) = nI 115 from rfl, show (116 : Int32) = nI 116 from rfl, show (109 : Int32) = nI 109 from rfl]
  simp only [ne 112 (by decide), ne 99 (by decide), ne 115 (by decide), ne 116 (by decide), ne 109 (by decide)]
  rcases (show key = 0 ∨ key = 1 ∨ key = 2 by omega) with q | q | q <;> subst q
  · rw [if_pos (show nI 0 = 0 from rfl), if_pos rfl]
    by_cases a : x = 112
    · simp only [a, ↓reduceIte]; rfl
    · by_cases a' : x = 99
      · simp only [a', ↓reduceIte]; rfl
      · by_cases a'' : x = 115
        · simp only [a'', ↓reduceIte]; rfl
        · simp only [a, a', a'', ↓reduceIte]; rfl
  · rw [if_neg (show ¬ nI 1 = 0 by decide), if_pos (show nI 1 = 1 from rfl), if_neg (show ¬ (1 : Nat) = 0 by decide), if_pos (show (1 : Nat) = 1 from rfl)]
    by_cases a : x = 116
    · simp only [a, ↓reduceIte]; rfl
    · by_cases a' : x = 109
      · simp only [a', ↓reduceIte]; rfl
      · simp only [a, a', ↓reduceIte]; rfl
  · rw [if_neg (show ¬ nI 2 = 0 by decide), if_neg (show ¬ nI 2 = 1 by decide), if_neg (show ¬ (2 : Nat) = 0 by decide), if_neg (show ¬ (2 : Nat) = 1 by decide)]
    by_cases a : x = 112
    · simp only [a, ↓reduceIte]; rfl
    · by_cases a' : x = 115
      · simp only [a', ↓reduceIte]; rfl
      · simp only [a, a', ↓reduceIte]; rfl
theorem m_thing {w : Wd} {b : Nat → Nat} {L e key at' x : Nat} {g : Bool} {st cd : List Nat} (h : Lay w) (hL : L ≤ 96) (he : e ≤ L) (hT : TM w b L) (G : GO w b L e g) (hk : tKd b L e g = 1 ∨ tKd b L e g = 2 ∨ tKd b L e g = 3) (gS : gd st) (hl : st.length + cd.length + 1 ≤ 96) (X : MS w key st cd at') {v : Int32} (hv : v = tokM x) : ∃ w', j_X9_takesPart_87 96 v (nI cd.length) 105 w = some (1, w') ∧ FZ w w' ∧ MS w' key (pnS st) (pnC st (x :: cd)) (at' + 1) ∧ GO w' b L (tTe b L e) (decide (tKd b L e g = 1 ∨ tKd b L e g = 2)) ∧ wI w' 107 = wI w 107 := by
  obtain ⟨x14, x18, x19, x21, xc, xs⟩ := X
  obtain ⟨w1, e1⟩ : ∃ w1, w1 = sI w 105 cd.length v := ⟨_, rfl⟩
  have F1 : FY w w1 := by rw [e1]; exact FY.r _ _ _ (by omega)
  have h1 := F1.1.lay h
  have f1 : wI w1 96 = wI w 96 := by rw [e1]; exact wI_s2 _ _ _ (by decide)
  obtain ⟨w2, e2⟩ : ∃ w2, w2 = sI (sI w1 96 18 (nI (cd.length + 1))) 96 19 (nI (at' + 1)) := ⟨_, rfl⟩
  have F2 : FY w1 w2 := by rw [e2]; exact (FY.s _ _ (by omega)).tr (FY.s _ _ (by omega))
  have h2 := F2.1.lay h1
  have f2 : ∀ j, j ≠ 18 → j ≠ 19 → wI w2 96 j = wI w 96 j := fun j j1 j2 => by rw [e2, wI_sn _ _ (Or.inr j2), wI_sn _ _ (Or.inr j1), f1]
  have X2 : MS w2 key st (x :: cd) (at' + 1) := by
    refine ⟨by rw [f2 14 (by decide) (by decide)]; exact x14, by rw [e2, wI_sn _ _ (Or.inr (by decide)), wI_ss, List.length_cons], by rw [e2, wI_ss], by rw [f2 21 (by decide) (by decide)]; exact x21, ?_, ?_⟩
    · rw [e2, wI_s2 _ _ _ (by decide), wI_s2 _ _ _ (by decide), e1, wI_s1]; exact Rw_p xc hv
    · rw [e2, wI_s2 _ _ _ (by decide), wI_s2 _ _ _ (by decide), e1, wI_s2 _ _ _ (by decide)]; exact xs
  obtain ⟨w3, a1, a2, a3⟩ := m_pn st (x :: cd) FU w2 h2 gS (by unfold FU; omega) (by rw [List.length_cons]; omega) X2
  have F3 := (F1.tr F2).tr a2.y
  have h3 := F3.1.lay h
  obtain ⟨w', b1, b2, b3⟩ := m_next h3 hL he (F3.tm hT) (F3.go G) hk
  refine ⟨w', ?_, F3.z.tr b2.z, b2.ms a3, b3, ?_⟩
  · unfold j_X9_takesPart_87
    have a1' : f_X9_settle 96 6 w2 = some ((), w3) := a1
    have e18 : wI w1 96 18 = nI cd.length := by rw [f1]; exact x18
    have e19 : wI (sI w1 96 18 (nI (cd.length + 1))) 96 19 = nI at' := by rw [wI_sn _ _ (Or.inr (by decide)), f1]; exact x19
    rw [la_105 h (show cd.length < 96 by omega), if_pos rfl, nx_nI (by omega), lb_e, ← e1, lk_96 h1, if_pos rfl, e18, nI_s1, lb_e, e19, nI_s1, lb_e, ← e2, a1', bd2_s, lk_96 h3, if_pos rfl, b1, bd2_s]
  · rw [b2.1.2.2.2.2 107 (by decide), a2.1.2.2.2.2 107 (by unfold Ts_; omega), e2, wI_s2 _ _ _ (by decide), wI_s2 _ _ _ (by decide), e1, wI_s2 _ _ _ (by decide)]
theorem m_part {w : Wd} {b : Nat → Nat} {L e key at' : Nat} {g : Bool} {st cd : List Nat} (h : Lay w) (hL : L ≤ 96) (he : e ≤ L) (hk : key < 3) (hT : TM w b L) (G : GO w b L e g) (hs : tSk b L e < L) (gS : gd st) (hl : st.length + cd.length + 1 ≤ 96) (X : MS w key st cd at') : (∀ y, (tKd b L e g = 1 ∧ tTe b L e - tSk b L e ≤ 4 ∧ y = vlN b (tTe b L e - tSk b L e) (tSk b L e) 0) ∨ (tKd b L e g = 2 ∧ (tTe b L e - tSk b L e = 1 ∧ nmI key (b (tSk b L e)) < 3) ∧ y = 10000 + nmI key (b (tSk b L e))) → ∃ w', f_X9_takesPart 96 w = some (1, w') ∧ FZ w w' ∧ MS w' key (pnS st) (pnC st (y :: cd)) (at' + 1) ∧ GO w' b L (tTe b L e) (decide (tKd b L e g = 1 ∨ tKd b L e g = 2)) ∧ wI w' 107 = wI w 107) ∧ (¬ (tKd b L e g = 1 ∧ tTe b L e - tSk b L e ≤ 4) → ¬ (tKd b L e g = 2 ∧ (tTe b L e - tSk b L e = 1 ∧ nmI key (b (tSk b L e)) < 3)) → f_X9_takesPart 96 w = some (0, w)) := by
  obtain ⟨k5, k0, k2, k1⟩ := kd_lt b L e g
  obtain ⟨t1, t2, t3⟩ := te_b (b := b) he
  obtain ⟨m3, m0, m1, m2, m5⟩ := mT_3 (l := tTe b L e - tSk b L e) k5
  have G0 := G
  obtain ⟨g9, g10, g11, g12, gv, -⟩ := G
  obtain ⟨u1, u2⟩ := hT.2 _ hs
  have q : ∀ y, y < 5 → (nI (mT (tKd b L e g) (tTe b L e - tSk b L e)) = nI y ↔ mT (tKd b L e g) (tTe b L e - tSk b L e) = y) := fun y hy => nI_eq' (by omega) (by omega)
  have n1 : nI (mT (tKd b L e g) (tTe b L e - tSk b L e)) = 1 ↔ tKd b L e g = 2 := (q 1 (by decide)).trans m1
  have n2 : nI (mT (tKd b L e g) (tTe b L e - tSk b L e)) = 2 ↔ (tKd b L e g = 1 ∧ tTe b L e - tSk b L e ≤ 4) := (q 2 (by decide)).trans m2
  have ln : nI (tTe b L e) - nI (tSk b L e) = nI (tTe b L e - tSk b L e) := nI_sub t1
  have x14 := X.1
  have x18 := X.2.1
  have j36 : ¬ (tKd b L e g = 1 ∧ tTe b L e - tSk b L e ≤ 4) → j_X9_takesPart_36 96 w = some (0, w) := fun c => by
    unfold j_X9_takesPart_36 j_X9_takesPart_37
    rw [lk_96 h, if_pos rfl, g11, if_neg (fun z => c (n2.mp z)), if_pos rfl]
  have nmx : f_X9_nameOf 96 (nI (b (tSk b L e))) w = some (if nmI key (b (tSk b L e)) < 3 then nI (nmI key (b (tSk b L e))) else -1, w) := m_name h hk u2 x14
  constructor
  · intro y hy
    rcases hy with ⟨c1, c2, c3⟩ | ⟨c1, c2, c3⟩
    · have c12 : tKd b L e g = 1 ∧ tTe b L e - tSk b L e ≤ 4 := ⟨c1, c2⟩
      have yl : y < 10000 := by
        have := vl_lt (b := b) (tTe b L e - tSk b L e) (tSk b L e) 0 (fun j j1 j2 => (cls_1 (k1 c1 j j1 (by omega))).2)
        have p4 : 10 ^ (tTe b L e - tSk b L e) ≤ 10 ^ 4 := Nat.pow_le_pow_right (by decide) c2
        omega
      obtain ⟨w', a1, a2⟩ := m_thing (x := y) h hL he hT G0 (Or.inl c1) gS hl X (v := nI y) (by rw [tM_n (by omega)])
      refine ⟨w', ?_, a2⟩
      unfold f_X9_takesPart
      rw [lk_96 h, if_pos rfl, g11, if_neg (fun z => by have := n1.mp z; omega)]
      unfold j_X9_takesPart_36 j_X9_takesPart_37
      rw [lk_96 h, if_pos rfl, g11, if_pos (n2.mpr c12)]
      unfold j_X9_takesPart_52
      rw [lk_96 h, if_pos rfl, lr_96_17 h, bd1_s, g11, if_pos (n2.mpr c12), gv c1 c2, x18, ← c3]
      exact a1
    · have tm : ∀ j, j < 3 → 10000 + nI j = tokM (10000 + j) := by decide +kernel
      obtain ⟨w', a1, a2⟩ := m_thing (x := y) h hL he hT G0 (Or.inr (Or.inl c1)) gS hl X (v := 10000 + nI (nmI key (b (tSk b L e)))) (by rw [c3]; exact tm _ c2.2)
      refine ⟨w', ?_, a2⟩
      have nn : ¬ (tKd b L e g = 1 ∧ tTe b L e - tSk b L e ≤ 4) := fun z => by omega
      unfold f_X9_takesPart
      rw [lk_96 h, if_pos rfl, g11, if_pos (n1.mpr c1), g9, g10, ln, if_pos (show nI (tTe b L e - tSk b L e) = 1 by rw [c2.1]; rfl), g12 (Or.inl c1), nmx, bd2_s, if_pos c2.2, if_neg (nI_nlt0 (by omega)), lb_e, lk_96 h, if_pos rfl, g11, if_neg (fun z => nn (n2.mp z)), if_neg (by decide)]
      unfold j_X9_takesPart_52
      rw [lk_96 h, if_pos rfl, lr_96_17 h, bd1_s, g11, if_neg (fun z => nn (n2.mp z)), g12 (Or.inl c1), nmx, bd2_s, if_pos c2.2, x18]
      exact a1
  · intro c1 c2
    unfold f_X9_takesPart
    rw [lk_96 h, if_pos rfl, g11]
    by_cases z2 : tKd b L e g = 2
    · rw [if_pos (n1.mpr z2), g9, g10, ln]
      by_cases z1 : tTe b L e - tSk b L e = 1
      · have nn : ¬ nmI key (b (tSk b L e)) < 3 := fun z => c2 ⟨z2, z1, z⟩
        rw [if_pos (show nI (tTe b L e - tSk b L e) = 1 by rw [z1]; rfl), g12 (Or.inl z2), nmx, bd2_s, if_neg nn, if_pos (by decide), lb_e, lk_96 h, if_pos rfl, g11, if_neg (fun z => c1 (n2.mp z)), if_pos rfl]
      · rw [if_neg (fun z : nI (tTe b L e - tSk b L e) = 1 => z1 (nI_inj (b := 1) (by omega) (by decide) z))]
        exact j36 c1
    · rw [if_neg (fun z => z2 (n1.mp z))]
      exact j36 c1
