/-! TEXTS: the class, piece by piece -/
def Rw (f : Nat → Int32) (row : Nat → Int32) : List Nat → Prop
  | [] => True
  | s :: r => row r.length = f s ∧ Rw f row r
theorem Rw_u {f row : Nat → Int32} {j : Nat} {v : Int32} : ∀ l : List Nat, Rw f row l → l.length ≤ j → Rw f (upd row j v) l := by
  intro l
  induction l with
  | nil => intro _ _; trivial
  | cons s r ih =>
    intro h hj
    rw [List.length_cons] at hj
    exact ⟨by rw [upd_n _ _ (by omega)]; exact h.1, ih h.2 (by omega)⟩
theorem Rw_p {f row : Nat → Int32} {s : Nat} {l : List Nat} (h : Rw f row l) {v : Int32} (hv : v = f s) : Rw f (upd row l.length v) (s :: l) := ⟨by rw [upd_s, hv], Rw_u l h (Nat.le_refl _)⟩
def sgX (s : Nat) : Int32 := nI (if s = 10 then 40 else sgB.getD s 0)
/-- the class's reader stands so -/
def XS (w : Wd) (key : Nat) (st cd : List Nat) (at' : Nat) : Prop := wI w 61 5 = nI key ∧ wI w 61 8 = nI cd.length ∧ wI w 61 9 = nI at' ∧ wI w 61 11 = nI st.length ∧ wI w 61 12 = nI (cnt 10 st) ∧ wI w 61 13 = nI (cnt 9 st) ∧ Rw tokX (wI w 63) cd ∧ Rw sgX (wI w 64) st
def Tx_ (a : Nat) : Prop := a = 61 ∨ a = 63 ∨ a = 64
def FS (w w' : Wd) : Prop := Fr Tx_ w w' ∧ ∀ j, j ≤ 5 → wI w' 61 j = wI w 61 j
theorem FS.rf (w : Wd) : FS w w := ⟨Fr.rf w, fun _ _ => rfl⟩
theorem FS.tr {w w1 w2 : Wd} (h1 : FS w w1) (h2 : FS w1 w2) : FS w w2 := ⟨h1.1.tr h2.1, fun j a => (h2.2 j a).trans (h1.2 j a)⟩
theorem FS.s (w : Wd) {j : Nat} (v : Int32) (hj : 6 ≤ j) : FS w (sI w 61 j v) := ⟨Fr.sI _ _ _ (Or.inl rfl), fun k a => wI_sn _ _ (Or.inr (by omega))⟩
theorem FS.r (w : Wd) {a : Nat} (j : Nat) (v : Int32) (ha : a = 63 ∨ a = 64) : FS w (sI w a j v) := ⟨Fr.sI _ _ _ (Or.inr ha), fun k _ => wI_sn _ _ (Or.inl (by omega))⟩
theorem FS.tb {w w1 : Wd} {b : Nat → Nat} {L : Nat} (h : FS w w1) (t : TB w b L) : TB w1 b L := ⟨by rw [h.2 1 (by decide)]; exact t.1, fun k hk => by rw [h.1.2.2.2.2 62 (by unfold Tx_; omega)]; exact t.2 k hk⟩
theorem x_write {w : Wd} {n : Nat} (h : Lay w) (hn : n < 96) (e : wI w 61 8 = nI n) (v : Int32) : f_X6_write 61 v w = some ((), sI (sI w 63 n v) 61 8 (nI (n + 1))) := by
  have e5 : wI (sI w 63 n v) 61 8 = nI n := by rw [wI_s2 _ _ _ (by decide)]; exact e
  unfold f_X6_write
  rw [lk_61 h, if_pos rfl, e, show (96 : Int32) = nI 96 from rfl, if_neg (fun q => by have := (nI_le' (by omega) (by omega)).mp q; omega), lr_61_7 h, bd1_s, la_63 h hn, if_pos rfl, nx_nI (by omega)]
  simp only [lb_e, e5, nI_s1]
theorem x_hold {w : Wd} {n : Nat} (h : Lay w) (hn : n < 96) (e : wI w 61 11 = nI n) (v : Int32) : f_X6_hold 61 v w = some ((), sI (sI w 64 n v) 61 11 (nI (n + 1))) := by
  have e5 : wI (sI w 64 n v) 61 11 = nI n := by rw [wI_s2 _ _ _ (by decide)]; exact e
  unfold f_X6_hold
  rw [lk_61 h, if_pos rfl, e, show (96 : Int32) = nI 96 from rfl, if_neg (fun q => by have := (nI_le' (by omega) (by omega)).mp q; omega), lr_61_10 h, bd1_s, la_64 h hn, if_pos rfl, nx_nI (by omega)]
  simp only [lb_e, e5, nI_s1]
/-- a sign held, a step written -/
theorem XS.hold {w : Wd} {key at' s : Nat} {st cd : List Nat} (X : XS w key st cd at') {v : Int32} (hv : v = sgX s) (h10 : wI w 61 12 = nI (cnt 10 (s :: st))) (h9 : wI w 61 13 = nI (cnt 9 (s :: st))) : XS (sI (sI w 64 st.length v) 61 11 (nI (st.length + 1))) key (s :: st) cd at' := by
  obtain ⟨x5, x8, x9, x11, x12, x13, xc, xs⟩ := X
  have e : ∀ j, j ≠ 11 → wI (sI (sI w 64 st.length v) 61 11 (nI (st.length + 1))) 61 j = wI w 61 j := fun j hj => by rw [wI_sn _ _ (Or.inr hj), wI_s2 _ _ _ (by decide)]
  refine ⟨by rw [e 5 (by decide)]; exact x5, by rw [e 8 (by decide)]; exact x8, by rw [e 9 (by decide)]; exact x9, by rw [wI_ss, List.length_cons], by rw [e 12 (by decide)]; exact h10, by rw [e 13 (by decide)]; exact h9, ?_, ?_⟩
  · rw [wI_s2 _ _ _ (by decide), wI_s2 _ _ _ (by decide)]; exact xc
  · rw [wI_s2 _ _ _ (by decide), wI_s1]; exact Rw_p xs hv
theorem x_pn {key at' : Nat} : ∀ (st cd : List Nat) (n : Nat) (w : Wd), Lay w → gd st → st.length < n → st.length + cd.length ≤ 96 → XS w key st cd at' → ∃ w', L_X6_pieceStands_5 n 61 w = some ((), w') ∧ FS w w' ∧ XS w' key (pnS st) (pnC st cd) at' ∧ wI w' 61 6 = wI w 61 6 := by
  intro st
  induction st with
  | nil =>
    intro cd n w h _ hn hl X
    obtain ⟨n, rfl⟩ : ∃ k, n = k + 1 := ⟨n - 1, by omega⟩
    refine ⟨w, ?_, FS.rf w, X, rfl⟩
    unfold L_X6_pieceStands_5
    rw [lk_61 h, if_pos rfl, X.2.2.2.1, if_pos (by decide)]
  | cons s r ih =>
    intro cd n w h g hn hl X
    obtain ⟨n, rfl⟩ : ∃ k, n = k + 1 := ⟨n - 1, by omega⟩
    obtain ⟨x5, x8, x9, x11, x12, x13, xc, xs⟩ := X
    rw [List.length_cons] at hn hl x11
    have g1 := g.1
    have sx : ∀ s, s ≤ 10 → (sgX s = 33 ↔ s = 9) := by decide +kernel
    rw [show L_X6_pieceStands_5 (n + 1) 61 w = _ from by unfold L_X6_pieceStands_5; rfl, lk_61 h, if_pos rfl, x11, if_neg (fun q : nI (r.length + 1) ≤ 0 => by have := (nI_le' (b := 0) (by omega) (by omega)).mp q; omega), pr_nI (by omega), Nat.add_sub_cancel, lr_61_10 h, bd1_s, la_64 h (show r.length < 96 by omega), if_pos rfl, nx_nI (by omega), xs.1, pnS, pnC]
    by_cases c : s = 9
    · rw [if_pos ((sx s g1).mpr c), if_pos c, if_pos c]
      obtain ⟨w2, e2⟩ : ∃ w2, w2 = sI (sI w 61 11 (nI r.length)) 61 13 (nI (cnt 9 r)) := ⟨_, rfl⟩
      have F2 : FS w w2 := by rw [e2]; exact (FS.s _ _ (by decide)).tr (FS.s _ _ (by decide))
      have h2 := F2.1.lay h
      have k13 : wI (sI w 61 11 (nI r.length)) 61 13 - 1 = nI (cnt 9 r) := by
        rw [wI_sn _ _ (Or.inr (by decide)), x13, cnt, if_pos c, pr_nI (by omega), Nat.add_comm, Nat.add_sub_cancel]
      have f2 : ∀ j, j ≠ 11 → j ≠ 13 → wI w2 61 j = wI w 61 j := fun j j1 j2 => by rw [e2, wI_sn _ _ (Or.inr j2), wI_sn _ _ (Or.inr j1)]
      have X2 : XS (sI (sI w2 63 cd.length (-33)) 61 8 (nI (cd.length + 1))) key r (20009 :: cd) at' := by
        have e : ∀ j, j ≠ 8 → wI (sI (sI w2 63 cd.length (-33)) 61 8 (nI (cd.length + 1))) 61 j = wI w2 61 j := fun j hj => by rw [wI_sn _ _ (Or.inr hj), wI_s2 _ _ _ (by decide)]
        refine ⟨by rw [e 5 (by decide), f2 5 (by decide) (by decide)]; exact x5, by rw [wI_ss, List.length_cons], by rw [e 9 (by decide), f2 9 (by decide) (by decide)]; exact x9, by rw [e 11 (by decide), e2, wI_sn _ _ (Or.inr (by decide)), wI_ss], ?_, by rw [e 13 (by decide), e2, wI_ss], ?_, ?_⟩
        · rw [e 12 (by decide), f2 12 (by decide) (by decide), x12, cnt, if_neg (by omega), Nat.zero_add]
        · rw [wI_s2 _ _ _ (by decide), wI_s1, e2, wI_s2 _ _ _ (by decide), wI_s2 _ _ _ (by decide)]
          exact Rw_p xc (by decide)
        · rw [wI_s2 _ _ _ (by decide), wI_s2 _ _ _ (by decide), e2, wI_s2 _ _ _ (by decide), wI_s2 _ _ _ (by decide)]
          exact xs.2
      have F3 : FS w2 (sI (sI w2 63 cd.length (-33)) 61 8 (nI (cd.length + 1))) := (FS.r _ _ _ (Or.inl rfl)).tr (FS.s _ _ (by decide))
      have wr := x_write h2 (show cd.length < 96 by omega) (by rw [f2 8 (by decide) (by decide)]; exact x8) (-33)
      simp only [lb_e, k13, ← e2, wr, bd2_s]
      obtain ⟨w', a1, a2, a3, a4⟩ := ih (20009 :: cd) n _ (F3.1.lay h2) g.2.2 (by omega) (by rw [List.length_cons]; omega) X2
      refine ⟨w', a1, (F2.tr F3).tr a2, a3, ?_⟩
      rw [a4, wI_sn _ _ (Or.inr (by decide)), wI_s2 _ _ _ (by decide), f2 6 (by decide) (by decide)]
    · rw [if_neg (fun q => c ((sx s g1).mp q)), if_neg c, if_neg c]
      refine ⟨w, rfl, FS.rf w, ⟨x5, x8, x9, ?_, x12, x13, xc, xs⟩, rfl⟩
      rw [List.length_cons]; exact x11
theorem x_tight : ∀ s, s ≤ 8 → ∀ w, f_X6_tightnessOf (sgX s) w = some (nI (rkS s), w) := by
  intro s hs w
  rcases (show s = 0 ∨ s = 1 ∨ s = 2 ∨ s = 3 ∨ s = 4 ∨ s = 5 ∨ s = 6 ∨ s = 7 ∨ s = 8 by omega) with q | q | q | q | q | q | q | q | q <;> subst q <;> rfl
theorem x_sl {key at' t : Nat} (ht : t ≤ 5) : ∀ (st cd : List Nat) (n : Nat) (w : Wd), Lay w → gd st → hdN st ≠ 9 → st.length < n → st.length + cd.length ≤ 96 → XS w key st cd at' → ∃ w', L_X6_settle_0 n 61 (nI t) w = some ((), w') ∧ FS w w' ∧ XS w' key (slS t st) (slC t st cd) at' ∧ wI w' 61 6 = wI w 61 6 := by
  intro st
  induction st with
  | nil =>
    intro cd n w h _ _ hn hl X
    obtain ⟨n, rfl⟩ : ∃ k, n = k + 1 := ⟨n - 1, by omega⟩
    refine ⟨w, ?_, FS.rf w, X, rfl⟩
    unfold L_X6_settle_0
    rw [lk_61 h, if_pos rfl, X.2.2.2.1, if_pos (by decide)]
  | cons s r ih =>
    intro cd n w h g hh hn hl X
    obtain ⟨n, rfl⟩ : ∃ k, n = k + 1 := ⟨n - 1, by omega⟩
    obtain ⟨x5, x8, x9, x11, x12, x13, xc, xs⟩ := X
    rw [List.length_cons] at hn hl x11
    have g1 := g.1
    have s9 : ¬ s = 9 := hh
    have sx : ∀ s, s ≤ 10 → (sgX s = 40 ↔ s = 10) := by decide +kernel
    have nx8 : ∀ s, s ≤ 8 → -(sgX s) = tokX (20000 + s) := by decide +kernel
    have rk5 : ∀ s, s ≤ 8 → rkS s ≤ 5 := by decide
    rw [show L_X6_settle_0 (n + 1) 61 (nI t) w = _ from by unfold L_X6_settle_0; rfl, lk_61 h, if_pos rfl, x11, if_neg (fun q : nI (r.length + 1) ≤ 0 => by have := (nI_le' (b := 0) (by omega) (by omega)).mp q; omega), pr_nI (by omega), Nat.add_sub_cancel, lr_61_10 h, bd1_s, la_64 h (show r.length < 96 by omega), if_pos rfl, nx_nI (by omega), xs.1, slS, slC]
    have keep : ∃ w', some ((), w) = some ((), w') ∧ FS w w' ∧ XS w' key (s :: r) cd at' ∧ wI w' 61 6 = wI w 61 6 := by
      refine ⟨w, rfl, FS.rf w, ⟨x5, x8, x9, ?_, x12, x13, xc, xs⟩, rfl⟩
      rw [List.length_cons]; exact x11
    by_cases c : s = 10
    · rw [if_pos ((sx s g1).mpr c), if_neg (fun q => by omega), if_neg (fun q => by omega)]
      exact keep
    · have s8 : s ≤ 8 := by omega
      rw [if_neg (fun q => c ((sx s g1).mp q)), bd1_s, la_64 h (show r.length < 96 by omega), if_pos rfl, xs.1, x_tight s s8, bd2_s]
      have r5 := rk5 s s8
      by_cases y : t ≤ rkS s
      · rw [if_neg (fun q => by have := (nI_lt' (by omega) (by omega)).mp q; omega), if_pos (show s ≤ 8 ∧ t ≤ rkS s from ⟨s8, y⟩), if_pos (show s ≤ 8 ∧ t ≤ rkS s from ⟨s8, y⟩), if_pos (lk_61 h), x11, pr_nI (by omega), Nat.add_sub_cancel]
        obtain ⟨w2, e2⟩ : ∃ w2, w2 = sI w 61 11 (nI r.length) := ⟨_, rfl⟩
        have F2 : FS w w2 := by rw [e2]; exact FS.s _ _ (by decide)
        have h2 := F2.1.lay h
        have f2 : ∀ j, j ≠ 11 → wI w2 61 j = wI w 61 j := fun j j1 => by rw [e2, wI_sn _ _ (Or.inr j1)]
        have f211 : wI w2 61 11 = nI r.length := by rw [e2, wI_ss]
        have f64 : wI w2 64 = wI w 64 := by rw [e2, wI_s2 _ _ _ (by decide)]
        have X2 : XS (sI (sI w2 63 cd.length (-(sgX s))) 61 8 (nI (cd.length + 1))) key r ((20000 + s) :: cd) at' := by
          have e : ∀ j, j ≠ 8 → wI (sI (sI w2 63 cd.length (-(sgX s))) 61 8 (nI (cd.length + 1))) 61 j = wI w2 61 j := fun j hj => by rw [wI_sn _ _ (Or.inr hj), wI_s2 _ _ _ (by decide)]
          refine ⟨by rw [e 5 (by decide), f2 5 (by decide)]; exact x5, by rw [wI_ss, List.length_cons], by rw [e 9 (by decide), f2 9 (by decide)]; exact x9, by rw [e 11 (by decide), f211], ?_, ?_, ?_, ?_⟩
          · rw [e 12 (by decide), f2 12 (by decide), x12, cnt, if_neg c, Nat.zero_add]
          · rw [e 13 (by decide), f2 13 (by decide), x13, cnt, if_neg s9, Nat.zero_add]
          · rw [wI_s2 _ _ _ (by decide), wI_s1, e2, wI_s2 _ _ _ (by decide)]
            exact Rw_p xc (nx8 s s8)
          · rw [wI_s2 _ _ _ (by decide), wI_s2 _ _ _ (by decide), f64]
            exact xs.2
        have F3 : FS w2 (sI (sI w2 63 cd.length (-(sgX s))) 61 8 (nI (cd.length + 1))) := (FS.r _ _ _ (Or.inl rfl)).tr (FS.s _ _ (by decide))
        have wr := x_write h2 (show cd.length < 96 by omega) (by rw [f2 8 (by decide)]; exact x8) (-(sgX s))
        have xr : wI w2 64 r.length = sgX s := by rw [f64]; exact xs.1
        simp only [lb_e, ← e2, lr_61_10 h2, bd1_s, f211, la_64 h2 (show r.length < 96 by omega), ↓reduceIte, nx_nI (show r.length < 2 ^ 31 by omega), xr, wr, bd2_s]
        obtain ⟨w', a1, a2, a3, a4⟩ := ih ((20000 + s) :: cd) n _ (F3.1.lay h2) g.2.2 (g.2.1 s8).1 (by omega) (by rw [List.length_cons]; omega) X2
        refine ⟨w', a1, (F2.tr F3).tr a2, a3, ?_⟩
        rw [a4, wI_sn _ _ (Or.inr (by decide)), wI_s2 _ _ _ (by decide), f2 6 (by decide)]
      · rw [if_pos ((nI_lt' (by omega) (by omega)).mpr (by omega)), if_neg (fun q => y q.2), if_neg (fun q => y q.2)]
        exact keep
/-- a thing is written -/
theorem x_thing {w : Wd} {key at' x : Nat} {st cd : List Nat} (h : Lay w) (g : gd st) (hl : st.length + cd.length + 1 ≤ 96) (X : XS w key st cd at') {v : Int32} (hv : v = tokX x) : ∃ w', f_X6_writeThing 61 v w = some ((), w') ∧ FS w w' ∧ XS w' key (pnS st) (pnC st (x :: cd)) (at' + 1) ∧ wI w' 61 6 = 0 := by
  obtain ⟨x5, x8, x9, x11, x12, x13, xc, xs⟩ := X
  obtain ⟨w2, e2⟩ : ∃ w2, w2 = sI w 61 9 (nI (at' + 1)) := ⟨_, rfl⟩
  have F2 : FS w w2 := by rw [e2]; exact FS.s _ _ (by decide)
  have h2 := F2.1.lay h
  have f2 : ∀ j, j ≠ 9 → wI w2 61 j = wI w 61 j := fun j j1 => by rw [e2, wI_sn _ _ (Or.inr j1)]
  obtain ⟨w3, e3⟩ : ∃ w3, w3 = sI (sI w2 63 cd.length v) 61 8 (nI (cd.length + 1)) := ⟨_, rfl⟩
  have F3 : FS w2 w3 := by rw [e3]; exact (FS.r _ _ _ (Or.inl rfl)).tr (FS.s _ _ (by decide))
  have h3 := F3.1.lay h2
  have f3 : ∀ j, j ≠ 8 → wI w3 61 j = wI w2 61 j := fun j j1 => by rw [e3, wI_sn _ _ (Or.inr j1), wI_s2 _ _ _ (by decide)]
  have wr := x_write h2 (show cd.length < 96 by omega) (by rw [f2 8 (by decide)]; exact x8) v
  rw [← e3] at wr
  obtain ⟨w4, e4⟩ : ∃ w4, w4 = sI w3 61 6 0 := ⟨_, rfl⟩
  have F4 : FS w3 w4 := by rw [e4]; exact FS.s _ _ (by decide)
  have h4 := F4.1.lay h3
  have f4 : ∀ j, j ≠ 6 → wI w4 61 j = wI w3 61 j := fun j j1 => by rw [e4, wI_sn _ _ (Or.inr j1)]
  have X4 : XS w4 key st (x :: cd) (at' + 1) := by
    refine ⟨by rw [f4 5 (by decide), f3 5 (by decide), f2 5 (by decide)]; exact x5, by rw [f4 8 (by decide), e3, wI_ss, List.length_cons], by rw [f4 9 (by decide), f3 9 (by decide), e2, wI_ss], by rw [f4 11 (by decide), f3 11 (by decide), f2 11 (by decide)]; exact x11, by rw [f4 12 (by decide), f3 12 (by decide), f2 12 (by decide)]; exact x12, by rw [f4 13 (by decide), f3 13 (by decide), f2 13 (by decide)]; exact x13, ?_, ?_⟩
    · rw [e4, wI_s2 _ _ _ (by decide), e3, wI_s2 _ _ _ (by decide), wI_s1, e2, wI_s2 _ _ _ (by decide)]
      exact Rw_p xc hv
    · rw [e4, wI_s2 _ _ _ (by decide), e3, wI_s2 _ _ _ (by decide), wI_s2 _ _ _ (by decide), e2, wI_s2 _ _ _ (by decide)]
      exact xs
  obtain ⟨w', a1, a2, a3, a4⟩ := x_pn st (x :: cd) FU w4 h4 g (by unfold FU; omega) (by rw [List.length_cons]; omega) X4
  refine ⟨w', ?_, ((F2.tr F3).tr F4).tr a2, a3, by rw [a4, e4, wI_ss]⟩
  simp only [f_X6_writeThing, lk_61 h, ↓reduceIte, x9, nI_s1, lb_e, ← e2, wr, bd2_s, lk_61 h3, f_X6_pieceStands, ← e4, a1]
