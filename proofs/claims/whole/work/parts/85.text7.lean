/-! TEXTS: the reference reads a tape -/
def TM (w : Wd) (b : Nat → Nat) (L : Nat) : Prop := wI w 96 8 = nI L ∧ ∀ k, k < L → wI w 102 k = nI (b k) ∧ b k < 256
def FE (w w' : Wd) : Prop := Fr (fun a => a = 96) w w' ∧ ∀ j, j < 9 ∨ 13 < j → wI w' 96 j = wI w 96 j
theorem FE.rf (w : Wd) : FE w w := ⟨Fr.rf w, fun _ _ => rfl⟩
theorem FE.tr {w w1 w2 : Wd} (h1 : FE w w1) (h2 : FE w1 w2) : FE w w2 := ⟨h1.1.tr h2.1, fun j a => (h2.2 j a).trans (h1.2 j a)⟩
theorem FE.s (w : Wd) {j : Nat} (v : Int32) (hj : 9 ≤ j ∧ j ≤ 13) : FE w (sI w 96 j v) := ⟨Fr.sI _ _ _ rfl, fun k a => wI_sn _ _ (Or.inr (by omega))⟩
theorem FE.tm {w w1 : Wd} {b : Nat → Nat} {L : Nat} (h : FE w w1) (t : TM w b L) : TM w1 b L := ⟨by rw [h.2 8 (by omega)]; exact t.1, fun k hk => by rw [h.1.2.2.2.2 102 (by decide)]; exact t.2 k hk⟩
theorem m_letter {b : Nat → Nat} {L k : Nat} {w : Wd} (h : Lay w) (hL : L ≤ 96) (hT : TM w b L) (hk : k ≤ L) : f_X9_isLetter 96 (nI k) w = some (if k < L ∧ cls (b k) = 2 then 1 else 0, w) := by
  unfold f_X9_isLetter
  rw [lk_96 h, if_pos rfl, hT.1]
  by_cases c : k < L
  · obtain ⟨t1, t2⟩ := hT.2 k c
    rw [if_neg (fun q => by have := (nI_le' (by omega) (by omega)).mp q; omega), lr_96_7 h, bd1_s, la_102 h (show k < 96 by omega), if_pos rfl, nx_nI (by omega), t1, bd1_s, la_102 h (show k < 96 by omega), if_pos rfl, t1, show (97 : Int32) = nI 97 from rfl, show (122 : Int32) = nI 122 from rfl]
    unfold cls
    by_cases d : b k < 97
    · rw [if_pos ((nI_lt' (by omega) (by omega)).mpr d), if_neg (show ¬ (97 ≤ b k ∧ b k ≤ 122) by omega)]
      by_cases d2 : 48 ≤ b k ∧ b k ≤ 57
      · rw [if_pos d2, if_neg (fun q => by cases q.2)]
      · rw [if_neg d2, if_neg (fun q => by cases q.2)]
    · rw [if_neg (fun q => d ((nI_lt' (by omega) (by omega)).mp q))]
      by_cases d1 : 122 < b k
      · rw [if_pos ((nI_lt' (by omega) (by omega)).mpr d1), if_neg (show ¬ (97 ≤ b k ∧ b k ≤ 122) by omega), if_neg (show ¬ (48 ≤ b k ∧ b k ≤ 57) by omega), if_neg (fun q => by cases q.2)]
      · rw [if_neg (fun q => d1 ((nI_lt' (by omega) (by omega)).mp q)), if_pos (show 97 ≤ b k ∧ b k ≤ 122 by omega), if_pos ⟨c, rfl⟩]
  · rw [if_pos ((nI_le' (by omega) (by omega)).mpr (by omega)), if_neg (fun q => c q.1)]
theorem m_figure {b : Nat → Nat} {L k : Nat} {w : Wd} (h : Lay w) (hL : L ≤ 96) (hT : TM w b L) (hk : k ≤ L) : f_X9_isFigure 96 (nI k) w = some (if k < L ∧ cls (b k) = 1 then 1 else 0, w) := by
  unfold f_X9_isFigure
  rw [lk_96 h, if_pos rfl, hT.1]
  by_cases c : k < L
  · obtain ⟨t1, t2⟩ := hT.2 k c
    rw [if_neg (fun q => by have := (nI_le' (by omega) (by omega)).mp q; omega), lr_96_7 h, bd1_s, la_102 h (show k < 96 by omega), if_pos rfl, nx_nI (by omega), t1, bd1_s, la_102 h (show k < 96 by omega), if_pos rfl, t1, show (48 : Int32) = nI 48 from rfl, show (57 : Int32) = nI 57 from rfl]
    unfold cls
    by_cases d : b k < 48
    · rw [if_pos ((nI_lt' (by omega) (by omega)).mpr d), if_neg (show ¬ (97 ≤ b k ∧ b k ≤ 122) by omega), if_neg (show ¬ (48 ≤ b k ∧ b k ≤ 57) by omega), if_neg (fun q => by cases q.2)]
    · rw [if_neg (fun q => d ((nI_lt' (by omega) (by omega)).mp q))]
      by_cases d1 : 57 < b k
      · rw [if_pos ((nI_lt' (by omega) (by omega)).mpr d1)]
        by_cases d2 : 97 ≤ b k ∧ b k ≤ 122
        · rw [if_pos d2, if_neg (fun q => by cases q.2)]
        · rw [if_neg d2, if_neg (show ¬ (48 ≤ b k ∧ b k ≤ 57) by omega), if_neg (fun q => by cases q.2)]
      · rw [if_neg (fun q => d1 ((nI_lt' (by omega) (by omega)).mp q)), if_neg (show ¬ (97 ≤ b k ∧ b k ≤ 122) by omega), if_pos (show 48 ≤ b k ∧ b k ≤ 57 by omega), if_pos ⟨c, rfl⟩]
  · rw [if_pos ((nI_le' (by omega) (by omega)).mpr (by omega)), if_neg (fun q => c q.1)]
theorem vl_s (b : Nat → Nat) : ∀ m s a, vlN b (m + 1) s a = vlN b m s a * 10 + b (s + m) - 48 := by
  intro m
  induction m with
  | zero => intro s a; rfl
  | succ m ih =>
    intro s a
    rw [vlN, ih, show s + 1 + m = s + (m + 1) by omega]
    rfl
theorem m_l93 {b : Nat → Nat} {L s : Nat} (hL : L ≤ 96) (hs : s < L) (v : Int32) : ∀ n m k (w : Wd), Lay w → TM w b L → k + m = L → m < n → wI w 96 9 = nI k → wI w 96 10 = nI s → ∃ w', L_X9_go_93 n 96 v w = some ((), w') ∧ FE w w' ∧ wI w' 96 9 = nI (tRn b L 2 k) ∧ wI w' 96 10 = nI s ∧ wI w' 96 11 = (if v = 0 then 1 else 4) ∧ wI w' 96 12 = nI (b s) ∧ wI w' 96 13 = nI (tRn b L 2 k) := by
  intro n
  induction n with
  | zero => intro m k w _ _ _ q; omega
  | succ n ih =>
    intro m k w h hT g1 g2 e9 e10
    rw [show L_X9_go_93 (n + 1) 96 v w = _ from by unfold L_X9_go_93; rfl, lk_96 h, if_pos rfl, e9, m_letter h hL hT (by omega), bd2_s]
    by_cases c : k < L ∧ cls (b k) = 2
    · rw [if_pos c, if_neg (by decide), lk_96 h, if_pos rfl, lb_e, e9, nI_s1]
      obtain ⟨m, rfl⟩ : ∃ j, m = j + 1 := ⟨m - 1, by omega⟩
      obtain ⟨w', a1, a2, a3, a4, a5, a6, a7⟩ := ih m (k + 1) (sI w 96 9 (nI (k + 1))) (h.sI _ _ _) ((FE.s _ _ (by omega)).tm hT) (by omega) (by omega) (wI_ss _ _ _ _) (by rw [wI_sn _ _ (Or.inr (by decide))]; exact e10)
      rw [rn_y c.1 c.2]
      exact ⟨w', a1, (FE.s _ _ (by omega)).tr a2, a3, a4, a5, a6, a7⟩
    · rw [if_neg c, if_pos rfl, lk_96 h, if_pos rfl, rn_n c]
      obtain ⟨w1, ew1⟩ : ∃ w1, w1 = sI w 96 11 (if v = 0 then 1 else 4) := ⟨_, rfl⟩
      have F1 : FE w w1 := by rw [ew1]; exact FE.s _ _ (by omega)
      have h1 := F1.1.lay h
      have T1 := F1.tm hT
      have f1 : ∀ j, j ≠ 11 → wI w1 96 j = wI w 96 j := fun j hj => by rw [ew1]; exact wI_sn _ _ (Or.inr hj)
      obtain ⟨t1, t2⟩ := T1.2 s hs
      rw [lb_e, ← ew1, lr_96_7 h1, bd1_s, f1 10 (by decide), e10, la_102 h1 (show s < 96 by omega), if_pos rfl, nx_nI (by omega), t1, lb_e, lb_e]
      refine ⟨_, rfl, (F1.tr (FE.s _ _ (by omega))).tr (FE.s _ _ (by omega)), ?_, ?_, ?_, ?_, ?_⟩
      · rw [wI_sn _ _ (Or.inr (by decide)), wI_sn _ _ (Or.inr (by decide)), f1 9 (by decide)]; exact e9
      · rw [wI_sn _ _ (Or.inr (by decide)), wI_sn _ _ (Or.inr (by decide)), f1 10 (by decide)]; exact e10
      · rw [wI_sn _ _ (Or.inr (by decide)), wI_sn _ _ (Or.inr (by decide)), ew1, wI_ss]
      · rw [wI_sn _ _ (Or.inr (by decide)), wI_ss]
      · rw [wI_ss, wI_sn _ _ (Or.inr (by decide)), f1 9 (by decide)]; exact e9
theorem m_l170 {b : Nat → Nat} {L s : Nat} (hL : L ≤ 96) (hs : s < L) (v : Int32) : ∀ n m k (w : Wd), Lay w → TM w b L → k + m = L → s ≤ k → m < n → wI w 96 9 = nI k → wI w 96 10 = nI s → (k - s ≤ 4 → wI w 96 12 = nI (vlN b (k - s) s 0)) → ∃ w', L_X9_go_170 n 96 v w = some ((), w') ∧ FE w w' ∧ wI w' 96 9 = nI (tRn b L 1 k) ∧ wI w' 96 10 = nI s ∧ wI w' 96 11 = (if v = 0 then (if tRn b L 1 k - s ≤ 4 then 2 else 4) else 4) ∧ (tRn b L 1 k - s ≤ 4 → wI w' 96 12 = nI (vlN b (tRn b L 1 k - s) s 0)) ∧ wI w' 96 13 = nI (tRn b L 1 k) := by
  intro n
  induction n with
  | zero => intro m k w _ _ _ _ q; omega
  | succ n ih =>
    intro m k w h hT g1 g3 g2 e9 e10 e12
    rw [show L_X9_go_170 (n + 1) 96 v w = _ from by unfold L_X9_go_170; rfl, lk_96 h, if_pos rfl, e9, m_figure h hL hT (by omega), bd2_s]
    by_cases c : k < L ∧ cls (b k) = 1
    · rw [if_pos c, if_neg (by decide), lk_96 h, if_pos rfl, e9, e10, nI_sub g3, show (4 : Int32) = nI 4 from rfl]
      obtain ⟨m, rfl⟩ : ∃ j, m = j + 1 := ⟨m - 1, by omega⟩
      obtain ⟨t1, t2⟩ := hT.2 k c.1
      have c1 := cls_1 c.2
      rw [rn_y c.1 c.2]
      have nxt : ∀ x : Int32, (k + 1 - s ≤ 4 → x = nI (vlN b (k + 1 - s) s 0)) → ∃ w', j_X9_go_222 (L_X9_go_170 n) 96 v x 96 w = some ((), w') ∧ FE w w' ∧ wI w' 96 9 = nI (tRn b L 1 (k + 1)) ∧ wI w' 96 10 = nI s ∧ wI w' 96 11 = (if v = 0 then (if tRn b L 1 (k + 1) - s ≤ 4 then 2 else 4) else 4) ∧ (tRn b L 1 (k + 1) - s ≤ 4 → wI w' 96 12 = nI (vlN b (tRn b L 1 (k + 1) - s) s 0)) ∧ wI w' 96 13 = nI (tRn b L 1 (k + 1)) := fun x hx => by
        have h1 : Lay (sI w 96 12 x) := h.sI _ _ _
        unfold j_X9_go_222
        rw [lk_96 h, if_pos rfl, lb_e, lk_96 h1, if_pos rfl, lb_e, wI_sn _ _ (Or.inr (show (9 : Nat) ≠ 12 by decide)), e9, nI_s1]
        obtain ⟨w', a1, a2, a3⟩ := ih m (k + 1) (sI (sI w 96 12 x) 96 9 (nI (k + 1))) (h1.sI _ _ _) (((FE.s _ _ (by omega)).tr (FE.s _ _ (by omega))).tm hT) (by omega) (by omega) (by omega) (wI_ss _ _ _ _) (by rw [wI_sn _ _ (Or.inr (by decide)), wI_sn _ _ (Or.inr (by decide))]; exact e10) (fun q => by rw [wI_sn _ _ (Or.inr (by decide)), wI_ss]; exact hx q)
        exact ⟨w', a1, ((FE.s _ _ (by omega)).tr (FE.s _ _ (by omega))).tr a2, a3⟩
      by_cases d : 4 ≤ k - s
      · rw [if_pos ((nI_le' (by omega) (by omega)).mpr d)]
        exact nxt _ (fun q => by omega)
      · rw [if_neg (fun q => d ((nI_le' (by omega) (by omega)).mp q)), lr_96_7 h, bd1_s, la_102 h (show k < 96 by omega), if_pos rfl, nx_nI (by omega), t1]
        refine nxt _ (fun q => ?_)
        rw [e12 (by omega), show k + 1 - s = (k - s) + 1 by omega, vl_s, show s + (k - s) = k by omega, show (10 : Int32) = nI 10 from rfl, show (48 : Int32) = nI 48 from rfl, nI_mul, nI_add, nI_sub (by omega), Nat.mul_comm]
    · rw [if_neg c, if_pos rfl, rn_n c]
      have e12' : ∀ w1, wI w1 96 12 = wI w 96 12 → (k - s ≤ 4 → wI w1 96 12 = nI (vlN b (k - s) s 0)) := fun w1 q q' => by rw [q]; exact e12 q'
      by_cases z : v = 0
      · rw [if_pos z, if_pos z, lk_96 h, if_pos rfl, e9, e10, nI_sub g3, lb_e, lb_e]
        refine ⟨_, rfl, (FE.s _ _ (by omega)).tr (FE.s _ _ (by omega)), ?_, ?_, ?_, e12' _ ?_, ?_⟩
        · rw [wI_sn _ _ (Or.inr (by decide)), wI_sn _ _ (Or.inr (by decide))]; exact e9
        · rw [wI_sn _ _ (Or.inr (by decide)), wI_sn _ _ (Or.inr (by decide))]; exact e10
        · rw [wI_sn _ _ (Or.inr (by decide)), wI_ss]
          by_cases y : k - s ≤ 4
          · rw [if_pos y, if_pos (show nI (k - s) ≤ 4 from (nI_le' (b := 4) (by omega) (by omega)).mpr y)]
          · rw [if_neg y, if_neg (fun q : nI (k - s) ≤ 4 => y ((nI_le' (b := 4) (by omega) (by omega)).mp q))]
        · rw [wI_sn _ _ (Or.inr (by decide)), wI_sn _ _ (Or.inr (by decide))]
        · rw [wI_ss, wI_sn _ _ (Or.inr (by decide))]; exact e9
      · have h1 : Lay (sI w 96 11 4) := h.sI _ _ _
        rw [if_neg z, if_neg z]
        unfold j_X9_go_256 j_X9_go_261
        rw [lk_96 h, if_pos rfl, lb_e, lk_96 h1, if_pos rfl, lb_e]
        refine ⟨_, rfl, (FE.s _ _ (by omega)).tr (FE.s _ _ (by omega)), ?_, ?_, ?_, e12' _ ?_, ?_⟩
        · rw [wI_sn _ _ (Or.inr (by decide)), wI_sn _ _ (Or.inr (by decide))]; exact e9
        · rw [wI_sn _ _ (Or.inr (by decide)), wI_sn _ _ (Or.inr (by decide))]; exact e10
        · rw [wI_sn _ _ (Or.inr (by decide)), wI_ss]
        · rw [wI_sn _ _ (Or.inr (by decide)), wI_sn _ _ (Or.inr (by decide))]
        · rw [wI_ss, wI_sn _ _ (Or.inr (by decide))]; exact e9
/-- the reference's token -/
def mT (k l : Nat) : Nat := if k = 0 then 0 else if k = 1 then (if l ≤ 4 then 2 else 4) else if k = 2 then 1 else if k = 3 then 3 else 4
def GO (w : Wd) (b : Nat → Nat) (L e : Nat) (g : Bool) : Prop := wI w 96 9 = nI (tTe b L e) ∧ wI w 96 10 = nI (tSk b L e) ∧ wI w 96 11 = nI (mT (tKd b L e g) (tTe b L e - tSk b L e)) ∧ (tKd b L e g = 2 ∨ tKd b L e g = 3 → wI w 96 12 = nI (b (tSk b L e))) ∧ (tKd b L e g = 1 → tTe b L e - tSk b L e ≤ 4 → wI w 96 12 = nI (vlN b (tTe b L e - tSk b L e) (tSk b L e) 0)) ∧ (tKd b L e g = 1 ∨ tKd b L e g = 2 ∨ tKd b L e g = 3 → ∀ s, tTe b L e ≤ s → s ≤ L → (nI s = wI w 96 13 ↔ (decide (tKd b L e g = 1 ∨ tKd b L e g = 2) = true ∧ s = tTe b L e)))
theorem m_go {w : Wd} {b : Nat → Nat} {L e : Nat} {g : Bool} (h : Lay w) (hL : L ≤ 96) (he : e ≤ L) (hT : TM w b L) (e9 : wI w 96 9 = nI e) (hE : ∀ s, e ≤ s → s ≤ L → (nI s = wI w 96 13 ↔ (g = true ∧ s = e))) : ∃ w', f_X9_go 96 w = some ((), w') ∧ FE w w' ∧ GO w' b L e g := by
  have J38 : ∀ s (w1 : Wd), Lay w1 → TM w1 b L → e ≤ s → s ≤ L → wI w1 96 9 = nI s → wI w1 96 13 = wI w 96 13 → tSk b L e = s → ∃ w', j_X9_go_38 96 w1 = some ((), w') ∧ FE w1 w' ∧ GO w' b L e g := by
    intro s w1 h1 T1 s1 s2 e91 e131 es
    obtain ⟨w3, ew3⟩ : ∃ w3, w3 = sI w1 96 10 (nI s) := ⟨_, rfl⟩
    have F3 : FE w1 w3 := by rw [ew3]; exact FE.s _ _ (by omega)
    have h3 := F3.1.lay h1
    have T3 := F3.tm T1
    have f3 : ∀ j, j ≠ 10 → wI w3 96 j = wI w1 96 j := fun j hj => by rw [ew3]; exact wI_sn _ _ (Or.inr hj)
    have e103 : wI w3 96 10 = nI s := by rw [ew3, wI_ss]
    have e133 : wI w3 96 13 = wI w 96 13 := by rw [f3 13 (by decide)]; exact e131
    have e93 : wI w3 96 9 = nI s := by rw [f3 9 (by decide)]; exact e91
    have cl := hE s s1 s2
    unfold j_X9_go_38
    rw [lk_96 h1, if_pos rfl, e91, lb_e, ← ew3, lb_e, e103, e133, T3.1]
    have kd : tKd b L e g = if L ≤ s then 0 else if cls (b s) = 3 then 3 else if g = true ∧ s = e then 4 else cls (b s) := by unfold tKd; rw [es]
    have te : tTe b L e = if L ≤ s then s else if cls (b s) = 3 then s + 1 else tRn b L (cls (b s)) (s + 1) := by unfold tTe; rw [es]
    by_cases c : s = L
    · rw [if_pos (show nI s = nI L by rw [c]), lb_e]
      rw [if_pos (show L ≤ s by omega)] at kd te
      refine ⟨_, rfl, F3.tr (FE.s _ _ (by omega)), ?_, ?_, ?_, ?_, ?_, ?_⟩
      · rw [wI_sn _ _ (Or.inr (by decide)), te]; exact e93
      · rw [wI_sn _ _ (Or.inr (by decide)), es]; exact e103
      · rw [wI_ss, kd]; rfl
      · rw [kd]; intro q; omega
      · rw [kd]; intro q; omega
      · rw [kd]; intro q; omega
    · have sl : s < L := by omega
      have c4 := cls_lt (b s)
      obtain ⟨t1, t2⟩ := T3.2 s sl
      rw [if_neg (fun q => c (nI_inj (by omega) (by omega) q)), m_letter h3 hL T3 s2, bd2_s]
      rw [if_neg (show ¬ L ≤ s by omega)] at kd te
      have ecl : (if nI s = wI w 96 13 then (1 : Int32) else 0) = if g = true ∧ s = e then 1 else 0 := by
        by_cases z : g = true ∧ s = e
        · rw [if_pos z, if_pos (cl.mpr z)]
        · rw [if_neg z, if_neg (fun q => z (cl.mp q))]
      rw [ecl]
      by_cases k2 : cls (b s) = 2
      · rw [if_pos (show s < L ∧ cls (b s) = 2 from ⟨sl, k2⟩), if_neg (by decide)]
        rw [k2, if_neg (by decide)] at kd te
        obtain ⟨w', a1, a2, a3, a4, a5, a6, a7⟩ := m_l93 hL sl (if g = true ∧ s = e then 1 else 0) FU (L - s) s w3 h3 T3 (by omega) (by unfold FU; omega) e93 e103
        rw [rn_y sl k2, ← te] at a3 a7
        refine ⟨w', a1, F3.tr a2, a3, by rw [es]; exact a4, ?_, ?_, ?_, ?_⟩
        · rw [a5, kd]
          by_cases z : g = true ∧ s = e
          · rw [if_pos z, if_pos z, if_neg (by decide)]; rfl
          · rw [if_neg z, if_neg z, if_pos rfl]; rfl
        · intro _; rw [es]; exact a6
        · intro q
          rw [kd] at q
          by_cases z : g = true ∧ s = e
          · rw [if_pos z] at q; omega
          · rw [if_neg z] at q; omega
        · intro q x x1 x2
          have z : ¬ (g = true ∧ s = e) := fun z => by rw [kd, if_pos z] at q; omega
          rw [kd, if_neg z, a7]
          constructor
          · intro y; exact ⟨by decide, nI_inj (by omega) (by omega) y⟩
          · intro y; rw [y.2]
      · rw [if_neg (fun q : s < L ∧ cls (b s) = 2 => k2 q.2), if_pos rfl, lk_96 h3, if_pos rfl, e103, m_figure h3 hL T3 s2, bd2_s]
        by_cases k1 : cls (b s) = 1
        · rw [if_pos (show s < L ∧ cls (b s) = 1 from ⟨sl, k1⟩), if_neg (by decide), lk_96 h3, if_pos rfl, lb_e]
          rw [k1, if_neg (by decide)] at kd te
          have h4 : Lay (sI w3 96 12 0) := h3.sI _ _ _
          obtain ⟨w', a1, a2, a3, a4, a5, a6, a7⟩ := m_l170 hL sl (if g = true ∧ s = e then 1 else 0) FU (L - s) s (sI w3 96 12 0) h4 ((FE.s _ _ (by omega)).tm T3) (by omega) (Nat.le_refl _) (by unfold FU; omega) (by rw [wI_sn _ _ (Or.inr (by decide))]; exact e93) (by rw [wI_sn _ _ (Or.inr (by decide))]; exact e103) (fun _ => by rw [wI_ss, Nat.sub_self]; rfl)
          rw [rn_y sl k1, ← te] at a3 a5 a6 a7
          refine ⟨w', a1, (F3.tr (FE.s _ _ (by omega))).tr a2, a3, by rw [es]; exact a4, ?_, ?_, ?_, ?_⟩
          · rw [a5, kd, es]
            by_cases z : g = true ∧ s = e
            · rw [if_pos z, if_pos z, if_neg (by decide)]; rfl
            · rw [if_neg z, if_neg z, if_pos rfl]
              unfold mT
              rw [if_neg (show ¬ (1 : Nat) = 0 by decide), if_pos (show (1 : Nat) = 1 from rfl)]
              by_cases y : tTe b L e - s ≤ 4
              · rw [if_pos y, if_pos y]; rfl
              · rw [if_neg y, if_neg y]; rfl
          · intro q
            rw [kd] at q
            by_cases z : g = true ∧ s = e
            · rw [if_pos z] at q; omega
            · rw [if_neg z] at q; omega
          · intro _ y; rw [es] at y ⊢; exact a6 y
          · intro q x x1 x2
            have z : ¬ (g = true ∧ s = e) := fun z => by rw [kd, if_pos z] at q; omega
            rw [kd, if_neg z, a7]
            constructor
            · intro y; exact ⟨by decide, nI_inj (by omega) (by omega) y⟩
            · intro y; rw [y.2]
        · have k3 : cls (b s) = 3 := by omega
          rw [if_neg (fun q : s < L ∧ cls (b s) = 1 => k1 q.2), if_pos rfl, lk_96 h3, if_pos rfl, lb_e]
          rw [if_pos k3] at kd te
          obtain ⟨w4, ew4⟩ : ∃ w4, w4 = sI w3 96 11 3 := ⟨_, rfl⟩
          have F4 : FE w3 w4 := by rw [ew4]; exact FE.s _ _ (by omega)
          have h4 := F4.1.lay h3
          have T4 := F4.tm T3
          have f4 : ∀ j, j ≠ 11 → wI w4 96 j = wI w3 96 j := fun j hj => by rw [ew4]; exact wI_sn _ _ (Or.inr hj)
          obtain ⟨u1, u2⟩ := T4.2 s sl
          rw [← ew4, lr_96_7 h4, bd1_s, f4 10 (by decide), e103, la_102 h4 (show s < 96 by omega), if_pos rfl, nx_nI (by omega), u1, lb_e, wI_sn _ _ (Or.inr (show (9 : Nat) ≠ 12 by decide)), f4 9 (by decide), e93, nI_s1, lb_e]
          refine ⟨_, rfl, ((F3.tr F4).tr (FE.s _ _ (by omega))).tr (FE.s _ _ (by omega)), ?_, ?_, ?_, ?_, ?_, ?_⟩
          · rw [wI_ss, te]
          · rw [wI_sn _ _ (Or.inr (by decide)), wI_sn _ _ (Or.inr (by decide)), f4 10 (by decide), es]; exact e103
          · rw [wI_sn _ _ (Or.inr (by decide)), wI_sn _ _ (Or.inr (by decide)), ew4, wI_ss, kd]; rfl
          · intro _; rw [wI_sn _ _ (Or.inr (by decide)), wI_ss, es]
          · rw [kd]; intro q; omega
          · intro _ x x1 x2
            rw [te] at x1
            rw [wI_sn _ _ (Or.inr (by decide)), wI_sn _ _ (Or.inr (by decide)), f4 13 (by decide), e133, hE x (by omega) x2, kd]
            constructor
            · intro y; omega
            · intro y; exact absurd y.1 (by decide)
  have L0 : ∀ n m s (w1 : Wd), s + m = L → m < n → Lay w1 → TM w1 b L → e ≤ s → wI w1 96 9 = nI s → wI w1 96 13 = wI w 96 13 → tSk b L e = tSk b L s → ∃ w', L_X9_go_0 n 96 w1 = some ((), w') ∧ FE w1 w' ∧ GO w' b L e g := by
    intro n
    induction n with
    | zero => intro m s w1 _ q; omega
    | succ n ih =>
      intro m s w1 g1 g2 h1 T1 s1 e91 e131 eq
      rw [show L_X9_go_0 (n + 1) 96 w1 = _ from by unfold L_X9_go_0; rfl, lk_96 h1, if_pos rfl, T1.1, e91]
      cases m with
      | zero =>
        rw [if_pos ((nI_le' (by omega) (by omega)).mpr (by omega))]
        exact J38 s w1 h1 T1 s1 (by omega) e91 e131 (by rw [eq]; exact sk_n (by omega))
      | succ m =>
        have sl : s < L := by omega
        obtain ⟨t1, t2⟩ := T1.2 s sl
        rw [if_neg (fun q => by have := (nI_le' (by omega) (by omega)).mp q; omega), lr_96_7 h1, bd1_s, la_102 h1 (show s < 96 by omega), if_pos rfl, nx_nI (by omega), t1, lb_e, nI_s1]
        by_cases z : b s = 32
        · rw [if_pos (by rw [z]; rfl)]
          obtain ⟨w', a1, a2, a3⟩ := ih m (s + 1) (sI w1 96 9 (nI (s + 1))) (by omega) (by omega) (h1.sI _ _ _) ((FE.s _ _ (by omega)).tm T1) (by omega) (wI_ss _ _ _ _) (by rw [wI_sn _ _ (Or.inr (by decide))]; exact e131) (by rw [eq, sk_y sl z])
          exact ⟨w', a1, (FE.s _ _ (by omega)).tr a2, a3⟩
        · rw [if_neg (fun q : nI (b s) = 32 => z (nI_inj (b := 32) (by omega) (by decide) q))]
          exact J38 s w1 h1 T1 s1 (by omega) e91 e131 (by rw [eq]; exact sk_n (fun q => z q.2))
  exact L0 FU (L - e) e w (by omega) (by unfold FU; omega) h hT (Nat.le_refl _) e9 rfl rfl
