/-! TEXTS: the class reads a tape -/
def TB (w : Wd) (b : Nat → Nat) (L : Nat) : Prop := wI w 61 1 = nI L ∧ ∀ k, k < L → wI w 62 k = nI (b k) ∧ b k < 256
theorem cls_lt (x : Nat) : cls x < 4 ∧ 1 ≤ cls x := by unfold cls; split <;> (try split) <;> omega
theorem x_sort {x : Nat} (hx : x < 256) (w : Wd) : f_X6_sortOf (nI x) w = some (nI (cls x), w) := by
  have l : ∀ a, a < 256 → (nI x < nI a ↔ x < a) := fun a ha => nI_lt' (by omega) (by omega)
  have m : ∀ a, a < 256 → (nI a < nI x ↔ a < x) := fun a ha => nI_lt' (by omega) (by omega)
  have j : j_X6_sortOf_14 (nI x) w = some (nI (if 48 ≤ x ∧ x ≤ 57 then 1 else 3), w) := by
    unfold j_X6_sortOf_14
    rw [show (48 : Int32) = nI 48 from rfl, show (57 : Int32) = nI 57 from rfl]
    by_cases c : x < 48
    · rw [if_pos ((l 48 (by decide)).mpr c), if_neg (by omega)]; rfl
    · rw [if_neg (fun q => c ((l 48 (by decide)).mp q))]
      by_cases d : 57 < x
      · rw [if_pos ((m 57 (by decide)).mpr d), if_neg (by omega)]; rfl
      · rw [if_neg (fun q => d ((m 57 (by decide)).mp q)), if_pos (by omega)]; rfl
  unfold f_X6_sortOf cls
  rw [show (97 : Int32) = nI 97 from rfl, show (122 : Int32) = nI 122 from rfl]
  by_cases c : x < 97
  · rw [if_pos ((l 97 (by decide)).mpr c), if_neg (show ¬ (97 ≤ x ∧ x ≤ 122) by omega), j]
  · rw [if_neg (fun q => c ((l 97 (by decide)).mp q))]
    by_cases d : 122 < x
    · rw [if_pos ((m 122 (by decide)).mpr d), if_neg (show ¬ (97 ≤ x ∧ x ≤ 122) by omega), j]
    · rw [if_neg (fun q => d ((m 122 (by decide)).mp q)), if_pos (show 97 ≤ x ∧ x ≤ 122 by omega)]; rfl
def FA (w w' : Wd) : Prop := Fr (fun a => a = 61) w w' ∧ ∀ j, j ≠ 2 → j ≠ 3 → j ≠ 4 → wI w' 61 j = wI w 61 j
theorem FA.rf (w : Wd) : FA w w := ⟨Fr.rf w, fun _ _ _ _ => rfl⟩
theorem FA.tr {w w1 w2 : Wd} (h1 : FA w w1) (h2 : FA w1 w2) : FA w w2 := ⟨h1.1.tr h2.1, fun j a b c => (h2.2 j a b c).trans (h1.2 j a b c)⟩
theorem FA.s (w : Wd) {j : Nat} (v : Int32) (hj : j = 2 ∨ j = 3 ∨ j = 4) : FA w (sI w 61 j v) := ⟨Fr.sI _ _ _ rfl, fun k a b c => wI_sn _ _ (Or.inr (by omega))⟩
theorem FA.tb {w w1 : Wd} {b : Nat → Nat} {L : Nat} (h : FA w w1) (t : TB w b L) : TB w1 b L := ⟨by rw [h.2 1 (by decide) (by decide) (by decide)]; exact t.1, fun k hk => by rw [h.1.2.2.2.2 62 (by decide)]; exact t.2 k hk⟩
theorem x_run {b : Nat → Nat} {L c : Nat} (hL : L ≤ 96) (hc : c < 4) (v : Int32) : ∀ n m k (w : Wd), Lay w → TB w b L → k + m = L → m < n → wI w 61 4 = nI k → wI w 61 2 = nI c → ∃ w', L_X6_advance_148 n 61 v w = some ((), w') ∧ FA w w' ∧ wI w' 61 2 = (if v = 0 then nI c else 4) ∧ wI w' 61 3 = wI w 61 3 ∧ wI w' 61 4 = nI (tRn b L c k) := by
  intro n
  induction n with
  | zero => intro m k w _ _ _ g; omega
  | succ n ih =>
    intro m k w h hT g1 g2 e4 e2
    have stop : tRn b L c k = k → ∃ w', j_X6_advance_191 61 v w = some ((), w') ∧ FA w w' ∧ wI w' 61 2 = (if v = 0 then nI c else 4) ∧ wI w' 61 3 = wI w 61 3 ∧ wI w' 61 4 = nI (tRn b L c k) := fun er => by
      unfold j_X6_advance_191 j_X6_advance_204
      simp only [lk_61 h, ↓reduceIte, lb_e]
      by_cases z : v = 0
      · rw [if_pos z]
        exact ⟨_, rfl, FA.s _ _ (by omega), by rw [wI_ss, if_pos z]; exact e2, wI_sn _ _ (Or.inr (by decide)), by rw [wI_sn _ _ (Or.inr (by decide)), er]; exact e4⟩
      · rw [if_neg z]
        exact ⟨_, rfl, FA.s _ _ (by omega), by rw [wI_ss, if_neg z], wI_sn _ _ (Or.inr (by decide)), by rw [wI_sn _ _ (Or.inr (by decide)), er]; exact e4⟩
    rw [show L_X6_advance_148 (n + 1) 61 v w = _ from by unfold L_X6_advance_148; rfl]
    simp only [lk_61 h, ↓reduceIte, hT.1, e4]
    cases m with
    | zero =>
      rw [if_pos ((nI_le' (by omega) (by omega)).mpr (by omega))]
      exact stop (rn_n (by omega))
    | succ m =>
      have hk : k < L := by omega
      obtain ⟨t1, t2⟩ := hT.2 k hk
      rw [if_neg (fun q => by have := (nI_le' (by omega) (by omega)).mp q; omega)]
      simp only [lr_61_0 h, bd1_s, la_62 h (show k < 96 by omega), ↓reduceIte, nx_nI (show k < 2 ^ 31 by omega), t1, x_sort t2, bd2_s, lk_61 h, e2, e4, lb_e, nI_s1]
      have c4 := cls_lt (b k)
      by_cases z : cls (b k) = c
      · rw [if_pos (by rw [z])]
        obtain ⟨w', a1, a2, a3, a4, a5⟩ := ih m (k + 1) (sI w 61 4 (nI (k + 1))) (h.sI _ _ _) ((FA.s _ _ (by omega)).tb hT) (by omega) (by omega) (wI_ss _ _ _ _) (by rw [wI_sn _ _ (Or.inr (by decide))]; exact e2)
        exact ⟨w', a1, (FA.s _ _ (by omega)).tr a2, a3, by rw [a4, wI_sn _ _ (Or.inr (by decide))], by rw [a5, rn_y hk z]⟩
      · rw [if_neg (fun q => z (nI_inj (by omega) (by omega) q))]
        exact stop (rn_n (fun q => z q.2))
theorem x_advance {w : Wd} {b : Nat → Nat} {L e : Nat} {g : Bool} (h : Lay w) (hL : L ≤ 96) (he : e ≤ L) (hT : TB w b L) (e4 : wI w 61 4 = nI e) (hg : (if wI w 61 2 = 1 then (1 : Int32) else if wI w 61 2 = 2 then 1 else 0) = if g = true then 1 else 0) : ∃ w', f_X6_advance 61 w = some ((), w') ∧ FA w w' ∧ wI w' 61 2 = nI (tKd b L e g) ∧ wI w' 61 3 = nI (tSk b L e) ∧ wI w' 61 4 = nI (tTe b L e) := by
  have J88 : ∀ (s : Nat) (v : Int32) (w1 : Wd), Lay w1 → TB w1 b L → s ≤ L → wI w1 61 3 = nI s → ∃ w', j_X6_advance_88 61 v w1 = some ((), w') ∧ FA w1 w' ∧ wI w' 61 2 = (if L ≤ s then 0 else if cls (b s) = 3 then 3 else if v = 0 then nI (cls (b s)) else 4) ∧ wI w' 61 3 = nI s ∧ wI w' 61 4 = nI (if L ≤ s then s else if cls (b s) = 3 then s + 1 else tRn b L (cls (b s)) (s + 1)) := by
    intro s v w1 h1 T1 hs e3
    have T8 : TB (sI w1 61 4 (nI s)) b L := (FA.s _ _ (by omega)).tb T1
    have h8 : Lay (sI w1 61 4 (nI s)) := h1.sI _ _ _
    have e38 : wI (sI w1 61 4 (nI s)) 61 3 = nI s := by rw [wI_sn _ _ (Or.inr (by decide))]; exact e3
    unfold j_X6_advance_88
    simp only [lk_61 h1, ↓reduceIte, e3, lb_e, e38, T8.1]
    by_cases c : L ≤ s
    · rw [if_neg (fun q => by have := (nI_lt' (by omega) (by omega)).mp q; omega), if_pos c, if_pos c]
      exact ⟨_, rfl, (FA.s _ _ (by omega)).tr (FA.s _ _ (by omega)), wI_ss _ _ _ _, by rw [wI_sn _ _ (Or.inr (by decide))]; exact e38, by rw [wI_sn _ _ (Or.inr (by decide)), wI_ss]⟩
    · have hs' : s < L := by omega
      obtain ⟨t1, t2⟩ := T8.2 s hs'
      have c4 := cls_lt (b s)
      rw [if_pos ((nI_lt' (by omega) (by omega)).mpr hs'), if_neg c, if_neg c]
      simp only [lr_61_0 h8, bd1_s, la_62 h8 (show s < 96 by omega), ↓reduceIte, nx_nI (show s < 2 ^ 31 by omega), t1, x_sort t2, bd2_s, lk_61 h8, wI_sn _ _ (show (61 : Nat) ≠ 61 ∨ 4 ≠ 2 from Or.inr (by decide)), wI_ss, nI_s1, wI_sn _ _ (show (61 : Nat) ≠ 61 ∨ 2 ≠ 4 from Or.inr (by decide))]
      obtain ⟨w2, ew2⟩ : ∃ w2, w2 = sI (sI (sI w1 61 4 (nI s)) 61 2 (nI (cls (b s)))) 61 4 (nI (s + 1)) := ⟨_, rfl⟩
      have A2 : FA w1 w2 := by rw [ew2]; exact ((FA.s _ _ (by omega)).tr (FA.s _ _ (by omega))).tr (FA.s _ _ (by omega))
      have a22 : wI w2 61 2 = nI (cls (b s)) := by rw [ew2, wI_sn _ _ (Or.inr (by decide)), wI_ss]
      have a23 : wI w2 61 3 = nI s := by rw [ew2, wI_sn _ _ (Or.inr (by decide)), wI_sn _ _ (Or.inr (by decide))]; exact e38
      have a24 : wI w2 61 4 = nI (s + 1) := by rw [ew2, wI_ss]
      rw [← ew2]
      by_cases c3 : cls (b s) = 3
      · rw [if_pos (by rw [c3]; rfl), if_pos c3, if_pos c3]
        exact ⟨w2, rfl, A2, by rw [a22, c3]; rfl, a23, a24⟩
      · rw [if_neg (fun q : nI (cls (b s)) = 3 => c3 (nI_inj (b := 3) (by omega) (by omega) q)), if_neg c3, if_neg c3]
        obtain ⟨w', r1, r2, r3, r4, r5⟩ := x_run hL c4.1 v FU (L - (s + 1)) (s + 1) w2 (A2.1.lay h1) (A2.tb T1) (by omega) (by unfold FU; omega) a24 a22
        exact ⟨w', r1, A2.tr r2, r3, by rw [r4]; exact a23, r5⟩
  have L30 : ∀ n m s (w1 : Wd), s + m = L → m < n → Lay w1 → TB w1 b L → e ≤ s → wI w1 61 3 = nI s → wI w1 61 4 = nI e → tSk b L e = tSk b L s → ∃ w', L_X6_advance_30 n 61 (if g = true then 1 else 0) w1 = some ((), w') ∧ FA w1 w' ∧ wI w' 61 2 = nI (tKd b L e g) ∧ wI w' 61 3 = nI (tSk b L e) ∧ wI w' 61 4 = nI (tTe b L e) := by
    intro n
    induction n with
    | zero => intro m s w1 _ g; omega
    | succ n ih =>
      intro m s w1 g1 g2 h1 T1 hs e31 e41 eq
      have fin : tSk b L s = s → ∃ w', j_X6_advance_68 61 (if g = true then 1 else 0) w1 = some ((), w') ∧ FA w1 w' ∧ wI w' 61 2 = nI (tKd b L e g) ∧ wI w' 61 3 = nI (tSk b L e) ∧ wI w' 61 4 = nI (tTe b L e) := fun es => by
        have ee : tSk b L e = s := by rw [eq, es]
        have ek : ∀ v : Int32, (v = 0 ↔ ¬ (g = true ∧ s = e)) → (if L ≤ s then (0 : Int32) else if cls (b s) = 3 then 3 else if v = 0 then nI (cls (b s)) else 4) = nI (tKd b L e g) := fun v hv => by
          unfold tKd
          rw [ee]
          by_cases c : L ≤ s
          · rw [if_pos c, if_pos c]; rfl
          · rw [if_neg c, if_neg c]
            by_cases c3 : cls (b s) = 3
            · rw [if_pos c3, if_pos c3]; rfl
            · rw [if_neg c3, if_neg c3]
              by_cases z : g = true ∧ s = e
              · rw [if_neg (fun q => hv.mp q z), if_pos z]; rfl
              · rw [if_pos (hv.mpr z), if_neg z]
        have et : (if L ≤ s then s else if cls (b s) = 3 then s + 1 else tRn b L (cls (b s)) (s + 1)) = tTe b L e := by unfold tTe; rw [ee]
        unfold j_X6_advance_68
        by_cases gg : g = true
        · rw [if_pos gg, if_neg (by decide), lk_61 h1, if_pos rfl]
          obtain ⟨w', r1, r2, r3, r4, r5⟩ := J88 s (if s = e then 1 else 0) w1 h1 T1 (by omega) e31
          have ev : (if wI w1 61 3 = wI w1 61 4 then (1 : Int32) else 0) = if s = e then 1 else 0 := by
            rw [e31, e41]
            by_cases z : s = e
            · rw [if_pos z, if_pos (by rw [z])]
            · rw [if_neg z, if_neg (fun q => z (nI_inj (by omega) (by omega) q))]
          refine ⟨w', ?_, r2, ?_, by rw [r4, ee], by rw [r5, et]⟩
          · rw [← r1, ← ev]
            unfold j_X6_advance_88
            rw [lk_61 h1, if_pos rfl]
            rfl
          · rw [r3]
            refine ek _ ?_
            by_cases z : s = e
            · rw [if_pos z]; exact ⟨fun q => (by cases q), fun q => absurd ⟨gg, z⟩ q⟩
            · rw [if_neg z]; exact ⟨fun _ q => z q.2, fun _ => rfl⟩
        · rw [if_neg gg, if_pos rfl]
          obtain ⟨w', r1, r2, r3, r4, r5⟩ := J88 s 0 w1 h1 T1 (by omega) e31
          refine ⟨w', r1, r2, ?_, by rw [r4, ee], by rw [r5, et]⟩
          rw [r3]
          exact ek 0 ⟨fun _ q => gg q.1, fun _ => rfl⟩
      rw [show L_X6_advance_30 (n + 1) 61 (if g = true then 1 else 0) w1 = _ from by unfold L_X6_advance_30; rfl]
      simp only [lk_61 h1, ↓reduceIte, T1.1, e31]
      cases m with
      | zero =>
        rw [if_pos ((nI_le' (by omega) (by omega)).mpr (by omega))]
        exact fin (sk_n (by omega))
      | succ m =>
        have hs' : s < L := by omega
        obtain ⟨t1, t2⟩ := T1.2 s hs'
        rw [if_neg (fun q => by have := (nI_le' (by omega) (by omega)).mp q; omega)]
        simp only [lr_61_0 h1, bd1_s, la_62 h1 (show s < 96 by omega), ↓reduceIte, nx_nI (show s < 2 ^ 31 by omega), t1, lb_e, nI_s1]
        by_cases z : b s = 32
        · rw [if_pos (by rw [z]; rfl)]
          obtain ⟨w', r1, r2, r3⟩ := ih m (s + 1) (sI w1 61 3 (nI (s + 1))) (by omega) (by omega) (h1.sI _ _ _) ((FA.s _ _ (by omega)).tb T1) (by omega) (wI_ss _ _ _ _) (by rw [wI_sn _ _ (Or.inr (by decide))]; exact e41) (by rw [eq, sk_y hs' z])
          exact ⟨w', r1, (FA.s _ _ (by omega)).tr r2, r3⟩
        · rw [if_neg (fun q : nI (b s) = 32 => z (nI_inj (b := 32) (by omega) (by decide) q))]
          exact fin (sk_n (fun q => z q.2))
  have F0 : FA w (sI w 61 3 (nI e)) := FA.s _ _ (by omega)
  obtain ⟨w', r1, r2, r3⟩ := L30 FU (L - e) e (sI w 61 3 (nI e)) (by omega) (by unfold FU; omega) (h.sI _ _ _) (F0.tb hT) (Nat.le_refl _) (wI_ss _ _ _ _) (by rw [wI_sn _ _ (Or.inr (by decide))]; exact e4) rfl
  refine ⟨w', ?_, F0.tr r2, r3⟩
  simp only [f_X6_advance, lk_61 h, ↓reduceIte, lb_e, e4]
  rw [hg]
  exact r1
