/-! THE CALLS: trim, feed -/
theorem Iv.tp {w w1 w2 : Wd} (I : Iv w) (h1 : Fr (fun a => a = 61 ∨ a = 62) w w1) (h2 : Fr (fun a => a = 96 ∨ a = 102) w1 w2) (e3 : wI w2 96 3 = wI w1 96 3) (e34 : wI w2 96 34 = wI w1 96 34) (hT : Tq w2) : Iv w2 := by
  obtain ⟨hI, ⟨hK, -⟩, hSh, hSl, hW⟩ := I.2.2
  have e : ∀ a, a ≠ 61 → a ≠ 62 → a ≠ 96 → a ≠ 102 → wI w2 a = wI w a := fun a a1 a2 a3 a4 => by rw [h2.2.2.2.2 a (by omega), h1.2.2.2.2 a (by omega)]
  refine I.rs h1 h2 (fun a ha => by omega) (fun a ha => by omega) (by rw [h1.2.2.2.2 0 (by omega)]) e3 ⟨by unfold KY at hK ⊢; rw [e 103 (by omega) (by omega) (by omega) (by omega), e 104 (by omega) (by omega) (by omega) (by omega)]; exact hK, hT⟩ (hSh.cg (fun a ha => e a (by omega) (by omega) (by omega) (by omega))) (hSl.cg (fun a ha => e a (by omega) (by omega) (by omega) (by omega))) (hW.cg (by rw [e 0 (by omega) (by omega) (by omega) (by omega)]) (by rw [e34, h1.2.2.2.2 96 (by omega)]) (e 67 (by omega) (by omega) (by omega) (by omega)) (e 118 (by omega) (by omega) (by omega) (by omega)))
theorem E_trim {w : Wd} (I : Iv w) (v : Int32) : Ok2 (f_X8_trim 0 v) (f_X9_trim 96 v) w := by
  have h := I.1
  obtain ⟨hI, ⟨-, t, ht, t1, t2, tb⟩, hSh, hSl, hW⟩ := I.2.2
  by_cases c1 : wi_ v 0 (nI t) = 0
  · exact Ok2.q I (r := -1000000001) (by simp only [f_X8_trim, lk_0 h, ↓reduceIte, lr_0_5 h, bd1_s, lk_61 h, t1, wi_X, bd2_s, c1]) (by simp only [f_X9_trim, lk_96 h, ↓reduceIte, t2, wi_M, bd2_s, c1])
  obtain ⟨k, -, hk, rfl⟩ := wi_ab (v := v) (a := 0) (b := t) (by omega) c1 (by decide)
  have F1 : Fr (fun a => a = 61 ∨ a = 62) w (sI w 61 1 (nI k)) := Fr.sI _ _ _ (by omega)
  have h1 := F1.lay h
  have e96 : wI (sI w 61 1 (nI k)) 96 = wI w 96 := wI_s2 _ _ _ (by decide)
  refine ⟨nI k, _, _, ?_, h1, ?_, I.tp F1 (Fr.sI (A := fun a => a = 96 ∨ a = 102) (sI w 61 1 (nI k)) 8 (nI k) (by omega)) (wI_sn _ _ (Or.inr (by decide))) (wI_sn _ _ (Or.inr (by decide))) ⟨k, by omega, ?_, wI_ss _ _ _ _, fun j hj => ?_⟩⟩
  · simp only [f_X8_trim, lk_0 h, ↓reduceIte, lr_0_5 h, bd1_s, lk_61 h, t1, wi_X, bd2_s, c1, lb_e]
  · simp only [f_X9_trim, lk_96 h1, ↓reduceIte, e96, t2, wi_M, bd2_s, c1, lb_e]
  · rw [wI_s2 _ _ _ (by decide), wI_ss]
  · rw [wI_s2 _ _ _ (by decide), wI_s2 _ _ _ (by decide), wI_s2 _ _ _ (by decide), wI_s2 _ _ _ (by decide)]
    exact tb j (by omega)
theorem and255 (x : Int32) : ∃ v, v < 256 ∧ x &&& 255 = nI v := by
  refine ⟨(x.toBitVec &&& 255#32).toNat, ?_, ?_⟩
  · rw [BitVec.toNat_and]
    exact Nat.lt_of_le_of_lt Nat.and_le_right (by decide)
  · apply Int32.toBitVec_inj.mp
    show x.toBitVec &&& 255#32 = BitVec.ofNat 32 _
    rw [BitVec.ofNat_toNat, BitVec.setWidth_eq]
def b4 (v : Int32) (j : Nat) : Int32 := (v >>> (nI (24 - 8 * j) &&& 31)) &&& 255
def ap (w : Wd) (t : Nat) (b : Int32) : Wd := sI (sI w 62 t b) 61 1 (nI (t + 1))
theorem ap_fr (w : Wd) (t : Nat) (b : Int32) : Fr (fun a => a = 61 ∨ a = 62) w (ap w t b) := (Fr.sI (A := fun a => a = 61 ∨ a = 62) _ _ _ (by omega)).tr (Fr.sI _ _ _ (by omega))
theorem ap_1 (w : Wd) (t : Nat) (b : Int32) : wI (ap w t b) 61 1 = nI (t + 1) := wI_ss _ _ _ _
theorem ap_62 (w : Wd) (t : Nat) (b : Int32) : wI (ap w t b) 62 = upd (wI w 62) t b := by unfold ap; rw [wI_s2 _ _ _ (by decide), wI_s1]
theorem ap_st {w : Wd} (h : Lay w) {t s n : Nat} (v : Int32) (ht : t < 96) (hs : s < 32) (e : wI w 61 1 = nI t) : L_X6_append_3 (n + 1) 61 v (nI s) w = L_X6_append_3 n 61 v (nI s + (-8)) (ap w t ((v >>> (nI s &&& 31)) &&& 255)) := by
  have e5 : ∀ x, wI (sI w 62 t x) 61 1 = nI t := fun x => by rw [wI_s2 _ _ _ (by decide)]; exact e
  rw [show L_X6_append_3 (n + 1) 61 v (nI s) w = _ from by unfold L_X6_append_3; rfl]
  rw [if_neg (nI_nlt0 (by omega)), if_pos (lk_61 h), e, if_neg (fun y : (96 : Int32) ≤ nI t => by have := (nI_le' (a := 96) (by omega) (by omega)).mp y; omega), lr_61_0 h, bd1_s, if_pos (la_62 h ht), nx_nI (by omega)]
  simp only [lb_e, e5, nI_s1]
  rfl
theorem x_append {w : Wd} (h : Lay w) {t : Nat} (v : Int32) (ht : t + 4 ≤ 96) (e : wI w 61 1 = nI t) : ∃ w', f_X6_append 61 v w = some ((), w') ∧ Fr (fun a => a = 61 ∨ a = 62) w w' ∧ wI w' 61 1 = nI (t + 4) ∧ ∀ k, wI w' 62 k = if t ≤ k ∧ k < t + 4 then b4 v (k - t) else wI w 62 k := by
  have F1 := ap_fr w t (b4 v 0)
  have h1 := F1.lay h
  have F2 := ap_fr (ap w t (b4 v 0)) (t + 1) (b4 v 1)
  have h2 := F2.lay h1
  have F3 := ap_fr (ap (ap w t (b4 v 0)) (t + 1) (b4 v 1)) (t + 2) (b4 v 2)
  have h3 := F3.lay h2
  have F4 := ap_fr (ap (ap (ap w t (b4 v 0)) (t + 1) (b4 v 1)) (t + 2) (b4 v 2)) (t + 3) (b4 v 3)
  refine ⟨_, ?_, ((F1.tr F2).tr F3).tr F4, ap_1 _ _ _, fun k => ?_⟩
  · have g1 := ap_st (n := FU - 1) (s := 24) h v (by omega) (by decide) e
    have g2 := ap_st (n := FU - 2) (s := 16) h1 v (show t + 1 < 96 by omega) (by decide) (ap_1 _ _ _)
    have g3 := ap_st (n := FU - 3) (s := 8) h2 v (show t + 2 < 96 by omega) (by decide) (ap_1 _ _ _)
    have g4 := ap_st (n := FU - 4) (s := 0) h3 v (show t + 3 < 96 by omega) (by decide) (ap_1 _ _ _)
    show L_X6_append_3 FU 61 v (nI 24) w = _
    refine g1.trans (g2.trans (g3.trans (g4.trans ?_)))
    rw [show FU - 4 = (FU - 5) + 1 from rfl]
    unfold L_X6_append_3
    rw [if_pos (show nI 0 + -8 < 0 by decide)]
    rfl
  · rw [ap_62, ap_62, ap_62, ap_62]
    by_cases z : t ≤ k ∧ k < t + 4
    · rw [if_pos z]
      rcases (show k = t ∨ k = t + 1 ∨ k = t + 2 ∨ k = t + 3 by omega) with q | q | q | q <;> subst q
      · rw [upd_n _ _ (by omega), upd_n _ _ (by omega), upd_n _ _ (by omega), upd_s, show k - k = 0 by omega]
      · rw [upd_n _ _ (by omega), upd_n _ _ (by omega), upd_s, show t + 1 - t = 1 by omega]
      · rw [upd_n _ _ (by omega), upd_s, show t + 2 - t = 2 by omega]
      · rw [upd_s, show t + 3 - t = 3 by omega]
    · rw [if_neg z, upd_n _ _ (by omega), upd_n _ _ (by omega), upd_n _ _ (by omega), upd_n _ _ (by omega)]
def fb (v u x : Int32) (k : Nat) : Int32 := b4 (if 4 ≤ k then (if 8 ≤ k then x else u) else v) (k % 4)
theorem E_feed {w : Wd} (I : Iv w) (v u x : Int32) : Ok2 (f_X8_feed 0 v u x) (f_X9_feed 96 v u x) w := by
  have h := I.1
  obtain ⟨hI, ⟨-, t, ht, t1, t2, tb⟩, hSh, hSl, hW⟩ := I.2.2
  have e12 : nI t + 12 = nI (t + 12) := nI_add t 12
  by_cases c1 : t + 12 ≤ 96
  · have c : nI (t + 12) ≤ (96 : Int32) := (nI_le' (b := 96) (by omega) (by omega)).mpr c1
    obtain ⟨w1, f1, F1, n1, b1⟩ := x_append h v (show t + 4 ≤ 96 by omega) t1
    have h1 := F1.lay h
    obtain ⟨w2, f2, F2, n2, b2⟩ := x_append h1 u (show t + 4 + 4 ≤ 96 by omega) n1
    have h2 := F2.lay h1
    obtain ⟨w3, f3, F3, n3, b3⟩ := x_append h2 x (show t + 4 + 4 + 4 ≤ 96 by omega) n2
    have h3 := F3.lay h2
    have F13 := (F1.tr F2).tr F3
    have e62 : ∀ k, wI w3 62 k = if t ≤ k ∧ k < t + 12 then fb v u x (k - t) else wI w 62 k := by
      intro k
      unfold fb
      rw [b3 k, b2 k, b1 k]
      by_cases y : t ≤ k ∧ k < t + 12
      · rw [if_pos y]
        by_cases y3 : 8 ≤ k - t
        · rw [if_pos (by omega), if_pos (show 4 ≤ k - t by omega), if_pos y3, show k - (t + 4 + 4) = (k - t) % 4 by omega]
        · by_cases y2 : 4 ≤ k - t
          · rw [if_neg (by omega), if_pos (by omega), if_pos y2, if_neg y3, show k - (t + 4) = (k - t) % 4 by omega]
          · rw [if_neg (by omega), if_neg (by omega), if_pos (by omega), if_neg y2, show (k - t) % 4 = k - t by omega]
      · rw [if_neg y, if_neg (by omega), if_neg (by omega), if_neg (by omega)]
    have e96 : wI w3 96 = wI w 96 := F13.2.2.2.2 96 (by decide)
    have e102 : wI w3 102 = wI w 102 := F13.2.2.2.2 102 (by decide)
    have L : ∀ n k (w4 : Wd), Fr (fun a => a = 102) w3 w4 → (∀ j, wI w4 102 j = if t ≤ j ∧ j < t + k then fb v u x (j - t) else wI w 102 j) → k ≤ 12 → 12 - k < n → ∃ w5, L_X9_feed_18 n 96 v u x (nI k) w4 = some (nI (t + 12), sI w5 96 8 (nI (t + 12))) ∧ Fr (fun a => a = 102) w3 w5 ∧ ∀ j, wI w5 102 j = if t ≤ j ∧ j < t + 12 then fb v u x (j - t) else wI w 102 j := by
      intro n
      induction n with
      | zero => intro k w4 _ _ _ g; omega
      | succ n ih =>
        intro k w4 F4 y4 hk g
        have h4 := F4.lay h3
        have e8 : wI w4 96 8 = nI t := by rw [F4.2.2.2.2 96 (by decide), e96]; exact t2
        unfold L_X9_feed_18
        by_cases z : k = 12
        · subst z
          rw [if_pos (show (12 : Int32) ≤ nI 12 by decide)]
          simp only [lk_96 h4, ↓reduceIte, lb_e, e8, e12, wI_ss]
          exact ⟨w4, rfl, F4, y4⟩
        · have g4 : ∀ a, a < 2 ^ 31 → ((nI a ≤ nI k) ↔ a ≤ k) := fun a ha => nI_le' (by omega) ha
          have i4 : irem (nI k) 4 = nI (k % 4) := irem_nI (b := 4) (by omega) (by omega) (by omega)
          have s24 : (24 : Int32) - 8 * nI (k % 4) = nI (24 - 8 * (k % 4)) := by
            rw [show (8 : Int32) = nI 8 from rfl, nI_mul]
            exact nI_sub (a := 24) (by omega)
          have ifs : (if (4 : Int32) ≤ nI k then (if (8 : Int32) ≤ nI k then x else u) else v) = (if 4 ≤ k then (if 8 ≤ k then x else u) else v) := by
            rw [show (4 : Int32) = nI 4 from rfl, show (8 : Int32) = nI 8 from rfl]
            by_cases q4 : 4 ≤ k
            · rw [if_pos ((g4 4 (by decide)).mpr q4), if_pos q4]
              by_cases q8 : 8 ≤ k
              · rw [if_pos ((g4 8 (by decide)).mpr q8), if_pos q8]
              · rw [if_neg (fun y => q8 ((g4 8 (by decide)).mp y)), if_neg q8]
            · rw [if_neg (fun y => q4 ((g4 4 (by decide)).mp y)), if_neg q4]
          rw [if_neg (fun y : (12 : Int32) ≤ nI k => by have := (g4 12 (by decide)).mp y; omega)]
          simp only [ifs, lb_e, lk_96 h4, ↓reduceIte, lr_96_7 h4, bd1_s, e8, nI_add, la_102 h4 (show t + k < 96 by omega), nx_nI (show t + k < 2 ^ 31 by omega), i4, s24, nI_s1]
          refine ih (k + 1) _ (F4.tr (Fr.sI _ _ _ rfl)) (fun j => ?_) (by omega) (by omega)
          rw [wI_s1]
          by_cases y : j = t + k
          · subst y
            rw [upd_s, if_pos (show t ≤ t + k ∧ t + k < t + (k + 1) by omega), show t + k - t = k by omega]
            rfl
          · rw [upd_n _ _ y, y4 j]
            by_cases y2 : t ≤ j ∧ j < t + k
            · rw [if_pos y2, if_pos (by omega)]
            · rw [if_neg y2, if_neg (by omega)]
    obtain ⟨w5, f5, F5, y5⟩ := L FU 0 w3 (Fr.rf w3) (fun j => by rw [if_neg (by omega), e102]) (by omega) (by unfold FU; omega)
    have F6 : Fr (fun a => a = 96 ∨ a = 102) w3 (sI w5 96 8 (nI (t + 12))) := (F5.mono (fun a ha => Or.inr ha)).tr (Fr.sI _ _ _ (Or.inl rfl))
    have e5 : wI w5 96 = wI w3 96 := F5.2.2.2.2 96 (by decide)
    refine ⟨nI (t + 12), w3, _, ?_, h3, ?_, I.tp F13 F6 (by rw [wI_sn _ _ (Or.inr (by decide)), e5]) (by rw [wI_sn _ _ (Or.inr (by decide)), e5]) ⟨t + 12, c1, ?_, wI_ss _ _ _ _, fun k hk => ?_⟩⟩
    · simp only [f_X8_feed, lk_0 h, ↓reduceIte, lr_0_5 h, bd1_s, lk_61 h, t1, e12, c, f1, bd2_s, lk_0 h1, lr_0_5 h1, lk_61 h1, f2, lk_0 h2, lr_0_5 h2, lk_61 h2, f3, lk_0 h3, lr_0_5 h3, lk_61 h3, n3]
    · simp only [f_X9_feed, lk_96 h3, ↓reduceIte, e96, t2, e12, c]
      exact f5
    · rw [wI_s2 _ _ _ (by decide), F5.2.2.2.2 61 (by decide)]; exact n3
    · rw [wI_s2 _ _ _ (by decide), wI_s2 _ _ _ (by decide), F5.2.2.2.2 62 (by decide), e62, y5]
      by_cases y : t ≤ k ∧ k < t + 12
      · rw [if_pos y, if_pos y]
        exact ⟨rfl, and255 _⟩
      · rw [if_neg y, if_neg y]
        exact tb k (by omega)
  · have c : ¬ nI (t + 12) ≤ (96 : Int32) := fun y => c1 ((nI_le' (b := 96) (by omega) (by omega)).mp y)
    exact Ok2.q I (r := -1000000003) (by simp only [f_X8_feed, lk_0 h, ↓reduceIte, lr_0_5 h, bd1_s, lk_61 h, t1, e12, c]) (by simp only [f_X9_feed, lk_96 h, ↓reduceIte, t2, e12, c])
