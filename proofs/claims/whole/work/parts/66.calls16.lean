/-! THE CALLS: trim, feed -/
theorem Iv.tp {w w1 w2 : Wd} (I : Iv w) (h1 : Fr (fun a => a = 61 ∨ a = 62) w w1) (h2 : Fr (fun a => a = 96 ∨ a = 102) w1 w2) (e3 : wI w2 96 3 = wI w1 96 3) (e34 : wI w2 96 34 = wI w1 96 34) (hT : Tp w2) : Iv w2 := by
  obtain ⟨hI, -, hSh, hSl, hW⟩ := I.2.2
  have e : ∀ a, a ≠ 61 → a ≠ 62 → a ≠ 96 → a ≠ 102 → wI w2 a = wI w a := fun a a1 a2 a3 a4 => by rw [h2.2.2.2.2 a (by omega), h1.2.2.2.2 a (by omega)]
  refine I.rs h1 h2 (fun a ha => by omega) (fun a ha => by omega) (by rw [h1.2.2.2.2 0 (by omega)]) e3 hT (hSh.cg (fun a ha => e a (by omega) (by omega) (by omega) (by omega))) (hSl.cg (fun a ha => e a (by omega) (by omega) (by omega) (by omega))) (hW.cg (by rw [e 0 (by omega) (by omega) (by omega) (by omega)]) (by rw [e34, h1.2.2.2.2 96 (by omega)]) (e 67 (by omega) (by omega) (by omega) (by omega)) (e 118 (by omega) (by omega) (by omega) (by omega)))
theorem E_trim {w : Wd} (I : Iv w) (v : Int32) : Ok2 (f_X8_trim 0 v) (f_X9_trim 96 v) w := by
  have h := I.1
  obtain ⟨hI, ⟨t, ht, t1, t2, tb⟩, hSh, hSl, hW⟩ := I.2.2
  by_cases c1 : wi_ v 0 (nI t) = 0
  · exact Ok2.q I (r := -1000000001) (by simp only [f_X8_trim, lk_0 h, ↓reduceIte, lr_0_5 h, bd1_s, lk_61 h, t1, wi_X, bd2_s, c1]) (by simp only [f_X9_trim, lk_96 h, ↓reduceIte, t2, wi_M, bd2_s, c1])
  obtain ⟨k, -, hk, rfl⟩ := wi_ab (v := v) (a := 0) (b := t) (by omega) c1 (by decide)
  have F1 : Fr (fun a => a = 61 ∨ a = 62) w (sI w 61 1 (nI k)) := Fr.sI _ _ _ (by omega)
  have h1 := F1.lay h
  have e96 : wI (sI w 61 1 (nI k)) 96 = wI w 96 := wI_s2 _ _ _ (by decide)
  refine ⟨nI k, _, _, ?_, h1, ?_, I.tp F1 (Fr.sI (A := fun a => a = 96 ∨ a = 102) (sI w 61 1 (nI k)) 8 (nI k) (by omega)) (wI_sn _ _ (Or.inr (by decide))) (wI_sn _ _ (Or.inr (by decide))) ⟨k, by omega, ?_, wI_ss _ _ _ _, fun j hj => ?_⟩⟩
  · simp only [f_X8_trim, lk_0 h, ↓reduceIte, lr_0_5 h, bd1_s, lk_61 h, t1, wi_X, bd2_s, c1, lb_e]
  · simp only [f_X9_trim, lk_96 h1, ↓reduceIte, e96, t2, wi_M, bd2_s, c1, lb_e]
  · rw [wI_s2 _ _ _ (by decide), wI_ss]
  · rw [wI_s2 _ _ _ (by decide), wI_s2 _ _ _ (by decide), wI_s2 _ _ _ (by decide), wI_s2 _ _ _ (by decide)]
    exact tb j (by omega)
theorem and255 (x : Int32) : ∃ v, v < 256 ∧ x &&& 255 = nI v := by
  refine ⟨(x.toBitVec &&& 255#32).toNat, ?_, ?_⟩
  · rw [BitVec.toNat_and]
    exact Nat.lt_of_le_of_lt Nat.and_le_right (by decide)
  · apply Int32.toBitVec_inj.mp
    show x.toBitVec &&& 255#32 = BitVec.ofNat 32 _
    rw [BitVec.ofNat_toNat, BitVec.setWidth_eq]
def b4 (v : Int32) (j : Nat) : Int32 := (v >>> (nI (24 - 8 * j) &&& 31)) &&& 255
def ap (w : Wd) (t : Nat) (b : Int32) : Wd := sI (sI w 62 t b) 61 1 (nI (t + 1))
theorem ap_fr (w : Wd) (t : Nat) (b : Int32) : Fr (fun a => a = 61 ∨ a = 62) w (ap w t b) := (Fr.sI (A := fun a => a = 61 ∨ a = 62) _ _ _ (by omega)).tr (Fr.sI _ _ _ (by omega))
theorem ap_1 (w : Wd) (t : Nat) (b : Int32) : wI (ap w t b) 61 1 = nI (t + 1) := wI_ss _ _ _ _
theorem ap_62 (w : Wd) (t : Nat) (b : Int32) : wI (ap w t b) 62 = upd (wI w 62) t b := by unfold ap; rw [wI_s2 _ _ _ (by decide), wI_s1]
theorem ap_st {w : Wd} (h : Lay w) {t s n : Nat} (v : Int32) (ht : t < 96) (hs : s < 32) (e : wI w 61 1 = nI t) : L_X6_append_3 (n + 1) 61 v (nI s) w = L_X6_append_3 n 61 v (nI s + (-8)) (ap w t ((v >>> (nI s &&& 31)) &&& 255)) := by
  have e5 : ∀ x, wI (sI w 62 t x) 61 1 = nI t := fun x => by rw [wI_s2 _ _ _ (by decide)]; exact e
  rw [show L_X6_append_3 (n + 1) 61 v (nI s) w = _ from by unfold L_X6_append_3; rfl]
  rw [if_neg (nI_nlt0 (by omega)), if_pos (lk_61 h), e, if_neg (fun y : (96 : Int32) ≤ nI t => by have := (nI_le' (a := 96) (by omega) (by omega)).mp y; omega), lr_61_0 h, bd1_s, if_pos (la_62 h ht), nx_nI (by omega)]
  simp only [lb_e, e5, nI_s1]
  rfl
theorem x_append {w : Wd} (h : Lay w) {t : Nat} (v : Int32) (ht : t + 4 ≤ 96) (e : wI w 61 1 = nI t) : ∃ w', f_X6_append 61 v w = some ((), w') ∧ Fr (fun a => a = 61 ∨ a = 62) w w' ∧ wI w' 61 1 = nI (t + 4) ∧ ∀ k, wI w' 62 k = if t ≤ k ∧ k < t + 4 then b4 v (k - t) else wI w 62 k := by
  have F1 := ap_fr w t (b4 v 0)
  have h1 := F1.lay h
  have F2 := ap_fr (ap w t (b4 v 0)) (t + 1) (b4 v 1)
  have h2 := F2.lay h1
  have F3 := ap_fr (ap (ap w t (b4 v 0)) (t + 1) (b4 v 1)) (t + 2) (b4 v 2)
  have h3 := F3.lay h2
  have F4 := ap_fr (ap (ap (ap w t (b4 v 0)) (t + 1) (b4 v 1)) (t + 2) (b4 v 2)) (t + 3) (b4 v 3)
  refine ⟨_, ?_, ((F1.tr F2).tr F3).tr F4, ap_1 _ _ _, fun k => ?_⟩
  · have g1 := ap_st (n := FU - 1) (s := 24) h v (by omega) (by decide) e
    have g2 := ap_st (n := FU - 2) (s := 16) h1 v (show t + 1 < 96 by omega) (by decide) (ap_1 _ _ _)
    have g3 := ap_st (n := FU - 3) (s := 8) h2 v (show t + 2 < 96 by omega) (by decide) (ap_1 _ _ _)
    have g4 := ap_st (n := FU - 4) (s := 0) h3 v (show t + 3 < 96 by omega) (by decide) (ap_1 _ _ _)
    show L_X6_append_3 FU 61 v (nI 24) w = _
    refine g1.trans (g2.trans (g3.trans (g4.trans ?_)))
    rw [show FU - 4 = (FU - 5) + 1 from rfl]
    unfold L_X6_append_3
    rw [if_pos (show nI 0 + -8 < 0 by decide)]
    rfl
  · rw [ap_62, ap_62, ap_62, ap_62]
    by_cases z : t ≤ k ∧ k < t + 4
    · rw [if_pos z]
      rcases (show k = t ∨ k = t + 1 ∨ k = t + 2 ∨ k = t + 3 by omega) with q | q | q | q <;> subst q
      · rw [upd_n _ _ (by omega), upd_n _ _ (by omega), upd_n _ _ (by omega), upd_s, show k - k = 0 by omega]
      · rw [upd_n _ _ (by omega), upd_n _ _ (by omega), upd_s, show t + 1 - t = 1 by omega]
      · rw [upd_n _ _ (by omega), upd_s, show t + 2 - t = 2 by omega]
      · rw [upd_s, show t + 3 - t = 3 by omega]
    · rw [if_neg z, upd_n _ _ (by omega), upd_n _ _ (by omega), upd_n _ _ (by omega), upd_n _ _ (by omega)]
