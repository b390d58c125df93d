/-! THE OUTLOOK: what a bench still holds -/
theorem nI_or (a b : Nat) : nI a ||| nI b = nI (a ||| b) := by
  apply Int32.toBitVec_inj.mp
  show BitVec.ofNat 32 a ||| BitVec.ofNat 32 b = BitVec.ofNat 32 (a ||| b)
  apply BitVec.eq_of_getLsbD_eq
  intro i hi
  rw [BitVec.getLsbD_or, BitVec.getLsbD_ofNat, BitVec.getLsbD_ofNat, BitVec.getLsbD_ofNat, Nat.testBit_or]
  cases decide (i < 32) <;> simp
theorem ps_2 : ∀ p, p < 31 → ps p = nI (2 ^ p) := by decide +kernel
theorem bt_nI {t p : Nat} (hp : p < 32) : bt (nI t) p = t.testBit p := by
  show (BitVec.ofNat 32 t).getLsbD p = _
  rw [BitVec.getLsbD_ofNat, decide_eq_true hp, Bool.true_and]
theorem or_lt {n t p : Nat} (ht : t < 2 ^ n) (hp : p < n) : t ||| 2 ^ p < 2 ^ n := Nat.or_lt_two_pow ht (Nat.pow_lt_pow_right (by decide) hp)
theorem or_gt {t p : Nat} (h : t.testBit p = false) : t < t ||| 2 ^ p := by
  have h1 : t ≤ t ||| 2 ^ p := Nat.left_le_or
  have h2 : t ≠ t ||| 2 ^ p := fun e => by
    have : (t ||| 2 ^ p).testBit p = true := by rw [Nat.testBit_or, Nat.testBit_two_pow_self, Bool.or_true]
    rw [← e, h] at this
    cases this
  omega
theorem pw12 {n : Nat} (h : n ≤ 12) : 2 ^ n ≤ 4096 := Nat.pow_le_pow_right (by decide) h
theorem Bd_nI {σ : Nat → Int32} {t : Nat} (h : t < 2 ^ n_ σ) : Bd σ (nI t) := fun i hi q => by
  rw [bt_nI hi] at q
  by_cases z : i < n_ σ
  · exact z
  · have := Nat.testBit_lt_two_pow (Nat.lt_of_lt_of_le h (Nat.pow_le_pow_right (by decide) (Nat.le_of_not_lt z)))
    rw [this] at q
    cases q
theorem or_no {σ : Nat → Int32} (hS : Sv σ) {t p : Nat} (ht : t < 2 ^ n_ σ) (hp : p < 32) (h : bt (orS σ (nI t)) p = true) : p < n_ σ ∧ t.testBit p = false := by
  rw [or_b hS (Bd_nI ht) hp] at h
  simp only [Bool.and_eq_true, decide_eq_true_eq, Bool.not_eq_true'] at h
  rw [bt_nI hp] at h
  exact ⟨h.1, h.2.1⟩
/-- one set worked out from a table of the greater ones -/
def wkF (σ : Nat → Int32) (md : Int32) (T : Nat → Int32) (t : Nat) : Nat → Nat → Int32 → Int32 → Int32 → Int64 → Int32 → Int32
  | 0, _, c, mx, mn, s, fl => if md = 1 then (if c = 0 then 0 else mn) else if md = 2 then (if c = 0 then 1 else Int64.toInt32 (lrem s 1000000007)) else if md = 3 then fl else mx
  | m + 1, p, c, mx, mn, s, fl => if bt (orS σ (nI t)) p = true then wkF σ md T t m (p + 1) (c + 1) (if T (t ||| 2 ^ p) + (if md = 4 then σ 6 + σ (12 + p) else 1) ≤ mx then mx else T (t ||| 2 ^ p) + (if md = 4 then σ 6 + σ (12 + p) else 1)) (if mn ≤ T (t ||| 2 ^ p) + (if md = 4 then σ 6 + σ (12 + p) else 1) then mn else T (t ||| 2 ^ p) + (if md = 4 then σ 6 + σ (12 + p) else 1)) (s + Int32.toInt64 (T (t ||| 2 ^ p))) (if T (t ||| 2 ^ p) = 0 then 1 else fl) else wkF σ md T t m (p + 1) c mx mn s fl
def wk (σ : Nat → Int32) (md : Int32) (T : Nat → Int32) (t : Nat) : Int32 := wkF σ md T t (n_ σ) 0 0 0 99 0 0
theorem wk_cg {σ : Nat → Int32} {md : Int32} {T T' : Nat → Int32} {t : Nat} (h : ∀ p, p < 12 → bt (orS σ (nI t)) p = true → T (t ||| 2 ^ p) = T' (t ||| 2 ^ p)) : ∀ m p c mx mn s fl, p + m ≤ 12 → wkF σ md T t m p c mx mn s fl = wkF σ md T' t m p c mx mn s fl := by
  intro m
  induction m with
  | zero => intros; rfl
  | succ m ih =>
    intro p c mx mn s fl hp
    rw [wkF, wkF]
    by_cases z : bt (orS σ (nI t)) p = true
    · rw [if_pos z, if_pos z, h p (by omega) z]; exact ih _ _ _ _ _ _ (by omega)
    · rw [if_neg z, if_neg z]; exact ih _ _ _ _ _ _ (by omega)
def gF (σ : Nat → Int32) (md : Int32) : Nat → Nat → Int32
  | 0, _ => 0
  | f + 1, t => wk σ md (gF σ md f) t
theorem gF_st {σ : Nat → Int32} (hS : Sv σ) (md : Int32) : ∀ f t, t < 2 ^ n_ σ → 4096 - t ≤ f → ∀ f', 4096 - t ≤ f' → gF σ md f t = gF σ md f' t := by
  intro f
  induction f with
  | zero => intro t ht g; have := pw12 hS.n12; omega
  | succ f ih =>
    intro t ht g f' g'
    have := pw12 hS.n12
    obtain ⟨k, rfl⟩ : ∃ k, f' = k + 1 := ⟨f' - 1, by omega⟩
    rw [gF, gF]
    unfold wk
    refine wk_cg (fun p hp z => ?_) _ _ _ _ _ _ _ (by have := hS.n12; omega)
    obtain ⟨h1, h2⟩ := or_no hS ht (by omega) z
    have := or_gt h2
    exact ih _ (or_lt ht h1) (by omega) _ (by omega)
def gW (σ : Nat → Int32) (md : Int32) (t : Nat) : Int32 := gF σ md 4096 t
theorem gW_eq {σ : Nat → Int32} (hS : Sv σ) (md : Int32) {t : Nat} (ht : t < 2 ^ n_ σ) : gW σ md t = wk σ md (gW σ md) t := by
  unfold gW
  rw [show gF σ md 4096 t = wk σ md (gF σ md 4095) t from rfl]
  unfold wk
  refine wk_cg (fun p hp z => ?_) _ _ _ _ _ _ _ (by have := hS.n12; omega)
  obtain ⟨h1, h2⟩ := or_no hS ht (by omega) z
  have := or_gt h2
  exact gF_st hS md _ _ (or_lt ht h1) (by omega) _ (by omega)
theorem m_worksSet {w : Wd} {σ : Nat → Int32} (h : Lay w) (hσ : wI w 97 = σ) (hS : Sv σ) {t : Nat} (ht : t < 2 ^ n_ σ) (md : Int32) : f_X9_worksSet 96 (nI t) md w = some (wk σ md (wI w 100) t, w) := by
  have hn := hS.n12
  have h4 := pw12 hn
  have a2 : aK 11 w 97 2 = true := la_97 h (show 2 < 1444 by decide)
  have a6 : aK 11 w 97 6 = true := la_97 h (show 6 < 1444 by decide)
  have L : ∀ n m p c mx mn s fl, p + m = n_ σ → m < n → L_X9_worksSet_18 n 96 (nI t) md c mx mn s fl (nI p) w = some (wkF σ md (wI w 100) t m p c mx mn s fl, w) := by
    intro n
    induction n with
    | zero => intro m p c mx mn s fl _ g; omega
    | succ n ih =>
      intro m p c mx mn s fl g1 g2
      unfold L_X9_worksSet_18
      simp only [lk_96 h, lr_96_0 h, bd1_s, bd2_s, lb_e, ↓reduceIte, a2, show nx 2 = 2 from rfl, hσ, hS.n]
      cases m with
      | zero =>
        rw [if_pos ((nI_le' (by omega) (by omega)).mpr (by omega)), wkF]
        by_cases d1 : md = 1
        · rw [if_pos d1, if_pos d1]
        · rw [if_neg d1, if_neg d1]
          by_cases d2 : md = 2
          · rw [if_pos d2, if_pos d2]
            split <;> rfl
          · rw [if_neg d2, if_neg d2]
            split <;> rfl
      | succ m =>
        have hp : p < n_ σ := by omega
        have e12 : (12 : Int32) + nI p = nI (12 + p) := nI_add 12 p
        rw [if_neg (fun z => by have := (nI_le' (by omega) (by omega)).mp z; omega), m_mayOrd h hσ hS (Bd_nI ht) hp, bd2_s, wkF]
        have eo : nI t ||| (1 : Int32) <<< (nI p &&& 31) = nI (t ||| 2 ^ p) := by
          have := ps_2 p (by omega)
          unfold ps at this
          rw [this, nI_or]
        have ol := or_lt ht hp
        by_cases z : bt (orS σ (nI t)) p = true
        · rw [if_pos z, if_pos z, if_neg (by decide)]
          simp only [lr_96_5 h, bd1_s, eo, la_100 h (show t ||| 2 ^ p < 4096 by omega), ↓reduceIte, nx_nI (show t ||| 2 ^ p < 2 ^ 31 by omega), lb_e, lr_96_0 h, a6, e12, la_97 h (show 12 + p < 1444 by omega), show nx 6 = 6 from rfl, nx_nI (show 12 + p < 2 ^ 31 by omega), hσ, j_X9_worksSet_79, nI_s1, lk_96 h]
          by_cases d4 : md = 4
          · simp only [d4, ↓reduceIte]
            rw [← d4]
            have := ih m (p + 1) (c + 1) (if wI w 100 (t ||| 2 ^ p) + (if md = 4 then σ 6 + σ (12 + p) else 1) ≤ mx then mx else wI w 100 (t ||| 2 ^ p) + (if md = 4 then σ 6 + σ (12 + p) else 1)) (if mn ≤ wI w 100 (t ||| 2 ^ p) + (if md = 4 then σ 6 + σ (12 + p) else 1) then mn else wI w 100 (t ||| 2 ^ p) + (if md = 4 then σ 6 + σ (12 + p) else 1)) (s + Int32.toInt64 (wI w 100 (t ||| 2 ^ p))) (if wI w 100 (t ||| 2 ^ p) = 0 then 1 else fl) (by omega) (by omega)
            simp only [if_pos d4] at this
            exact this
          · simp only [if_neg d4]
            have := ih m (p + 1) (c + 1) (if wI w 100 (t ||| 2 ^ p) + (if md = 4 then σ 6 + σ (12 + p) else 1) ≤ mx then mx else wI w 100 (t ||| 2 ^ p) + (if md = 4 then σ 6 + σ (12 + p) else 1)) (if mn ≤ wI w 100 (t ||| 2 ^ p) + (if md = 4 then σ 6 + σ (12 + p) else 1) then mn else wI w 100 (t ||| 2 ^ p) + (if md = 4 then σ 6 + σ (12 + p) else 1)) (s + Int32.toInt64 (wI w 100 (t ||| 2 ^ p))) (if wI w 100 (t ||| 2 ^ p) = 0 then 1 else fl) (by omega) (by omega)
            simp only [if_neg d4] at this
            exact this
        · rw [if_neg z, if_neg z, if_pos rfl]
          simp only [lb_e, nI_s1]
          exact ih m (p + 1) c mx mn s fl (by omega) (by omega)
  exact L FU (n_ σ) 0 0 0 99 0 0 (by omega) (by unfold FU; omega)
theorem Bd_nat {σ : Nat → Int32} {x : Int32} (h : Bd σ x) : ∃ t, t < 2 ^ n_ σ ∧ x = nI t := by
  refine ⟨x.toBitVec.toNat, ?_, ?_⟩
  · apply Nat.lt_pow_two_of_testBit
    intro i hi
    by_cases z : i < 32
    · exact h.f z hi
    · exact Nat.testBit_lt_two_pow (Nat.lt_of_lt_of_le x.toBitVec.isLt (Nat.pow_le_pow_right (by decide) (by omega)))
  · apply Int32.toBitVec_inj.mp
    show x.toBitVec = BitVec.ofNat 32 _
    rw [BitVec.ofNat_toNat, BitVec.setWidth_eq]
theorem full_nI {σ : Nat → Int32} (hS : Sv σ) : (1 : Int32) <<< (nI (n_ σ) &&& 31) - 1 = nI (2 ^ n_ σ - 1) := by
  have h12 := hS.n12
  have := ps_2 (n_ σ) (by omega)
  unfold ps at this
  rw [this]
  exact nI_sub (b := 1) Nat.one_le_two_pow
theorem m_works {w : Wd} {σ : Nat → Int32} (h : Lay w) (hσ : wI w 97 = σ) (hS : Sv σ) {t0 : Nat} (ht : t0 < 2 ^ n_ σ) (e0 : tk σ = nI t0) (md : Int32) : ∃ w', f_X9_works 96 md w = some (gW σ md t0, w') ∧ Fr (fun a => a = 100) w w' ∧ ∀ t, t0 ≤ t → t < 2 ^ n_ σ → wI w' 100 t = gW σ md t := by
  have hn := hS.n12
  have h4 := pw12 hn
  have a2 : aK 11 w 97 2 = true := la_97 h (show 2 < 1444 by decide)
  have L : ∀ n k (w1 : Wd), Fr (fun a => a = 100) w w1 → t0 ≤ k → k ≤ 2 ^ n_ σ → k - t0 < n → (∀ t, k ≤ t → t < 2 ^ n_ σ → wI w1 100 t = gW σ md t) → ∃ w', L_X9_works_16 n 96 md (nI t0) (nI k - 1) w1 = some (gW σ md t0, w') ∧ Fr (fun a => a = 100) w w' ∧ ∀ t, t0 ≤ t → t < 2 ^ n_ σ → wI w' 100 t = gW σ md t := by
    intro n
    induction n with
    | zero => intro k w1 _ _ _ g; omega
    | succ n ih =>
      intro k w1 F1 g1 g2 g3 g4
      have h1 := F1.lay h
      have n1 : wI w1 97 = σ := by rw [F1.2.2.2.2 97 (by decide)]; exact hσ
      unfold L_X9_works_16
      have lt : nI k - 1 < nI t0 ↔ k ≤ t0 := by rw [lt_I, sub1_I (by omega), nI_toInt (by omega)]; omega
      by_cases z : k = t0
      · subst z
        rw [if_pos (lt.mpr (Nat.le_refl _))]
        simp only [lk_96 h1, ↓reduceIte, lr_96_5 h1, bd1_s, la_100 h1 (show k < 4096 by omega), nx_nI (show k < 2 ^ 31 by omega)]
        rw [g4 k (Nat.le_refl _) ht]
        exact ⟨w1, rfl, F1, g4⟩
      · rw [if_neg (fun y => by have := lt.mp y; omega)]
        obtain ⟨j, rfl⟩ : ∃ j, k = j + 1 := ⟨k - 1, by omega⟩
        have ej : nI (j + 1) - 1 = nI j := by rw [pr_nI (by omega)]; rfl
        have hj : j < 2 ^ n_ σ := by omega
        have ws := m_worksSet h1 n1 hS hj md
        have eg : wk σ md (wI w1 100) j = gW σ md j := by
          rw [gW_eq hS md hj]
          unfold wk
          refine wk_cg (fun p hp z => ?_) _ _ _ _ _ _ _ (by omega)
          obtain ⟨q1, q2⟩ := or_no hS hj (by omega) z
          have := or_gt q2
          exact g4 _ (by omega) (or_lt hj q1)
        rw [eg] at ws
        rw [ej]
        simp only [lk_96 h1, ↓reduceIte, lr_96_5 h1, bd1_s, ws, bd2_s, la_100 h1 (show j < 4096 by omega), nx_nI (show j < 2 ^ 31 by omega), lb_e]
        rw [← Int32.sub_eq_add_neg]
        refine ih j _ (F1.tr (Fr.sI _ _ _ rfl)) (by omega) (by omega) (by omega) (fun t t1 t2 => ?_)
        rw [wI_s1]
        by_cases y : t = j
        · subst y; rw [upd_s]
        · rw [upd_n _ _ y]; exact g4 t (by omega) t2
  obtain ⟨w', f1, F1, y1⟩ := L FU (2 ^ n_ σ) w (Fr.rf w) (by omega) (Nat.le_refl _) (by unfold FU; omega) (fun t t1 t2 => by omega)
  refine ⟨w', ?_, F1, y1⟩
  simp only [f_X9_works, lk_96 h, lr_96_0 h, bd1_s, bd2_s, lb_e, ↓reduceIte, m_taken h hσ hS, a2, show nx 2 = 2 from rfl, hσ, hS.n, full_nI hS, e0]
  rw [show nI (2 ^ n_ σ - 1) = nI (2 ^ n_ σ) - 1 from (nI_sub (b := 1) Nat.one_le_two_pow).symm]
  exact f1
