/-! THE CLASS's BITS: all places at once -/
def wa (σ : Nat → Int32) (t e : Int32) : Int32 := ((t <<< ((1 : Int32) &&& 31)) ||| (if σ 3 = 1 then t >>> ((nI (n_ σ) - 1) &&& 31) else e)) &&& (ps (n_ σ) - 1)
def wb (σ : Nat → Int32) (t e : Int32) : Int32 := (t >>> ((1 : Int32) &&& 31)) ||| ((if σ 3 = 1 then t &&& 1 else e) <<< ((nI (n_ σ) - 1) &&& 31))
def orS (σ : Nat → Int32) (t : Int32) : Int32 := ((ps (n_ σ) - 1) &&& (t ^^^ (-1))) &&& ((wa σ t (σ 4) ^^^ wb σ t (σ 4)) ^^^ (-1))
def Bd (σ : Nat → Int32) (t : Int32) : Prop := ∀ i, i < 32 → bt t i = true → i < n_ σ
theorem Bd.f {σ : Nat → Int32} {t : Int32} (h : Bd σ t) {i : Nat} (hi : i < 32) (hn : n_ σ ≤ i) : bt t i = false := by
  cases e : bt t i
  · rfl
  · have := h i hi e; omega
theorem b_e {e : Int32} (he : e = 0 ∨ e = 1) {i : Nat} (hi : i < 32) : bt e i = (decide (e = 1) && decide (i = 0)) := by
  rcases he with q | q <;> subst q
  · rw [b_0]; rfl
  · rw [b_1 i hi]; rfl
theorem wa_b {σ : Nat → Int32} {t e : Int32} (hS : Sv σ) (hB : Bd σ t) (he : e = 0 ∨ e = 1) {p : Nat} (hp : p < 32) : bt (wa σ t e) p = (decide (p < n_ σ) && if p = 0 then (if σ 3 = 1 then bt t (n_ σ - 1) else decide (e = 1)) else bt t (p - 1)) := by
  have hn := hS.n12
  have h1 := hS.n1
  unfold wa
  rw [b_and, b_or, show ((1 : Int32) &&& 31) = (nI 1 &&& 31) from rfl, b_shl 1 (by decide) t hp, show ps (n_ σ) - 1 = ((1 : Int32) <<< (nI (n_ σ) &&& 31)) - 1 from rfl, b_all (n_ σ) (by omega) p hp, Bool.and_comm]
  by_cases q : p < n_ σ
  rotate_left
  · rw [decide_eq_false q, Bool.false_and, Bool.false_and]
  rw [decide_eq_true q, Bool.true_and, Bool.true_and, pr_nI h1]
  by_cases p0 : p = 0
  · subst p0
    rw [if_pos rfl, decide_eq_false (show ¬ 1 ≤ 0 by omega), Bool.false_and, Bool.false_or]
    by_cases r : σ 3 = 1
    · rw [if_pos r, if_pos r, b_sshr (n_ σ - 1) (by omega) t hp, if_pos (by omega), Nat.add_zero]
    · rw [if_neg r, if_neg r, b_e he hp]; simp
  · rw [if_neg p0, decide_eq_true (show 1 ≤ p by omega), Bool.true_and]
    have e2 : bt (if σ 3 = 1 then t >>> (nI (n_ σ - 1) &&& 31) else e) p = false := by
      by_cases r : σ 3 = 1
      · rw [if_pos r, b_sshr (n_ σ - 1) (by omega) t hp]
        split
        · exact hB.f (by omega) (by omega)
        · exact hB.f (by omega) (by omega)
      · rw [if_neg r, b_e he hp, decide_eq_false p0, Bool.and_false]
    rw [e2, Bool.or_false]
theorem wb_b {σ : Nat → Int32} {t e : Int32} (hS : Sv σ) (hB : Bd σ t) (he : e = 0 ∨ e = 1) {p : Nat} (hp : p < 32) : bt (wb σ t e) p = (decide (p < n_ σ) && if p + 1 < n_ σ then bt t (p + 1) else (if σ 3 = 1 then bt t 0 else decide (e = 1))) := by
  have hn := hS.n12
  have h1 := hS.n1
  unfold wb
  rw [b_or, show ((1 : Int32) &&& 31) = (nI 1 &&& 31) from rfl, b_sshr 1 (by decide) t hp, pr_nI h1, b_shl (n_ σ - 1) (by omega) _ hp]
  have ef : (if 1 + p < 32 then bt t (1 + p) else bt t 31) = (decide (p + 1 < n_ σ) && bt t (p + 1)) := by
    by_cases q : p + 1 < n_ σ
    · rw [if_pos (by omega), decide_eq_true q, Bool.true_and, Nat.add_comm]
    · rw [decide_eq_false q, Bool.false_and]
      split
      · exact hB.f (by omega) (by omega)
      · exact hB.f (by omega) (by omega)
  rw [ef]
  have el : ∀ i, i < 32 → bt (if σ 3 = 1 then t &&& 1 else e) i = (decide (i = 0) && (if σ 3 = 1 then bt t 0 else decide (e = 1))) := by
    intro i hi
    by_cases r : σ 3 = 1
    · rw [if_pos r, if_pos r, b_and, b_1 i hi]
      by_cases z : i = 0
      · subst z; simp
      · rw [decide_eq_false z, Bool.and_false, Bool.false_and]
    · rw [if_neg r, if_neg r, b_e he hi, Bool.and_comm]
  rw [el (p - (n_ σ - 1)) (by omega)]
  by_cases q : p + 1 < n_ σ
  · rw [decide_eq_true q, if_pos q, decide_eq_true (show p < n_ σ by omega), decide_eq_false (show ¬ n_ σ - 1 ≤ p by omega), Bool.false_and, Bool.or_false]
  · rw [decide_eq_false q, if_neg q, Bool.false_and, Bool.false_or, decide_eq_true (show n_ σ - 1 ≤ p by omega), Bool.true_and]
    congr 1
    by_cases z : p < n_ σ
    · rw [decide_eq_true z, decide_eq_true (show p - (n_ σ - 1) = 0 by omega)]
    · rw [decide_eq_false z, decide_eq_false (show ¬ p - (n_ σ - 1) = 0 by omega)]
theorem wb_Bd {σ : Nat → Int32} {t e : Int32} (hS : Sv σ) (hB : Bd σ t) (he : e = 0 ∨ e = 1) : Bd σ (wb σ t e) := by
  intro i hi q
  rw [wb_b hS hB he hi, Bool.and_eq_true, decide_eq_true_eq] at q
  exact q.1
theorem so_Bd {σ : Nat → Int32} (hS : Sv σ) {i : Nat} (hi : i < c_ σ) : Bd σ (so σ i) := by
  intro q hq e
  have hn := hS.n12
  have h1 := hS.n1
  unfold so at e
  rcases (hS.2.2.2.2 i hi).2 with z | ⟨p, hp, z, -⟩
  · rw [z, if_pos m1_lt, b_0] at e; cases e
  · rw [z, if_neg (nI_nlt0 (by omega)), nx_nI (by omega)] at e
    have hx : nxt (n_ σ) p < n_ σ := by unfold nxt; split <;> omega
    split at e
    · rw [b_or, ps_b (by omega) hq, ps_b (by omega) hq, Bool.or_eq_true, decide_eq_true_eq, decide_eq_true_eq] at e
      omega
    · rw [ps_b (by omega) hq, decide_eq_true_eq] at e
      omega
theorem tk_Bd {σ : Nat → Int32} (hS : Sv σ) : Bd σ (tk σ) := by
  intro q hq e
  obtain ⟨k, h1, h2⟩ := (oU_b _ q _).mp e
  exact so_Bd hS h1 q hq h2
theorem tf_Bd {σ : Nat → Int32} (hS : Sv σ) : Bd σ (tf σ) := by
  intro q hq e
  obtain ⟨k, h1, h2⟩ := (oU_b _ q _).mp e
  split at h2
  · exact so_Bd hS h1 q hq h2
  · rw [b_0] at h2; cases h2
/-! by sides -/
theorem wa_sd {σ : Nat → Int32} {t : Int32} (hS : Sv σ) (hB : Bd σ t) {p : Nat} (hp : p < n_ σ) : bt (wa σ t (σ 4)) p = sd σ t p := by
  have hn := hS.n12
  rw [wa_b hS hB hS.2.2.2.1 (by omega), decide_eq_true hp, Bool.true_and]
  unfold sd
  by_cases r : σ 3 = 1
  · rw [if_pos r, if_pos r]
    by_cases z : p = 0
    · subst z
      rw [if_pos rfl, Nat.zero_add, Nat.mod_eq_of_lt (by omega)]
    · rw [if_neg z, show p + n_ σ - 1 = (p - 1) + n_ σ by omega, Nat.add_mod_right, Nat.mod_eq_of_lt (by omega)]
  · rw [if_neg r, if_neg r]
    by_cases z : p = 0
    · subst z
      rw [if_pos rfl, if_neg (by omega)]
    · rw [if_neg z, if_pos (by omega)]
theorem wb_sd {σ : Nat → Int32} {t : Int32} (hS : Sv σ) (hB : Bd σ t) {p : Nat} (hp : p < n_ σ) : bt (wb σ t (σ 4)) p = sd σ t (p + 2) := by
  have hn := hS.n12
  rw [wb_b hS hB hS.2.2.2.1 (by omega), decide_eq_true hp, Bool.true_and]
  unfold sd
  by_cases r : σ 3 = 1
  · rw [if_pos r, if_pos r, show p + 2 + n_ σ - 1 = (p + 1) + n_ σ by omega, Nat.add_mod_right]
    by_cases z : p + 1 < n_ σ
    · rw [if_pos z, Nat.mod_eq_of_lt z]
    · rw [if_neg z, show p + 1 = n_ σ by omega, Nat.mod_self]
  · rw [if_neg r, if_neg r]
    by_cases z : p + 1 < n_ σ
    · rw [if_pos z, if_pos (by omega), show p + 2 - 1 = p + 1 by omega]
    · rw [if_neg z, if_neg (by omega)]
theorem wbb_sd {σ : Nat → Int32} {t : Int32} (hS : Sv σ) (hB : Bd σ t) {p : Nat} (hp : p < n_ σ) (hf : p + 1 < n_ σ ∨ (σ 3 = 1 ∧ 2 ≤ n_ σ)) : bt (wb σ (wb σ t (σ 4)) (σ 4)) p = sd σ t (p + 3) := by
  have hn := hS.n12
  have hB2 := wb_Bd hS hB hS.2.2.2.1
  rw [wb_b hS hB2 hS.2.2.2.1 (by omega), decide_eq_true hp, Bool.true_and]
  by_cases z : p + 1 < n_ σ
  · rw [if_pos z, wb_sd hS hB z]
  · obtain ⟨r, h2⟩ := hf.resolve_left z
    rw [if_neg z, if_pos r, wb_sd hS hB (by omega)]
    unfold sd
    rw [if_pos r, if_pos r, show 0 + 2 + n_ σ - 1 = 1 + n_ σ by omega, show p + 3 + n_ σ - 1 = 1 + n_ σ + n_ σ by omega, Nat.add_mod_right, Nat.add_mod_right, Nat.add_mod_right]
theorem wf_fs {σ : Nat → Int32} (hS : Sv σ) {p : Nat} (hp : p < n_ σ) : bt (wa σ (tf σ) 0) p = fs_ σ p ∧ bt (wb σ (tf σ) 0) p = fs_ σ (p + 2) := by
  have hn := hS.n12
  have hB := tf_Bd hS
  have r3 := hS.2.2.1
  rw [wa_b hS hB (Or.inl rfl) (by omega), wb_b hS hB (Or.inl rfl) (by omega), decide_eq_true hp, Bool.true_and, Bool.true_and]
  unfold fs_
  constructor
  · by_cases z : p = 0
    · subst z
      rw [if_pos rfl, Nat.zero_add, Nat.mod_eq_of_lt (by omega)]
      rcases r3 with r | r
      · rw [if_neg (by rw [r]; decide), if_pos ⟨r, by omega⟩]; rfl
      · rw [if_pos r, if_neg (by rw [r]; exact fun q => absurd q.1 (by decide))]
    · rw [if_neg z, if_neg (fun q => q.2 (by omega)), show p + n_ σ - 1 = (p - 1) + n_ σ by omega, Nat.add_mod_right, Nat.mod_eq_of_lt (by omega)]
  · rw [show p + 2 + n_ σ - 1 = (p + 1) + n_ σ by omega, Nat.add_mod_right]
    by_cases z : p + 1 < n_ σ
    · rw [if_pos z, if_neg (fun q => q.2 (by omega)), Nat.mod_eq_of_lt z]
    · rw [if_neg z, show p + 1 = n_ σ by omega, Nat.mod_self]
      rcases r3 with r | r
      · rw [if_neg (by rw [r]; decide), if_pos ⟨r, by omega⟩]; rfl
      · rw [if_pos r, if_neg (by rw [r]; exact fun q => absurd q.1 (by decide))]
theorem or_b {σ : Nat → Int32} {t : Int32} (hS : Sv σ) (hB : Bd σ t) {p : Nat} (hp : p < 32) : bt (orS σ t) p = (decide (p < n_ σ) && (!bt t p && (sd σ t p == sd σ t (p + 2)))) := by
  have hn := hS.n12
  unfold orS
  rw [b_and, b_and, b_xm _ hp, b_xm _ hp, b_xor, show ps (n_ σ) - 1 = ((1 : Int32) <<< (nI (n_ σ) &&& 31)) - 1 from rfl, b_all (n_ σ) (by omega) p hp]
  by_cases q : p < n_ σ
  · rw [wa_sd hS hB q, wb_sd hS hB q, decide_eq_true q]
    cases bt t p <;> cases sd σ t p <;> cases sd σ t (p + 2) <;> rfl
  · rw [decide_eq_false q]; rfl
