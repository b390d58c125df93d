/-! THE CLASS: places for one -/
theorem x_wa {w : Wd} {b : Nat} {σ : Nat → Int32} (h : Lay w) (hb : bI b) (hS : Sv σ) (hR : RS w b σ) (t e : Int32) : f_X0_withAhead (b + 1) t e w = some (wa σ t e, w) := by
  simp only [f_X0_withAhead, li_k h hb, li_r0 h hb, li_r1 h hb, li_r3 h hb, li_r4 h hb, li_r8 h hb, li_r10 h hb, li_k1 h hb, bd1_s, bd2_s, lb_e, ↓reduceIte, hR.2.1.1, hR.2.1.2.1, hR.2.1.2.2.2, hS.n, wa]
theorem x_wb {w : Wd} {b : Nat} {σ : Nat → Int32} (h : Lay w) (hb : bI b) (hS : Sv σ) (hR : RS w b σ) (t e : Int32) : f_X0_withBehind (b + 1) t e w = some (wb σ t e, w) := by
  simp only [f_X0_withBehind, li_k h hb, li_r0 h hb, li_r1 h hb, li_r3 h hb, li_r4 h hb, li_r8 h hb, li_r10 h hb, li_k1 h hb, bd1_s, bd2_s, lb_e, ↓reduceIte, hR.2.1.1, hR.2.1.2.1, hS.n, wb]
theorem x_or {w : Wd} {b : Nat} {σ : Nat → Int32} (h : Lay w) (hb : bI b) (hS : Sv σ) (hR : RS w b σ) (t : Int32) : f_X0_ordinary (b + 1) t w = some (orS σ t, w) := by
  simp only [f_X0_ordinary, li_k h hb, li_r0 h hb, li_r1 h hb, li_r3 h hb, li_r4 h hb, li_r8 h hb, li_r10 h hb, li_k1 h hb, bd1_s, bd2_s, lb_e, ↓reduceIte, x_wa h hb hS hR, x_wb h hb hS hR, hR.2.1.2.2.1, hR.2.1.2.2.2, orS]
theorem plK_b {σ : Nat → Int32} (hS : Sv σ) (k : Int32) {p : Nat} (hp : p < 32) : bt (plK σ k) p = (decide (p < n_ σ) && myS σ k p) := by
  have hn := hS.n12
  rw [Bool.eq_iff_iff, Bool.and_eq_true, decide_eq_true_eq]
  unfold plK
  rw [oU_b]
  constructor
  · rintro ⟨q, h1, h2⟩
    by_cases z : myS σ k q = true
    · rw [if_pos z, ps_b (by omega) hp, decide_eq_true_eq] at h2
      subst h2
      exact ⟨h1, z⟩
    · rw [if_neg z, b_0] at h2; cases h2
  · rintro ⟨h1, h2⟩
    exact ⟨p, h1, by rw [if_pos h2, ps_b (by omega) hp]; simp⟩
theorem and_0 {x y : Int32} (h : ∀ i, i < 32 → (bt x i && bt y i) = false) : x &&& y = 0 := b_zero fun i hi => by rw [b_and]; exact h i hi
theorem ps_and {p : Nat} (hp : p < 32) (t : Int32) : (ps p &&& t = 0) ↔ bt t p = false := by
  constructor
  · intro e
    have := congrArg (fun z => bt z p) e
    simp only [b_and, ps_b hp hp, b_0] at this
    simpa using this
  · intro e
    refine and_0 fun i hi => ?_
    rw [ps_b hp hi]
    by_cases q : i = p
    · subst q; rw [e, Bool.and_false]
    · rw [decide_eq_false q, Bool.false_and]
theorem ps2_and {p q : Nat} (hp : p < 32) (hq : q < 32) (t : Int32) : ((ps p ||| ps q) &&& t = 0) ↔ (bt t p = false ∧ bt t q = false) := by
  constructor
  · intro e
    have e1 := congrArg (fun z => bt z p) e
    have e2 := congrArg (fun z => bt z q) e
    simp only [b_and, b_or, ps_b hp hp, ps_b hq hp, ps_b hp hq, ps_b hq hq, b_0] at e1 e2
    simp at e1 e2
    exact ⟨e1, e2⟩
  · intro ⟨e1, e2⟩
    refine and_0 fun i hi => ?_
    rw [b_or, ps_b hp hi, ps_b hq hi]
    by_cases z : i = p
    · subst z; rw [e1, Bool.and_false]
    · by_cases z2 : i = q
      · subst z2; rw [e2, Bool.and_false]
      · rw [decide_eq_false z, decide_eq_false z2]; rfl
/-- ordinary kinds: free, and the sides -/
theorem myS_n {σ : Nat → Int32} (hS : Sv σ) {k : Int32} (hk : ¬ (k = 1 ∨ k = 3)) {p : Nat} (hp : p < n_ σ) : myS σ k p = (!bt (tk σ) p && cnd k (sd σ (tk σ) p) (sd σ (tk σ) (p + 2)) (decide (k = 2 ∨ k = 4) && (fs_ σ p || fs_ σ (p + 2)))) := by
  have hn := hS.n12
  unfold myS sat_
  rw [if_neg hk, if_neg hk, decide_eq_true (show ((k = 1 ∨ k = 3) → p + 1 < n_ σ ∨ (σ 3 = 1 ∧ 2 ≤ n_ σ)) from fun q => absurd q hk), Bool.true_and]
  congr 1
  rw [Bool.eq_iff_iff, decide_eq_true_eq, ps_and (by omega)]
  cases bt (tk σ) p <;> simp
theorem x_plK {w : Wd} {b : Nat} {σ : Nat → Int32} (h : Lay w) (hb : bI b) (hS : Sv σ) (hR : RS w b σ) {k : Nat} (hk : k < 6) {fr : Int32} (hfr : k = 2 ∨ k = 4 → fr = tf σ) : f_X1_placesForKind b (nI k) (tk σ) fr w = some (plK σ (nI k), w) := by
  have hn := hS.n12
  have h1 := hS.n1
  have hB := tk_Bd hS
  have hq : k = 0 ∨ k = 1 ∨ k = 2 ∨ k = 3 ∨ k = 4 ∨ k = 5 := by omega
  have A : ∀ i, i < 32 → bt (ps (n_ σ) - 1) i = decide (i < n_ σ) := fun i hi => b_all (n_ σ) (by omega) i hi
  have hbr : ∀ fat : Int32, (fat = 0 ∨ fat = 1) → ∀ kk : Int32, (kk = 1 ∨ kk = 3) → (fat = 0 ↔ kk = 1) → f_X0_broad (b + 1) (tk σ) fat w = some (plK σ kk, w) := by
    intro fat h01 kk hkk hfk
    by_cases h2 : 2 ≤ n_ σ
    · simp only [f_X0_broad, li_k h hb, li_r0 h hb, li_r1 h hb, li_r3 h hb, li_r4 h hb, li_r8 h hb, li_r10 h hb, li_k1 h hb, bd1_s, bd2_s, lb_e, ↓reduceIte, x_wa h hb hS hR, x_wb h hb hS hR, hR.2.1.1, hR.2.1.2.2.1, hR.2.1.2.2.2, hS.n, show (2 : Int32) = nI 2 from rfl, (nI_le' (show n_ σ < 2 ^ 31 by omega) (show 2 < 2 ^ 31 by decide)).mpr h2]
      congr 2
      apply b_ext
      intro i hi
      rw [plK_b hS kk hi, b_and, b_and, b_and, b_xm _ hi, b_xm _ hi, b_xm _ hi, A i hi]
      by_cases q : i < n_ σ
      rotate_left
      · rw [decide_eq_false q]; rfl
      rw [decide_eq_true q, Bool.true_and, Bool.true_and, wb_b hS hB (Or.inr rfl) hi, decide_eq_true q, Bool.true_and]
      unfold myS sat_
      rw [if_pos hkk, if_pos hkk]
      have enx : nxt (n_ σ) i < n_ σ := by unfold nxt; split <;> omega
      have edj : decide ((ps i ||| ps (nxt (n_ σ) i)) &&& tk σ = 0) = (!bt (tk σ) i && !bt (tk σ) (nxt (n_ σ) i)) := by
        rw [Bool.eq_iff_iff, decide_eq_true_eq, ps2_and hi (by omega)]
        cases bt (tk σ) i <;> cases bt (tk σ) (nxt (n_ σ) i) <;> simp
      rw [edj]
      by_cases hf : i + 1 < n_ σ ∨ (σ 3 = 1 ∧ 2 ≤ n_ σ)
      · rw [decide_eq_true (show ((kk = 1 ∨ kk = 3) → i + 1 < n_ σ ∨ (σ 3 = 1 ∧ 2 ≤ n_ σ)) from fun _ => hf), Bool.true_and]
        have er : (if i + 1 < n_ σ then bt (tk σ) (i + 1) else if σ 3 = 1 then bt (tk σ) 0 else decide ((1 : Int32) = 1)) = bt (tk σ) (nxt (n_ σ) i) := by
          unfold nxt
          by_cases z : i + 1 < n_ σ
          · rw [if_pos z, if_pos z]
          · rw [if_neg z, if_neg z, if_pos (hf.resolve_left z).1]
        rw [er]
        rcases h01 with e | e
        · have ek : kk = 1 := hfk.mp e
          subst e; subst ek
          rw [if_pos rfl, b_xor, wa_sd hS hB q, wbb_sd hS hB q hf]
          unfold cnd
          cases bt (tk σ) i <;> cases bt (tk σ) (nxt (n_ σ) i) <;> cases sd σ (tk σ) i <;> cases sd σ (tk σ) (i + 3) <;> rfl
        · have ek : kk = 3 := hkk.resolve_left (fun q => by have := hfk.mpr q; rw [e] at this; cases this)
          subst e; subst ek
          rw [if_neg (by decide), b_or, wa_sd hS hB q, wbb_sd hS hB q hf]
          unfold cnd
          cases bt (tk σ) i <;> cases bt (tk σ) (nxt (n_ σ) i) <;> cases sd σ (tk σ) i <;> cases sd σ (tk σ) (i + 3) <;> rfl
      · rw [decide_eq_false (show ¬ ((kk = 1 ∨ kk = 3) → i + 1 < n_ σ ∨ (σ 3 = 1 ∧ 2 ≤ n_ σ)) from fun z => hf (z hkk)), Bool.false_and, if_neg (fun z => hf (Or.inl z)), if_neg (fun z => hf (Or.inr ⟨z, h2⟩))]
        cases bt (tk σ) i <;> rfl
    · simp only [f_X0_broad, li_k h hb, li_r0 h hb, li_r1 h hb, li_r3 h hb, li_r4 h hb, li_r8 h hb, li_r10 h hb, li_k1 h hb, bd1_s, bd2_s, lb_e, ↓reduceIte, hR.2.1.1, hS.n, show (2 : Int32) = nI 2 from rfl, show ¬ nI 2 ≤ nI (n_ σ) from fun q => h2 ((nI_le' (show n_ σ < 2 ^ 31 by omega) (show 2 < 2 ^ 31 by decide)).mp q)]
      congr 2
      symm
      apply b_zero
      intro i hi
      rw [plK_b hS kk hi]
      by_cases q : i < n_ σ
      rotate_left
      · rw [decide_eq_false q]; rfl
      unfold myS
      rw [decide_eq_false (show ¬ ((kk = 1 ∨ kk = 3) → i + 1 < n_ σ ∨ (σ 3 = 1 ∧ 2 ≤ n_ σ)) from fun z => by have := z hkk; omega), Bool.false_and, Bool.and_false]
  have hnb : ∀ kk : Int32, ¬ (kk = 1 ∨ kk = 3) → ∀ S : Int32, (∀ i, i < 32 → bt S i = (decide (i < n_ σ) && (!bt (tk σ) i && cnd kk (sd σ (tk σ) i) (sd σ (tk σ) (i + 2)) (decide (kk = 2 ∨ kk = 4) && (fs_ σ i || fs_ σ (i + 2)))))) → S = plK σ kk := by
    intro kk hkk S hSb
    apply b_ext
    intro i hi
    rw [plK_b hS kk hi, hSb i hi]
    by_cases q : i < n_ σ
    · rw [myS_n hS hkk q]
    · rw [decide_eq_false q]; rfl
  rcases hq with rfl | rfl | rfl | rfl | rfl | rfl
  · simp only [f_X1_placesForKind, j_X1_placesForKind_135, li_k h hb, li_r0 h hb, li_r1 h hb, li_r3 h hb, li_r4 h hb, li_r8 h hb, li_r10 h hb, li_k1 h hb, bd1_s, bd2_s, lb_e, ↓reduceIte, x_wa h hb hS hR, x_wb h hb hS hR, x_or h hb hS hR, show ¬ nI 0 = 1 by decide, show ¬ nI 0 = 3 by decide, show ¬ nI 0 = 5 by decide, show ¬ nI 0 = 2 by decide, show ¬ nI 0 = 4 by decide]
    congr 2
    refine hnb _ (by decide) _ fun i hi => ?_
    rw [or_b hS hB hi]
    rfl
  · simp only [f_X1_placesForKind, j_X1_placesForKind_10, li_k h hb, li_r0 h hb, li_r1 h hb, li_r3 h hb, li_r4 h hb, li_r8 h hb, li_r10 h hb, li_k1 h hb, bd1_s, bd2_s, lb_e, ↓reduceIte, show nI 1 = 1 from rfl, show ¬ (1 : Int32) = 3 by decide, hbr 0 (Or.inl rfl) 1 (Or.inl rfl) (by decide)]
  · have ef := hfr (Or.inl rfl)
    subst ef
    simp only [f_X1_placesForKind, j_X1_placesForKind_108, j_X1_placesForKind_135, li_k h hb, li_r0 h hb, li_r1 h hb, li_r3 h hb, li_r4 h hb, li_r8 h hb, li_r10 h hb, li_k1 h hb, bd1_s, bd2_s, lb_e, ↓reduceIte, x_wa h hb hS hR, x_wb h hb hS hR, x_or h hb hS hR, show ¬ nI 2 = 1 by decide, show ¬ nI 2 = 3 by decide, show ¬ nI 2 = 5 by decide, show nI 2 = 2 from rfl, show ¬ (2 : Int32) = 1 by decide, show ¬ (2 : Int32) = 3 by decide, show ¬ (2 : Int32) = 5 by decide, show ¬ (2 : Int32) = 4 by decide, hR.2.1.2.2.2]
    congr 2
    refine hnb _ (by decide) _ fun i hi => ?_
    rw [b_or, or_b hS hB hi, b_and, b_and, b_or, b_xm _ hi, A i hi]
    by_cases q : i < n_ σ
    · rw [(wf_fs hS q).1, (wf_fs hS q).2, decide_eq_true q]
      unfold cnd
      cases bt (tk σ) i <;> cases sd σ (tk σ) i <;> cases sd σ (tk σ) (i + 2) <;> cases fs_ σ i <;> cases fs_ σ (i + 2) <;> rfl
    · rw [decide_eq_false q]; rfl
  · simp only [f_X1_placesForKind, j_X1_placesForKind_10, li_k h hb, li_r0 h hb, li_r1 h hb, li_r3 h hb, li_r4 h hb, li_r8 h hb, li_r10 h hb, li_k1 h hb, bd1_s, bd2_s, lb_e, ↓reduceIte, show nI 3 = 3 from rfl, show ¬ (3 : Int32) = 1 by decide, hbr 1 (Or.inr rfl) 3 (Or.inr rfl) (by decide)]
  · have ef := hfr (Or.inr rfl)
    subst ef
    simp only [f_X1_placesForKind, j_X1_placesForKind_108, j_X1_placesForKind_135, li_k h hb, li_r0 h hb, li_r1 h hb, li_r3 h hb, li_r4 h hb, li_r8 h hb, li_r10 h hb, li_k1 h hb, bd1_s, bd2_s, lb_e, ↓reduceIte, x_wa h hb hS hR, x_wb h hb hS hR, x_or h hb hS hR, show nI 4 = 4 from rfl, show ¬ (4 : Int32) = 1 by decide, show ¬ (4 : Int32) = 3 by decide, show ¬ (4 : Int32) = 5 by decide, show ¬ (4 : Int32) = 2 by decide, hR.2.1.2.2.1, hR.2.1.2.2.2]
    congr 2
    refine hnb _ (by decide) _ fun i hi => ?_
    simp only [b_or, b_and, or_b hS hB hi, b_xm _ hi, A i hi]
    by_cases q : i < n_ σ
    · rw [(wf_fs hS q).1, (wf_fs hS q).2, wa_sd hS hB q, wb_sd hS hB q, decide_eq_true q]
      unfold cnd
      cases bt (tk σ) i <;> cases sd σ (tk σ) i <;> cases sd σ (tk σ) (i + 2) <;> cases fs_ σ i <;> cases fs_ σ (i + 2) <;> rfl
    · rw [decide_eq_false q]; rfl
  · simp only [f_X1_placesForKind, li_k h hb, li_r0 h hb, li_r1 h hb, li_r3 h hb, li_r4 h hb, li_r8 h hb, li_r10 h hb, li_k1 h hb, bd1_s, bd2_s, lb_e, ↓reduceIte, x_wa h hb hS hR, x_wb h hb hS hR, show nI 5 = 5 from rfl, show ¬ (5 : Int32) = 1 by decide, show ¬ (5 : Int32) = 3 by decide, hR.2.1.2.2.1, hR.2.1.2.2.2]
    congr 2
    refine hnb _ (by decide) _ fun i hi => ?_
    rw [b_and, b_and, b_xm _ hi, b_xm _ hi, b_or, A i hi]
    by_cases q : i < n_ σ
    · rw [wa_sd hS hB q, wb_sd hS hB q, decide_eq_true q]
      unfold cnd
      cases bt (tk σ) i <;> cases sd σ (tk σ) i <;> cases sd σ (tk σ) (i + 2) <;> rfl
    · rw [decide_eq_false q]; rfl
theorem x_placesFor {w : Wd} {b i : Nat} {σ : Nat → Int32} (h : Lay w) (hb : bI b) (hS : Sv σ) (hR : RS w b σ) (hi : i < c_ σ) : f_X1_placesFor b (b + 7 + i) w = some (pl σ i, w) := by
  have hc := hS.c12
  have h4 := li_sk h hb (show i < 12 by omega)
  obtain ⟨⟨k, hk, ek⟩, -⟩ := hS.2.2.2.2 i hi
  have e0 : wI w (b + 7 + i) 0 = sv σ i 0 := hR.2.2 i hi 0 (by decide)
  have e1 : wI w (b + 7 + i) 1 = sv σ i 1 := hR.2.2 i hi 1 (by decide)
  have hO : f_X4_isOf (b + 7 + i) 2 w = _ := x_isOf (j := 2) (by decide) hk h4 (e0.trans ek)
  unfold pl
  by_cases hs : sv σ i 1 < 0
  · rw [if_pos hs]
    by_cases hw : k = 2 ∨ k = 4
    · rw [if_pos (show 2 = 0 ∨ 2 = k ∨ (2 = 1 ∧ k = 3) ∨ (2 = 2 ∧ k = 4) by omega)] at hO
      simp only [f_X1_placesFor, h4, x_sitsNow h4, e1, hs, li_k h hb, li_r0 h hb, li_r1 h hb, li_r3 h hb, li_r4 h hb, li_r8 h hb, li_r10 h hb, li_k1 h hb, bd1_s, bd2_s, lb_e, ↓reduceIte, x_taken h hb hS hR, hO, show ¬ (1 : Int32) = 0 by decide, x_takenF h hb hS hR, j_X1_placesFor_34, e0, ek, x_plK h hb hS hR hk (fun _ => rfl)]
    · rw [if_neg (show ¬ (2 = 0 ∨ 2 = k ∨ (2 = 1 ∧ k = 3) ∨ (2 = 2 ∧ k = 4)) by omega)] at hO
      simp only [f_X1_placesFor, h4, x_sitsNow h4, e1, hs, li_k h hb, li_r0 h hb, li_r1 h hb, li_r3 h hb, li_r4 h hb, li_r8 h hb, li_r10 h hb, li_k1 h hb, bd1_s, bd2_s, lb_e, ↓reduceIte, x_taken h hb hS hR, hO, j_X1_placesFor_34, e0, ek, x_plK h hb hS hR hk (fun z => absurd z hw)]
  · rw [if_neg hs]
    simp only [f_X1_placesFor, h4, x_sitsNow h4, e1, hs, li_k h hb, li_r0 h hb, li_r1 h hb, li_r3 h hb, li_r4 h hb, li_r8 h hb, li_r10 h hb, li_k1 h hb, bd1_s, bd2_s, lb_e, ↓reduceIte, show ¬ (1 : Int32) = 0 by decide]
