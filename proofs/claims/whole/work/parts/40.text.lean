/-! WHAT A TEXT GIVES: one row of tokens, two machines -/
def Fr (A : Nat → Prop) (w w' : Wd) : Prop := wK w' = wK w ∧ wL w' = wL w ∧ wR w' = wR w ∧ wN w' = wN w ∧ ∀ a, ¬ A a → wI w' a = wI w a
theorem Fr.rf {A : Nat → Prop} (w : Wd) : Fr A w w := ⟨rfl, rfl, rfl, rfl, fun _ _ => rfl⟩
theorem Fr.tr {A : Nat → Prop} {w w1 w2 : Wd} (h1 : Fr A w w1) (h2 : Fr A w1 w2) : Fr A w w2 := ⟨h2.1.trans h1.1, h2.2.1.trans h1.2.1, h2.2.2.1.trans h1.2.2.1, h2.2.2.2.1.trans h1.2.2.2.1, fun a ha => (h2.2.2.2.2 a ha).trans (h1.2.2.2.2 a ha)⟩
theorem Fr.mono {A B : Nat → Prop} {w w1 : Wd} (h : Fr A w w1) (hAB : ∀ a, A a → B a) : Fr B w w1 := ⟨h.1, h.2.1, h.2.2.1, h.2.2.2.1, fun a ha => h.2.2.2.2 a (fun q => ha (hAB a q))⟩
theorem Fr.sI {A : Nat → Prop} (w : Wd) {a : Nat} (j : Nat) (v : Int32) (h : A a) : Fr A w (sI w a j v) := ⟨rfl, rfl, rfl, rfl, fun b hb => wI_s2 _ _ _ (fun e => hb (e ▸ h))⟩
theorem Fr.lay {A : Nat → Prop} {w w1 : Wd} (h : Fr A w w1) (hL : Lay w) : Lay w1 := hL.same h.2.2.2.1 h.1 h.2.1 h.2.2.1
def sgB : List Nat := [124, 38, 60, 61, 62, 43, 45, 42, 47, 33]
def tokM (τ : Nat) : Int32 := if τ < 20000 then nI τ else -(nI (τ - 20000)) - 1
def tokX (τ : Nat) : Int32 := if τ < 10000 then nI τ else if τ < 20000 then -(nI (τ - 10000)) - 1 else -(nI (sgB.getD (τ - 20000) 0))
def tw (s : Nat) (a b : Int32) : Int32 := match s with
  | 0 => if a = 0 then (if b = 0 then 0 else 1) else 1
  | 1 => if a = 0 then 0 else (if b = 0 then 0 else 1)
  | 2 => if b ≤ a then 0 else 1
  | 3 => if a = b then 1 else 0
  | 4 => if a ≤ b then 0 else 1
  | 5 => a + b
  | 6 => a - b
  | 7 => a * b
  | _ => if b = 0 then 0 else a / b
theorem m_two {s : Nat} (hs : s < 9) (a b : Int32) (w : Wd) : f_X9_two (tokM (20000 + s)) a b w = some (tw s a b, w) := by
  have hq : s = 0 ∨ s = 1 ∨ s = 2 ∨ s = 3 ∨ s = 4 ∨ s = 5 ∨ s = 6 ∨ s = 7 ∨ s = 8 := by omega
  rcases hq with rfl | rfl | rfl | rfl | rfl | rfl | rfl | rfl | rfl
  · rfl
  · rfl
  · rfl
  · rfl
  · rfl
  · rfl
  · rfl
  · rfl
  · show (if b = 0 then some (0, w) else if ¬ b = 0 then some (a / b, w) else none) = some (if b = 0 then 0 else a / b, w)
    by_cases e : b = 0
    · rw [if_pos e, if_pos e]
    · rw [if_neg e, if_neg e, if_pos e]
theorem x_join {s : Nat} (hs : s < 9) (a b : Int32) (w : Wd) : f_X7_join (-(tokX (20000 + s))) a b w = some (tw s a b, w) := by
  have hq : s = 0 ∨ s = 1 ∨ s = 2 ∨ s = 3 ∨ s = 4 ∨ s = 5 ∨ s = 6 ∨ s = 7 ∨ s = 8 := by omega
  rcases hq with rfl | rfl | rfl | rfl | rfl | rfl | rfl | rfl | rfl
  · rfl
  · rfl
  · rfl
  · rfl
  · rfl
  · rfl
  · rfl
  · rfl
  · show (if b = 0 then some (0, w) else if ¬ b = 0 then some (a / b, w) else none) = some (if b = 0 then 0 else a / b, w)
    by_cases e : b = 0
    · rw [if_pos e, if_pos e]
    · rw [if_neg e, if_neg e, if_pos e]
def dpt (τ : Nat → Nat) : Nat → Nat
  | 0 => 0
  | k + 1 => if τ k < 20000 then dpt τ k + 1 else if τ k = 20009 then dpt τ k else dpt τ k - 1
def tval (F : Nat → Int32) (τ : Nat) : Int32 := if τ < 10000 then nI τ else F (τ - 10000)
def stk (F : Nat → Int32) (τ : Nat → Nat) : Nat → Nat → Int32
  | 0 => fun _ => 0
  | k + 1 => if τ k < 20000 then upd (stk F τ k) (dpt τ k) (tval F (τ k)) else if τ k = 20009 then upd (stk F τ k) (dpt τ k - 1) (if stk F τ k (dpt τ k - 1) = 0 then 1 else 0) else upd (stk F τ k) (dpt τ k - 2) (tw (τ k - 20000) (stk F τ k (dpt τ k - 2)) (stk F τ k (dpt τ k - 1)))
def VL (F : Nat → Int32) (τ : Nat → Nat) (len : Nat) : Int32 := stk F τ len 0
/-- a row of tokens is a text: nm names, at numbers and names -/
def WF (τ : Nat → Nat) (len nm at' : Nat) : Prop := (len ≤ 96 ∧ at' ≤ 96) ∧ (∀ k, k < len → (τ k < 10000 + nm ∨ (20000 ≤ τ k ∧ τ k < 20010)) ∧ (τ k = 20009 → 1 ≤ dpt τ k) ∧ (20000 ≤ τ k → τ k < 20009 → 2 ≤ dpt τ k)) ∧ dpt τ len = 1 ∧ ∀ k, k ≤ len → dpt τ k ≤ at'
theorem tM_n {τ : Nat} (h : τ < 20000) : tokM τ = nI τ := by unfold tokM; rw [if_pos h]
theorem tM_lt : ∀ s, s < 10 → tokM (20000 + s) < 0 ∧ (tokM (20000 + s) = -10 ↔ s = 9) := by decide +kernel
theorem tX_lt : ∀ s, s < 10 → tokX (20000 + s) < (-3) ∧ (tokX (20000 + s) = -33 ↔ s = 9) := by decide +kernel
theorem tX_n {τ : Nat} (h : τ < 10000) : tokX τ = nI τ := by unfold tokX; rw [if_pos h]
theorem tX_m : ∀ j, j < 3 → tokX (10000 + j) < 0 ∧ ¬ tokX (10000 + j) < (-3) ∧ (tokX (10000 + j) = -1 ↔ j = 0) ∧ (tokX (10000 + j) = -3 ↔ j = 2) := by decide +kernel
theorem nI_m1 {k : Nat} (h : 1 ≤ k) : nI k + (-1) = nI (k - 1) := by rw [← Int32.sub_eq_add_neg, pr_nI h]
/-! the reference -/
theorem m_worksOut {w : Wd} {σ : Nat → Int32} (h : Lay w) (hσ : wI w 97 = σ) {t len nm at' key : Nat} {τ : Nat → Nat} (ht : t < 14) (hk : key < 3) (hlen : σ (72 + 2 * t) = nI (1000 * key + len)) (hcd : ∀ k, k < len → σ (100 + 96 * t + k) = tokM (τ k)) (hW : WF τ len nm at') (hnm : nm ≤ 3) {F : Nat → Int32} (hF : ∀ j, j < nm → wI w 109 j = F j) :
    ∃ w', f_X9_worksOut 96 (nI t) w = some (VL F τ len, w') ∧ Fr (fun a => a = 108) w w' := by
  obtain ⟨⟨hl96, hat⟩, hstep, hd1, hdat⟩ := hW
  have L : ∀ n k (w : Wd), Lay w → wI w 97 = σ → (∀ j, j < nm → wI w 109 j = F j) → k ≤ len → len - k < n → (∀ j, j < dpt τ k → wI w 108 j = stk F τ k j) → ∃ w', L_X9_worksOut_21 n 96 (nI t) (nI (dpt τ k)) (nI len) (nI k) w = some (VL F τ len, w') ∧ Fr (fun a => a = 108) w w' := by
    intro n
    induction n with
    | zero => intro k w _ _ _ _ h2; omega
    | succ n ih =>
      intro k w h hσ hF hk hn hst
      unfold L_X9_worksOut_21
      by_cases e : k = len
      · subst e
        rw [if_pos ((nI_le' (by omega) (by omega)).mpr (Nat.le_refl _))]
        refine ⟨w, ?_, Fr.rf w⟩
        simp only [lk_96 h, lr_96_23 h, bd1_s, ↓reduceIte, show aK 11 w 108 0 = true from la_108 h (show 0 < 96 by decide), show nx 0 = 0 from rfl]
        rw [hst 0 (by omega)]
        rfl
      · rw [if_neg (fun q => e (by have := (nI_le' (by omega) (by omega)).mp q; omega))]
        obtain ⟨hv, hnot, hsgn⟩ := hstep k (by omega)
        have hdk := hdat k (by omega)
        have hdk1 := hdat (k + 1) (by omega)
        have ei : (100 : Int32) + 96 * nI t + nI k = nI (100 + 96 * t + k) := by rw [show (100 : Int32) = nI 100 from rfl, show (96 : Int32) = nI 96 from rfl, nI_mul, nI_add, nI_add]
        have hx : wI w 97 (100 + 96 * t + k) = tokM (τ k) := by rw [hσ]; exact hcd k (by omega)
        simp only [lk_96 h, lr_96_0 h, lr_96_23 h, lr_96_24 h, bd1_s, lb_e, ↓reduceIte, ei, la_97 h (show 100 + 96 * t + k < 1444 by omega), nx_nI (show 100 + 96 * t + k < 2 ^ 31 by omega), hx]
        by_cases c : τ k < 20000
        · have hM := tM_n c
          have hv' : τ k < 10000 + nm := by omega
          rw [hM, if_neg (nI_nlt0 (by omega))]
          have hgo : ∀ v : Int32, v = tval F (τ k) → ∃ w', j_X9_worksOut_78 (L_X9_worksOut_21 n) 96 (nI t) (nI (dpt τ k)) (nI len) (nI k) v (nI (dpt τ k)) 108 w = some (VL F τ len, w') ∧ Fr (fun a => a = 108) w w' := by
            intro v ev
            simp only [j_X9_worksOut_78, la_108 h (show dpt τ k < 96 by rw [dpt, if_pos c] at hdk1; omega), ↓reduceIte, lb_e, nx_nI (show dpt τ k < 2 ^ 31 by omega), nI_s1]
            have ed : dpt τ (k + 1) = dpt τ k + 1 := by rw [dpt, if_pos c]
            obtain ⟨w', g1, g2⟩ := ih (k + 1) (sI w 108 (dpt τ k) v) (h.sI _ _ _) (by rw [wI_s2 _ _ _ (by decide)]; exact hσ) (fun j hj => by rw [wI_s2 _ _ _ (by decide)]; exact hF j hj) (by omega) (by omega) (fun j hj => by
              rw [wI_s1, stk, if_pos c]
              by_cases z : j = dpt τ k
              · subst z; rw [upd_s, upd_s, ev]
              · rw [upd_n _ _ z, upd_n _ _ z, hst j (by omega)])
            rw [ed] at g1
            exact ⟨w', g1, Fr.tr (Fr.sI (A := fun a => a = 108) w _ _ rfl) g2⟩
          by_cases c2 : τ k < 10000
          · rw [if_neg (fun q => by have := (nI_le' (a := 10000) (b := τ k) (by omega) (by omega)).mp q; omega)]
            exact hgo _ (by unfold tval; rw [if_pos c2])
          · rw [show (10000 : Int32) = nI 10000 from rfl, if_pos ((nI_le' (a := 10000) (b := τ k) (by omega) (by omega)).mpr (by omega)), nI_sub (by omega), la_109 h (show τ k - 10000 < 4 by omega), if_pos rfl, nx_nI (by omega)]
            exact hgo _ (by unfold tval; rw [if_neg c2, hF _ (by omega)])
        · obtain ⟨s, es, hs⟩ : ∃ s, τ k = 20000 + s ∧ s < 10 := ⟨τ k - 20000, by omega, by omega⟩
          have hlt := tM_lt s hs
          rw [es, if_pos hlt.1]
          by_cases c9 : s = 9
          · subst c9
            have h1 := hnot es
            have ed : dpt τ (k + 1) = dpt τ k := by rw [dpt, if_neg c, if_pos es]
            have ea : aK 11 w 108 (nI (dpt τ k - 1)) = true := la_108 h (by omega)
            rw [if_pos (hlt.2.mpr rfl), pr_nI h1]
            simp only [ea, ↓reduceIte, nx_nI (show dpt τ k - 1 < 2 ^ 31 by omega), nI_s1]
            obtain ⟨w', g1, g2⟩ := ih (k + 1) (sI w 108 (dpt τ k - 1) (if wI w 108 (dpt τ k - 1) = 0 then 1 else 0)) (h.sI _ _ _) (by rw [wI_s2 _ _ _ (by decide)]; exact hσ) (fun j hj => by rw [wI_s2 _ _ _ (by decide)]; exact hF j hj) (by omega) (by omega) (fun j hj => by
              rw [wI_s1, stk, if_neg c, if_pos es]
              by_cases z : j = dpt τ k - 1
              · subst z; rw [upd_s, upd_s, hst _ (by omega)]
              · rw [upd_n _ _ z, upd_n _ _ z, hst j (by omega)])
            rw [ed] at g1
            exact ⟨w', g1, Fr.tr (Fr.sI (A := fun a => a = 108) w _ _ rfl) g2⟩
          · have h2 := hsgn (by omega) (by omega)
            have ed : dpt τ (k + 1) = dpt τ k - 1 := by rw [dpt, if_neg c, if_neg (by omega)]
            have ea : aK 11 w 108 (nI (dpt τ k - 1)) = true := la_108 h (by omega)
            have eb : aK 11 w 108 (nI (dpt τ k - 2)) = true := la_108 h (by omega)
            rw [if_neg (fun q => c9 (hlt.2.mp q)), nI_m1 (by omega), pr_nI (show 1 ≤ dpt τ k - 1 by omega), show dpt τ k - 1 - 1 = dpt τ k - 2 by omega]
            simp only [ea, eb, ↓reduceIte, nx_nI (show dpt τ k - 1 < 2 ^ 31 by omega), nx_nI (show dpt τ k - 2 < 2 ^ 31 by omega), m_two (show s < 9 by omega), bd2_s, nI_s1]
            obtain ⟨w', g1, g2⟩ := ih (k + 1) (sI w 108 (dpt τ k - 2) (tw s (wI w 108 (dpt τ k - 2)) (wI w 108 (dpt τ k - 1)))) (h.sI _ _ _) (by rw [wI_s2 _ _ _ (by decide)]; exact hσ) (fun j hj => by rw [wI_s2 _ _ _ (by decide)]; exact hF j hj) (by omega) (by omega) (fun j hj => by
              rw [wI_s1, stk, if_neg c, if_neg (by omega), es, show 20000 + s - 20000 = s by omega]
              by_cases z : j = dpt τ k - 2
              · subst z; rw [upd_s, upd_s, hst _ (by omega), hst _ (by omega)]
              · rw [upd_n _ _ z, upd_n _ _ z, hst j (by omega)])
            rw [ed] at g1
            exact ⟨w', g1, Fr.tr (Fr.sI (A := fun a => a = 108) w _ _ rfl) g2⟩
  have e1 : (72 : Int32) + 2 * nI t = nI (72 + 2 * t) := by rw [show (72 : Int32) = nI 72 from rfl, show (2 : Int32) = nI 2 from rfl, nI_mul, nI_add]
  have e2 : irem (nI (1000 * key + len)) 1000 = nI len := by
    rw [show (1000 : Int32) = nI 1000 from rfl, irem_nI (by omega) (by decide) (by decide), Nat.mul_add_mod, Nat.mod_eq_of_lt (by omega)]
  simp only [f_X9_worksOut, lk_96 h, lr_96_0 h, bd1_s, lb_e, ↓reduceIte, e1, la_97 h (show 72 + 2 * t < 1444 by omega), nx_nI (show 72 + 2 * t < 2 ^ 31 by omega), hσ, hlen, e2]
  exact L FU 0 w h hσ hF (by omega) (by unfold FU; omega) (fun j hj => by simp [dpt] at hj)
/-! the class: cell a a text, a - 1 its code, a + 1 its stack -/
def Sk (a : Nat) : Prop := 119 ≤ a ∧ a % 3 = 1
def TXc (w : Wd) (a key len at' : Nat) (τ : Nat → Nat) : Prop := (120 ≤ a ∧ a % 3 = 0 ∧ a + 1 < wN w) ∧ (wK w a = 7 ∧ wI w a 0 = nI key ∧ wI w a 1 = nI at' ∧ wR w a 2 = some (a - 1) ∧ wR w a 3 = some (a + 1)) ∧ (wK w (a - 1) = 11 ∧ wL w (a - 1) = len ∧ wK w (a + 1) = 11 ∧ wL w (a + 1) = at' + 1) ∧ ∀ k, k < len → wI w (a - 1) k = tokX (τ k)
theorem TXc.fr {A : Nat → Prop} {w w' : Wd} {a key len at' : Nat} {τ : Nat → Nat} (h : TXc w a key len at' τ) (hf : Fr A w w') (hA : ∀ b, A b → b < 119 ∨ b % 3 = 1) : TXc w' a key len at' τ := by
  obtain ⟨h1, h2, h3, h4⟩ := h
  have e1 : wI w' a = wI w a := hf.2.2.2.2 a (fun q => by have := hA a q; omega)
  have e2 : wI w' (a - 1) = wI w (a - 1) := hf.2.2.2.2 (a - 1) (fun q => by have := hA _ q; omega)
  unfold TXc
  rw [hf.1, hf.2.1, hf.2.2.1, hf.2.2.2.1, e1, e2]
  exact ⟨h1, h2, h3, h4⟩
theorem x_value {w : Wd} {a key len nm at' : Nat} {τ : Nat → Nat} (hT : TXc w a key len at' τ) (hW : WF τ len nm at') (hnm : nm ≤ 3) {F : Nat → Int32} {v1 v2 v3 : Int32} (hF : ∀ j, j < nm → F j = if j = 0 then v1 else if j = 2 then v3 else v2) :
    ∃ w', f_X7_value a v1 v2 v3 w = some (VL F τ len, w') ∧ Fr Sk w w' := by
  obtain ⟨⟨hl96, hat⟩, hstep, hd1, hdat⟩ := hW
  have hSk : Sk (a + 1) := by have := hT.1; unfold Sk; omega
  have L : ∀ n k (w : Wd), TXc w a key len at' τ → k ≤ len → len - k < n → (∀ j, j < dpt τ k → wI w (a + 1) (j + 1) = stk F τ k j) → ∃ w', L_X7_value_6 n a v1 v2 v3 (nI (dpt τ k)) (nI k) w = some (VL F τ len, w') ∧ Fr Sk w w' := by
    intro n
    induction n with
    | zero => intro k w _ _ h2; omega
    | succ n ih =>
      intro k w hT hk hn hst
      have hT0 := hT
      obtain ⟨⟨q1, q2, q3⟩, ⟨k7, -, -, r2, r3⟩, ⟨kc, lc, ks, ls⟩, hcd⟩ := hT
      have hS : ∀ j, j < at' + 1 → aK 11 w (a + 1) (nI j) = true := fun j hj => aK_k ks ls hj (by omega)
      have hne : a + 1 ≠ a - 1 := by omega
      unfold L_X7_value_6
      simp only [k7, r2, r3, kc, lc, bd1_s, lb_e, ↓reduceIte]
      have step : ∀ (j : Nat) (v : Int32), TXc (sI w (a + 1) j v) a key len at' τ := fun j v => hT0.fr (Fr.sI (A := Sk) w j v hSk) (fun b hb => Or.inr hb.2)
      by_cases e : k = len
      · subst e
        rw [if_pos ((nI_le' (by omega) (by omega)).mpr (Nat.le_refl _)), hd1, hS 1 (by have := hdat k (by omega); omega), if_pos rfl]
        refine ⟨w, ?_, Fr.rf w⟩
        rw [nx_nI (by decide), hst 0 (by omega)]
        rfl
      · rw [if_neg (fun q => e (by have := (nI_le' (by omega) (by omega)).mp q; omega)), aK_k kc lc (show k < len by omega) (by omega), if_pos rfl, nx_nI (by omega), hcd k (by omega)]
        obtain ⟨hv, hnot, hsgn⟩ := hstep k (by omega)
        have hdk := hdat k (by omega)
        have hdk1 := hdat (k + 1) (by omega)
        by_cases c : τ k < 20000
        · have hv' : τ k < 10000 + nm := by omega
          have hlt3 : ¬ tokX (τ k) < (-3) ∧ (if tokX (τ k) < 0 then (if tokX (τ k) = -1 then v1 else if tokX (τ k) = -3 then v3 else v2) else tokX (τ k)) = tval F (τ k) := by
            unfold tval
            by_cases c2 : τ k < 10000
            · rw [tX_n c2, if_pos c2, if_neg (nI_nlt0 (by omega))]
              exact ⟨fun q => by rw [lt_I, nI_toInt (by omega), show (-3 : Int32).toInt = -3 from rfl] at q; omega, rfl⟩
            · obtain ⟨j, ej, hj⟩ : ∃ j, τ k = 10000 + j ∧ j < nm := ⟨τ k - 10000, by omega, by omega⟩
              have hm := tX_m j (by omega)
              rw [if_neg c2, ej, show 10000 + j - 10000 = j by omega, hF j hj, if_pos hm.1]
              refine ⟨hm.2.1, ?_⟩
              by_cases z0 : j = 0
              · rw [if_pos z0, if_pos (hm.2.2.1.mpr z0)]
              · rw [if_neg z0, if_neg (fun q => z0 (hm.2.2.1.mp q))]
                by_cases z2 : j = 2
                · rw [if_pos z2, if_pos (hm.2.2.2.mpr z2)]
                · rw [if_neg z2, if_neg (fun q => z2 (hm.2.2.2.mp q))]
          have ed : dpt τ (k + 1) = dpt τ k + 1 := by rw [dpt, if_pos c]
          rw [if_neg hlt3.1, hlt3.2, nI_s1, hS (dpt τ k + 1) (by omega), if_pos rfl, nx_nI (by omega), nI_s1]
          obtain ⟨w', g1, g2⟩ := ih (k + 1) (sI w (a + 1) (dpt τ k + 1) (tval F (τ k))) (step _ _) (by omega) (by omega) (fun j hj => by
            rw [wI_s1, stk, if_pos c]
            by_cases z : j = dpt τ k
            · subst z; rw [upd_s, upd_s]
            · rw [upd_n _ _ (by omega), upd_n _ _ z, hst j (by omega)])
          rw [ed] at g1
          exact ⟨w', g1, Fr.tr (Fr.sI (A := Sk) w _ _ hSk) g2⟩
        · obtain ⟨s, es, hs⟩ : ∃ s, τ k = 20000 + s ∧ s < 10 := ⟨τ k - 20000, by omega, by omega⟩
          have hlt := tX_lt s hs
          rw [es, if_pos hlt.1]
          by_cases c9 : s = 9
          · subst c9
            have h1 := hnot es
            have ed : dpt τ (k + 1) = dpt τ k := by rw [dpt, if_neg c, if_pos es]
            rw [if_pos (hlt.2.mpr rfl), hS (dpt τ k) (by omega), if_pos rfl, nx_nI (by omega), nI_s1]
            obtain ⟨w', g1, g2⟩ := ih (k + 1) (sI w (a + 1) (dpt τ k) (if wI w (a + 1) (dpt τ k) = 0 then 1 else 0)) (step _ _) (by omega) (by omega) (fun j hj => by
              rw [wI_s1, stk, if_neg c, if_pos es]
              by_cases z : j = dpt τ k - 1
              · have hz := hst (dpt τ k - 1) (by omega)
                rw [show dpt τ k - 1 + 1 = dpt τ k by omega] at hz
                rw [z, show dpt τ k - 1 + 1 = dpt τ k by omega, upd_s, upd_s, hz]
              · rw [upd_n _ _ (by omega), upd_n _ _ z, hst j (by omega)])
            rw [ed] at g1
            exact ⟨w', g1, Fr.tr (Fr.sI (A := Sk) w _ _ hSk) g2⟩
          · have h2 := hsgn (by omega) (by omega)
            have ed : dpt τ (k + 1) = dpt τ k - 1 := by rw [dpt, if_neg c, if_neg (by omega)]
            rw [if_neg (fun q => c9 (hlt.2.mp q)), show (0 : Int32) = nI 0 from rfl, if_neg (fun q => by have := (nI_le' (a := dpt τ k) (b := 0) (by omega) (by omega)).mp q; omega), nI_m1 (by omega), nI_s1, show dpt τ k - 1 + 1 = dpt τ k by omega, hS (dpt τ k - 1) (by omega), hS (dpt τ k) (by omega), if_pos rfl, if_pos rfl, x_join (show s < 9 by omega), bd2_s, hS (dpt τ k - 1) (by omega), if_pos rfl, nx_nI (by omega), nx_nI (by omega), nI_s1]
            obtain ⟨w', g1, g2⟩ := ih (k + 1) (sI w (a + 1) (dpt τ k - 1) (tw s (wI w (a + 1) (dpt τ k - 1)) (wI w (a + 1) (dpt τ k)))) (step _ _) (by omega) (by omega) (fun j hj => by
              rw [wI_s1, stk, if_neg c, if_neg (by omega), es, show 20000 + s - 20000 = s by omega]
              have hz1 := hst (dpt τ k - 1) (by omega)
              rw [show dpt τ k - 1 + 1 = dpt τ k by omega] at hz1
              have hz2 := hst (dpt τ k - 2) (by omega)
              rw [show dpt τ k - 2 + 1 = dpt τ k - 1 by omega] at hz2
              by_cases z : j = dpt τ k - 2
              · rw [z, show dpt τ k - 2 + 1 = dpt τ k - 1 by omega, upd_s, upd_s, hz1, hz2]
              · rw [upd_n _ _ (by omega), upd_n _ _ z, hst j (by omega)])
            rw [ed] at g1
            exact ⟨w', g1, Fr.tr (Fr.sI (A := Sk) w _ _ hSk) g2⟩
  exact L FU 0 w hT (by omega) (by unfold FU; omega) (fun j hj => by simp [dpt] at hj)
