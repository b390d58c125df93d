/-! AN INN AS A ROW -/
def hld (v lo hi : Int32) : Int32 := if lo ≤ v then (if v ≤ hi then v else hi) else lo
theorem hld_X (v a b : Int32) (w : Wd) : f_X8_held v a b w = some (hld v a b, w) := rfl
theorem hld_M (v a b : Int32) (w : Wd) : f_X9_within v a b w = some (hld v a b, w) := rfl
def NONE_ : Int32 := -1000000005
def T_ (σ : Nat → Int32) : Nat := nx (σ 11)
def kyT (σ : Nat → Int32) (t : Nat) : Nat := nx (σ (72 + 2 * t)) / 1000
def lenT (σ : Nat → Int32) (t : Nat) : Nat := nx (σ (72 + 2 * t)) % 1000
def atT (σ : Nat → Int32) (t : Nat) : Nat := nx (σ (72 + 2 * t + 1))
def tkI (x : Int32) : Nat := if x < 0 then 20000 + nx (-x - 1) else nx x
def tokT (σ : Nat → Int32) (t k : Nat) : Nat := tkI (σ (100 + 96 * t + k))
def nmK (key : Nat) : Nat := if key = 0 then 3 else 2
def TXv (σ : Nat → Int32) (t : Nat) : Prop := kyT σ t < 3 ∧ σ (72 + 2 * t) = nI (1000 * kyT σ t + lenT σ t) ∧ σ (72 + 2 * t + 1) = nI (atT σ t) ∧ (∀ k, k < lenT σ t → σ (100 + 96 * t + k) = tokM (tokT σ t k)) ∧ WF (tokT σ t) (lenT σ t) (nmK (kyT σ t)) (atT σ t)
def Tv (σ : Nat → Int32) : Prop := σ 11 = nI (T_ σ) ∧ T_ σ ≤ 14 ∧ ∀ t, t < T_ σ → TXv σ t
def lst (σ : Nat → Int32) (key : Nat) : Nat → Option Nat
  | 0 => none
  | t + 1 => if kyT σ t = key then some t else lst σ key t
def cnI (σ : Nat → Int32) (key : Nat) : Int32 := match lst σ key (T_ σ) with
  | none => NONE_
  | some t => nI t
def R2 (w : Wd) (b : Nat) (σ : Nat → Int32) : Prop := (∀ p, p < 12 → wI w (b + 3) p = σ (12 + p)) ∧ (∀ j, j < 4 → wI w (b + 4) j = σ (6 + j)) ∧ wI w b 5 = σ 10 ∧ wI w b 6 = σ 5 ∧ wI w b 7 = σ 0
def RT (w : Wd) (b : Nat) (σ : Nat → Int32) : Prop := wI w b 9 = σ 11 ∧ (∀ key, key < 3 → wI w (b + 6) key = cnI σ key) ∧ ∀ t, t < T_ σ → ∃ a, wR w (b + 5) t = some a ∧ TXc w a (kyT σ t) (lenT σ t) (atT σ t) (tokT σ t)
def RI (w : Wd) (b : Nat) (σ : Nat → Int32) : Prop := RS w b σ ∧ R2 w b σ ∧ RT w b σ
/-- two rows alike but in what no text shows -/
def Tsm (σ σ' : Nat → Int32) : Prop := σ' 11 = σ 11 ∧ ∀ j, 72 ≤ j → σ' j = σ j
theorem Tsm.rf (σ : Nat → Int32) : Tsm σ σ := ⟨rfl, fun _ _ => rfl⟩
theorem Tsm.tr {a b c : Nat → Int32} (h1 : Tsm a b) (h2 : Tsm b c) : Tsm a c := ⟨h2.1.trans h1.1, fun j hj => (h2.2 j hj).trans (h1.2 j hj)⟩
theorem Tsm.upd {σ : Nat → Int32} {j : Nat} (v : Int32) (h1 : j < 72) (h2 : j ≠ 11) : Tsm σ (upd σ j v) := ⟨upd_n _ _ (fun e => h2 e.symm), fun k hk => upd_n _ _ (by omega)⟩
theorem Tsm.ky {σ σ' : Nat → Int32} (h : Tsm σ σ') (t : Nat) : kyT σ' t = kyT σ t := by unfold kyT; rw [h.2 _ (by omega)]
theorem Tsm.len {σ σ' : Nat → Int32} (h : Tsm σ σ') (t : Nat) : lenT σ' t = lenT σ t := by unfold lenT; rw [h.2 _ (by omega)]
theorem Tsm.at' {σ σ' : Nat → Int32} (h : Tsm σ σ') (t : Nat) : atT σ' t = atT σ t := by unfold atT; rw [h.2 _ (by omega)]
theorem Tsm.tok {σ σ' : Nat → Int32} (h : Tsm σ σ') (t : Nat) : tokT σ' t = tokT σ t := by funext k; unfold tokT; rw [h.2 _ (by omega)]
theorem Tsm.T {σ σ' : Nat → Int32} (h : Tsm σ σ') : T_ σ' = T_ σ := by unfold T_; rw [h.1]
theorem Tsm_ls {σ σ' : Nat → Int32} (h : Tsm σ σ') (key : Nat) : ∀ n, lst σ' key n = lst σ key n := by
  intro n
  induction n with
  | zero => rfl
  | succ n ih => simp only [lst, h.ky, ih]
theorem Tsm.cn {σ σ' : Nat → Int32} (h : Tsm σ σ') (key : Nat) : cnI σ' key = cnI σ key := by unfold cnI; rw [h.T, Tsm_ls h]
theorem Tsm.tv {σ σ' : Nat → Int32} (h : Tsm σ σ') (hT : Tv σ) : Tv σ' := by
  refine ⟨by rw [h.T, h.1]; exact hT.1, by rw [h.T]; exact hT.2.1, fun t ht => ?_⟩
  rw [h.T] at ht
  have := hT.2.2 t ht
  unfold TXv at this ⊢
  rw [h.ky, h.len, h.at', h.tok, h.2 _ (by omega), h.2 _ (by omega)]
  exact ⟨this.1, this.2.1, this.2.2.1, fun k hk => by rw [h.2 _ (by omega)]; exact this.2.2.2.1 k hk, this.2.2.2.2⟩
theorem bI_lt {b : Nat} (hb : bI b) : b + 19 ≤ 58 := by rcases hb with e | e | e <;> omega
theorem RT.go {w w' : Wd} {b : Nat} {σ σ' : Nat → Int32} {A : Nat → Prop} (hb : bI b) (h : RT w b σ) (hs : Tsm σ σ') (hf : Fr A w w') (hA : ∀ x, A x → x < 119 ∨ x % 3 = 1) (h9 : wI w' b 9 = wI w b 9) (h6 : ∀ k, k < 3 → wI w' (b + 6) k = wI w (b + 6) k) : RT w' b σ' := by
  refine ⟨by rw [h9, hs.1]; exact h.1, fun k hk => by rw [h6 k hk, hs.cn]; exact h.2.1 k hk, fun t ht => ?_⟩
  rw [hs.T] at ht
  obtain ⟨a, h1, h2⟩ := h.2.2 t ht
  refine ⟨a, by rw [hf.2.2.1]; exact h1, ?_⟩
  rw [hs.ky, hs.len, hs.at', hs.tok]
  exact h2.fr hf hA
/-- cells that are none of an Inn's change -/
theorem RI.fr {w w' : Wd} {b : Nat} {σ : Nat → Int32} {A : Nat → Prop} (hb : bI b) (hS : Sv σ) (h : RI w b σ) (hf : Fr A w w') (hA : ∀ x, A x → (x < b ∨ b + 19 ≤ x) ∧ (x < 119 ∨ x % 3 = 1)) : RI w' b σ := by
  have hc := hS.c12
  have e : ∀ x, b ≤ x → x < b + 19 → wI w' x = wI w x := fun x h1 h2 => hf.2.2.2.2 x (fun q => by have := (hA x q).1; omega)
  refine ⟨⟨?_, ?_, fun i hi j hj => ?_⟩, ⟨fun p hp => ?_, fun j hj => ?_, ?_⟩, h.2.2.go hb (Tsm.rf σ) hf (fun x q => (hA x q).2) (by rw [e b (by omega) (by omega)]) (fun k _ => by rw [e (b + 6) (by omega) (by omega)])⟩
  · rw [e b (by omega) (by omega)]; exact h.1.1
  · rw [e (b + 1) (by omega) (by omega)]; exact h.1.2.1
  · rw [e (b + 7 + i) (by omega) (by omega)]; exact h.1.2.2 i hi j hj
  · rw [e (b + 3) (by omega) (by omega)]; exact h.2.1.1 p hp
  · rw [e (b + 4) (by omega) (by omega)]; exact h.2.1.2.1 j hj
  · rw [e b (by omega) (by omega)]; exact h.2.1.2.2
theorem c_upd {σ : Nat → Int32} {j : Nat} (v : Int32) (h : j ≠ 1) : c_ (upd σ j v) = c_ σ := by unfold c_; rw [upd_n _ _ (fun e => h e.symm)]
theorem n_upd {σ : Nat → Int32} {j : Nat} (v : Int32) (h : j ≠ 2) : n_ (upd σ j v) = n_ σ := by unfold n_; rw [upd_n _ _ (fun e => h e.symm)]
/-- a field of a sitter -/
theorem RI.sit {w : Wd} {b i j : Nat} {σ : Nat → Int32} (hb : bI b) (hS : Sv σ) (h : RI w b σ) (hi : i < c_ σ) (hj : j < 4) (v : Int32) : RI (sI w (b + 7 + i) j v) b (upd σ (24 + 4 * i + j) v) := by
  have hc := hS.c12
  have hbl := bI_lt hb
  have e : ∀ x, x ≠ b + 7 + i → wI (sI w (b + 7 + i) j v) x = wI w x := fun x hx => wI_s2 _ _ _ hx
  have u : ∀ x, x < 24 → upd σ (24 + 4 * i + j) v x = σ x := fun x hx => upd_n _ _ (by omega)
  refine ⟨⟨?_, ?_, fun i' hi' j' hj' => ?_⟩, ⟨fun p hp => ?_, fun j' hj' => ?_, ?_⟩, h.2.2.go hb (Tsm.upd v (by omega) (by omega)) (Fr.sI (A := fun x => x = b + 7 + i) w j v rfl) (fun x q => Or.inl (by omega)) (by rw [e b (by omega)]) (fun k _ => by rw [e (b + 6) (by omega)])⟩
  · rw [e b (by omega), u 1 (by omega)]; exact h.1.1
  · rw [e (b + 1) (by omega), u 2 (by omega), u 3 (by omega), u 4 (by omega), n_upd v (by omega)]; exact h.1.2.1
  · rw [c_upd v (by omega)] at hi'
    unfold sv
    by_cases z : i' = i
    · subst z
      by_cases z2 : j' = j
      · subst z2; rw [wI_ss, upd_s]
      · rw [wI_sn _ _ (Or.inr z2), upd_n _ _ (by omega)]; exact h.1.2.2 i' hi' j' hj'
    · rw [e _ (by omega), upd_n _ _ (by omega)]; exact h.1.2.2 i' hi' j' hj'
  · rw [e (b + 3) (by omega), u _ (by omega)]; exact h.2.1.1 p hp
  · rw [e (b + 4) (by omega), u _ (by omega)]; exact h.2.1.2.1 j' hj'
  · rw [e b (by omega), u 10 (by omega), u 5 (by omega), u 0 (by omega)]; exact h.2.1.2.2
/-- till, minute, lot -/
theorem RI.num {w : Wd} {b f j : Nat} {σ : Nat → Int32} (hb : bI b) (hS : Sv σ) (h : RI w b σ) (hq : (f = 5 ∧ j = 10) ∨ (f = 6 ∧ j = 5) ∨ (f = 7 ∧ j = 0)) (v : Int32) : RI (sI w b f v) b (upd σ j v) := by
  have hc := hS.c12
  have hbl := bI_lt hb
  have e : ∀ x, x ≠ b → wI (sI w b f v) x = wI w x := fun x hx => wI_s2 _ _ _ hx
  refine ⟨⟨?_, ?_, fun i' hi' j' hj' => ?_⟩, ⟨fun p hp => ?_, fun j' hj' => ?_, ?_, ?_, ?_⟩, h.2.2.go hb (Tsm.upd v (by omega) (by omega)) (Fr.sI (A := fun x => x = b) w f v rfl) (fun x q => Or.inl (by omega)) (wI_sn _ _ (Or.inr (by omega))) (fun k _ => by rw [e (b + 6) (by omega)])⟩
  · rw [wI_sn _ _ (Or.inr (by omega)), upd_n _ _ (by omega)]; exact h.1.1
  · rw [e (b + 1) (by omega), upd_n _ _ (by omega), upd_n _ _ (by omega), upd_n _ _ (by omega), n_upd v (by omega)]; exact h.1.2.1
  · rw [c_upd v (by omega)] at hi'
    unfold sv
    rw [e _ (by omega), upd_n _ _ (by omega)]; exact h.1.2.2 i' hi' j' hj'
  · rw [e (b + 3) (by omega), upd_n _ _ (by omega)]; exact h.2.1.1 p hp
  · rw [e (b + 4) (by omega), upd_n _ _ (by omega)]; exact h.2.1.2.1 j' hj'
  · by_cases z : j = 10
    · rw [z, show f = 5 by omega, wI_ss, upd_s]
    · rw [wI_sn _ _ (Or.inr (by omega)), upd_n _ _ (by omega)]; exact h.2.1.2.2.1
  · by_cases z : j = 5
    · rw [z, show f = 6 by omega, wI_ss, upd_s]
    · rw [wI_sn _ _ (Or.inr (by omega)), upd_n _ _ (by omega)]; exact h.2.1.2.2.2.1
  · by_cases z : j = 0
    · rw [z, show f = 7 by omega, wI_ss, upd_s]
    · rw [wI_sn _ _ (Or.inr (by omega)), upd_n _ _ (by omega)]; exact h.2.1.2.2.2.2
/-- what stands of a row: sitters, price and cushions, texts -/
def Dj (σ : Nat → Int32) : Prop := ∀ i j, i < j → j < c_ σ → ∀ p, p < 32 → ¬ (bt (so σ i) p = true ∧ bt (so σ j) p = true)
def Vd (σ : Nat → Int32) : Prop := Sv σ ∧ ((∃ q, q ≤ 99 ∧ σ 6 = nI q) ∧ ∀ p, p < 12 → ∃ q, q ≤ 99 ∧ σ (12 + p) = nI q) ∧ Tv σ ∧ Dj σ
/-- a row that differs from another in nothing that Vd sees -/
theorem Vd.num {σ : Nat → Int32} (h : Vd σ) {j : Nat} (v : Int32) (hj : j = 0 ∨ j = 5 ∨ (7 ≤ j ∧ j ≤ 10)) : Vd (upd σ j v) := by
  have u : ∀ x, x ≠ j → upd σ j v x = σ x := fun x hx => upd_n _ _ hx
  have us : ∀ i f, sv (upd σ j v) i f = sv σ i f := fun i f => by unfold sv; exact u _ (by omega)
  have ec : c_ (upd σ j v) = c_ σ := c_upd v (by omega)
  have en : n_ (upd σ j v) = n_ σ := n_upd v (by omega)
  have eso : ∀ i, so (upd σ j v) i = so σ i := fun i => by unfold so; rw [us, us, en]
  obtain ⟨hS, hP, hT, hD⟩ := h
  refine ⟨?_, ⟨by rw [u 6 (by omega)]; exact hP.1, fun p hp => by rw [u _ (by omega)]; exact hP.2 p hp⟩, (Tsm.upd v (by omega) (by omega)).tv hT, ?_⟩
  · unfold Sv
    rw [ec, en, u 1 (by omega), u 2 (by omega), u 3 (by omega), u 4 (by omega)]
    exact ⟨hS.1, hS.2.1, hS.2.2.1, hS.2.2.2.1, fun i hi => by rw [us, us]; exact hS.2.2.2.2 i hi⟩
  · intro i k h1 h2 p hp
    rw [ec] at h2
    rw [eso, eso]
    exact hD i k h1 h2 p hp
/-! the text that counts -/
theorem lst_lt {σ : Nat → Int32} {key : Nat} : ∀ {n t : Nat}, lst σ key n = some t → t < n ∧ kyT σ t = key := by
  intro n
  induction n with
  | zero => intro t h; cases h
  | succ n ih =>
    intro t h
    rw [lst] at h
    split at h
    · cases h; exact ⟨by omega, by assumption⟩
    · have := ih h; exact ⟨by omega, this.2⟩
theorem m_counts {w : Wd} {σ : Nat → Int32} (h : Lay w) (hσ : wI w 97 = σ) (hT : Tv σ) {key : Nat} (hk : key < 3) : f_X9_counts 96 (nI key) w = some (match lst σ key (T_ σ) with | none => -1 | some t => nI t, w) := by
  have L : ∀ n k, k ≤ T_ σ → k < n → L_X9_counts_10 n 96 (nI key) (nI k - 1) w = some (match lst σ key k with | none => -1 | some t => nI t, w) := by
    intro n
    induction n with
    | zero => intro k _ h2; omega
    | succ n ih =>
      intro k h1 h2
      unfold L_X9_counts_10
      have h14 := hT.2.1
      cases k with
      | zero => rw [if_pos (show nI 0 - 1 < 0 by decide)]; rfl
      | succ k =>
        have e0 : nI (k + 1) - 1 = nI k := by rw [pr_nI (by omega)]; rfl
        have e1 : (72 : Int32) + 2 * nI k = nI (72 + 2 * k) := by rw [show (72 : Int32) = nI 72 from rfl, show (2 : Int32) = nI 2 from rfl, nI_mul, nI_add]
        have hx := hT.2.2 k (by omega)
        have hl := hx.2.2.2.2.1.1
        have hky := hx.1
        have hm : nI (1000 * kyT σ k + lenT σ k) / 1000 = nI (kyT σ k) := by
          apply eq_I
          rw [Int32.toInt_div, nI_toInt (by omega), nI_toInt (by omega), show (1000 : Int32).toInt = 1000 from rfl, Int.tdiv_eq_ediv_of_nonneg (by omega)]
          rw [Int.bmod_eq_of_le (by omega) (by omega)]
          omega
        rw [e0, if_neg (nI_nlt0 (by omega))]
        simp only [lk_96 h, lr_96_0 h, bd1_s, bd2_s, lb_e, ↓reduceIte, e1, la_97 h (show 72 + 2 * k < 1444 by omega), nx_nI (show 72 + 2 * k < 2 ^ 31 by omega), hσ]
        rw [hx.2.1, hm, lst]
        by_cases c : kyT σ k = key
        · rw [c, if_pos rfl, if_pos rfl]
        · rw [if_neg (fun q => c (nI_inj (by omega) (by omega) q)), if_neg c, show nI k + (-1) = nI k - 1 from (Int32.sub_eq_add_neg _ _).symm]
          exact ih k (by omega) (by omega)
  simp only [f_X9_counts, lk_96 h, lr_96_0 h, bd1_s, bd2_s, lb_e, ↓reduceIte, show aK 11 w 97 11 = true from la_97 h (show 11 < 1444 by decide), show nx 11 = 11 from rfl, hσ, hT.1]
  exact L FU (T_ σ) (Nat.le_refl _) (by have := hT.2.1; unfold FU; omega)
theorem x_lawOf {w : Wd} {b : Nat} {σ : Nat → Int32} (h : Lay w) (hb : bI b) (hT : Tv σ) (hR : RT w b σ) {key : Nat} (hk : key < 3) : (lst σ key (T_ σ) = none → f_X1_lawOf b (nI key) w = some (none, w)) ∧ ∀ t, lst σ key (T_ σ) = some t → ∃ a, f_X1_lawOf b (nI key) w = some (some a, w) ∧ TXc w a (kyT σ t) (lenT σ t) (atT σ t) (tokT σ t) := by
  have h14 := hT.2.1
  have hc := hR.2.1 key hk
  constructor
  · intro e
    have hc' : wI w (b + 6) key = NONE_ := by rw [hc]; unfold cnI; rw [e]
    simp only [f_X1_lawOf, li_k h hb, li_r0 h hb, li_r1 h hb, li_r3 h hb, li_r4 h hb, li_r8 h hb, li_r10 h hb, li_k1 h hb, bd1_s, bd2_s, lb_e, ↓reduceIte, li_a6 h hb hk, nx_nI (show key < 2 ^ 31 by omega), hc', show NONE_ < 0 by decide]
  · intro t e
    have hc' : wI w (b + 6) key = nI t := by rw [hc]; unfold cnI; rw [e]
    obtain ⟨a, h1, h2⟩ := hR.2.2 t (lst_lt e).1
    have ht := (lst_lt e).1
    refine ⟨a, ?_, h2⟩
    simp only [f_X1_lawOf, li_k h hb, li_r0 h hb, li_r1 h hb, li_r3 h hb, li_r4 h hb, li_r8 h hb, li_r10 h hb, li_k1 h hb, bd1_s, bd2_s, lb_e, ↓reduceIte, li_a6 h hb hk, nx_nI (show key < 2 ^ 31 by omega), hc', nI_nlt0 (show t < 2 ^ 31 by omega), hR.1, hT.1, show ¬ nI (T_ σ) ≤ nI t from fun q => by (have := (nI_le' (show t < 2 ^ 31 by omega) (show T_ σ < 2 ^ 31 by omega)).mp q; omega), li_a5 h hb (show t < 14 by omega), nx_nI (show t < 2 ^ 31 by omega), h1]
