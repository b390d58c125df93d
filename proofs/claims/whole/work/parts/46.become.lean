/-! ONE INN BECOMES AS ANOTHER -/
def Ag (σ σ' : Nat → Int32) : Prop := ∀ j, j < 1444 → σ' j = σ j
theorem Ag.c {σ σ' : Nat → Int32} (h : Ag σ σ') : c_ σ' = c_ σ := by unfold c_; rw [h 1 (by decide)]
theorem Ag.n {σ σ' : Nat → Int32} (h : Ag σ σ') : n_ σ' = n_ σ := by unfold n_; rw [h 2 (by decide)]
theorem Ag.s {σ σ' : Nat → Int32} (h : Ag σ σ') {i j : Nat} (hi : i < 12) (hj : j < 4) : sv σ' i j = sv σ i j := by unfold sv; rw [h _ (by omega)]
theorem Ag_so {σ σ' : Nat → Int32} (h : Ag σ σ') {i : Nat} (hi : i < 12) : so σ' i = so σ i := by unfold so; rw [h.s hi (by decide), h.s hi (by decide), h.n]
theorem Ag.svd {σ σ' : Nat → Int32} (h : Ag σ σ') (hS : Sv σ) : Sv σ' := by
  have h12 := hS.c12
  unfold Sv
  rw [h.c, h.n, h 1 (by decide), h 2 (by decide), h 3 (by decide), h 4 (by decide)]
  exact ⟨hS.1, hS.2.1, hS.2.2.1, hS.2.2.2.1, fun i hi => by rw [h.s (by omega) (by decide), h.s (by omega) (by decide)]; exact hS.2.2.2.2 i hi⟩
theorem Ag.T {σ σ' : Nat → Int32} (h : Ag σ σ') : T_ σ' = T_ σ := by unfold T_; rw [h 11 (by decide)]
theorem Ag.ky {σ σ' : Nat → Int32} (h : Ag σ σ') {t : Nat} (ht : t < 14) : kyT σ' t = kyT σ t := by unfold kyT; rw [h _ (by omega)]
theorem Ag.len {σ σ' : Nat → Int32} (h : Ag σ σ') {t : Nat} (ht : t < 14) : lenT σ' t = lenT σ t := by unfold lenT; rw [h _ (by omega)]
theorem Ag.at' {σ σ' : Nat → Int32} (h : Ag σ σ') {t : Nat} (ht : t < 14) : atT σ' t = atT σ t := by unfold atT; rw [h _ (by omega)]
theorem Ag.tok {σ σ' : Nat → Int32} (h : Ag σ σ') {t k : Nat} (ht : t < 14) (hk : k < 96) : tokT σ' t k = tokT σ t k := by unfold tokT; rw [h _ (by omega)]
theorem Ag_ls {σ σ' : Nat → Int32} (h : Ag σ σ') (key : Nat) : ∀ n, n ≤ 14 → lst σ' key n = lst σ key n := by
  intro n
  induction n with
  | zero => intro _; rfl
  | succ n ih => intro hn; simp only [lst, h.ky (show n < 14 by omega), ih (by omega)]
theorem dpt_cg {τ τ' : Nat → Nat} {n : Nat} (h : ∀ k, k < n → τ' k = τ k) : ∀ k, k ≤ n → dpt τ' k = dpt τ k := by
  intro k
  induction k with
  | zero => intro _; rfl
  | succ k ih => intro hk; simp only [dpt, h k (by omega), ih (by omega)]
theorem WF.cg {τ τ' : Nat → Nat} {n nm at' : Nat} (h : ∀ k, k < n → τ' k = τ k) (hW : WF τ n nm at') : WF τ' n nm at' := by
  have hd := dpt_cg h
  refine ⟨hW.1, fun k hk => ?_, by rw [hd n (Nat.le_refl _)]; exact hW.2.2.1, fun k hk => by rw [hd k hk]; exact hW.2.2.2 k hk⟩
  rw [h k hk, hd k (by omega)]
  exact hW.2.1 k hk
theorem Ag.tv {σ σ' : Nat → Int32} (h : Ag σ σ') (hT : Tv σ) : Tv σ' := by
  have h14 := hT.2.1
  refine ⟨by rw [h.T, h 11 (by decide)]; exact hT.1, by rw [h.T]; exact h14, fun t ht => ?_⟩
  rw [h.T] at ht
  have ht14 : t < 14 := by omega
  have hx := hT.2.2 t ht
  have hl := hx.2.2.2.2.1.1
  unfold TXv at hx ⊢
  rw [h.ky ht14, h.len ht14, h.at' ht14, h _ (by omega), h _ (by omega)]
  exact ⟨hx.1, hx.2.1, hx.2.2.1, fun k hk => by rw [h _ (by omega), h.tok ht14 (by omega)]; exact hx.2.2.2.1 k hk, hx.2.2.2.2.cg (fun k hk => h.tok ht14 (by omega))⟩
theorem Ag.vd {σ σ' : Nat → Int32} (h : Ag σ σ') (hV : Vd σ) : Vd σ' := by
  obtain ⟨hS, hP, hT, hD⟩ := hV
  have h12 := hS.c12
  refine ⟨h.svd hS, ⟨by rw [h 6 (by decide)]; exact hP.1, fun p hp => by rw [h _ (by omega)]; exact hP.2 p hp⟩, h.tv hT, ?_⟩
  intro a b hab hb p hp
  rw [h.c] at hb
  rw [Ag_so h (by omega), Ag_so h (by omega)]
  exact hD a b hab hb p hp
theorem TXc.cg {w : Wd} {a key len at' : Nat} {τ τ' : Nat → Nat} (hT : TXc w a key len at' τ) (h : ∀ k, k < len → τ' k = τ k) : TXc w a key len at' τ' := ⟨hT.1, hT.2.1, hT.2.2.1, fun k hk => by rw [h k hk]; exact hT.2.2.2 k hk⟩
theorem Ag.ri {σ σ' : Nat → Int32} {w : Wd} {b : Nat} (h : Ag σ σ') (hV : Vd σ) (hR : RI w b σ) : RI w b σ' := by
  have h12 := hV.1.c12
  have h14 := hV.2.2.1.2.1
  refine ⟨⟨by rw [h 1 (by decide)]; exact hR.1.1, by rw [h 2 (by decide), h 3 (by decide), h 4 (by decide), h.n]; exact hR.1.2.1, fun i hi j hj => ?_⟩, ⟨fun p hp => by rw [h _ (by omega)]; exact hR.2.1.1 p hp, fun j hj => by rw [h _ (by omega)]; exact hR.2.1.2.1 j hj, by rw [h 10 (by decide), h 5 (by decide), h 0 (by decide)]; exact hR.2.1.2.2⟩, by rw [h 11 (by decide)]; exact hR.2.2.1, fun k hk => ?_, fun t ht => ?_⟩
  · rw [h.c] at hi
    rw [h.s (by omega) hj]
    exact hR.1.2.2 i hi j hj
  · rw [hR.2.2.2.1 k hk]
    unfold cnI
    rw [h.T, Ag_ls h k _ h14]
  · rw [h.T] at ht
    obtain ⟨a, e1, e2⟩ := hR.2.2.2.2 t ht
    have hl := (hV.2.2.1.2.2 t ht).2.2.2.2.1.1
    refine ⟨a, e1, ?_⟩
    rw [h.ky (by omega), h.len (by omega), h.at' (by omega)]
    exact e2.cg (fun k hk => h.tok (by omega) (by omega))
/-! frames in which the texts of one Inn change -/
def Ic (b a : Nat) : Prop := b ≤ a ∧ a < b + 19
def Fq (A : Nat → Prop) (b : Nat) (w w' : Wd) : Prop := wK w' = wK w ∧ wL w' = wL w ∧ wN w' = wN w ∧ (∀ a, a ≠ b + 5 → wR w' a = wR w a) ∧ ∀ a, ¬ A a → wI w' a = wI w a
theorem Fq.rf {A : Nat → Prop} {b : Nat} (w : Wd) : Fq A b w w := ⟨rfl, rfl, rfl, fun _ _ => rfl, fun _ _ => rfl⟩
theorem Fq.tr {A : Nat → Prop} {b : Nat} {w w1 w2 : Wd} (h1 : Fq A b w w1) (h2 : Fq A b w1 w2) : Fq A b w w2 := ⟨h2.1.trans h1.1, h2.2.1.trans h1.2.1, h2.2.2.1.trans h1.2.2.1, fun a ha => (h2.2.2.2.1 a ha).trans (h1.2.2.2.1 a ha), fun a ha => (h2.2.2.2.2 a ha).trans (h1.2.2.2.2 a ha)⟩
theorem Fq.of {A B : Nat → Prop} {b : Nat} {w w1 : Wd} (h : Fr A w w1) (hAB : ∀ a, A a → B a) : Fq B b w w1 := ⟨h.1, h.2.1, h.2.2.2.1, fun a _ => by rw [h.2.2.1], fun a ha => h.2.2.2.2 a (fun q => ha (hAB a q))⟩
theorem Fq.mono {A B : Nat → Prop} {b : Nat} {w w1 : Wd} (h : Fq A b w w1) (hAB : ∀ a, A a → B a) : Fq B b w w1 := ⟨h.1, h.2.1, h.2.2.1, h.2.2.2.1, fun a ha => h.2.2.2.2 a (fun q => ha (hAB a q))⟩
theorem Fq.lay {A : Nat → Prop} {b : Nat} {w w1 : Wd} (hb : bI b) (h : Fq A b w w1) (hL : Lay w) : Lay w1 := by
  unfold Lay
  rw [h.1, h.2.1, h.2.2.1]
  refine ⟨hL.1, hL.2.1, fun a ha => ⟨(hL.2.2 a ha).1, (hL.2.2 a ha).2.1, fun h6 j hj => ?_⟩⟩
  rw [h.2.2.2.1 a (fun e => h6 (by rw [e]; rcases hb with q | q | q <;> subst q <;> rfl))]
  exact (hL.2.2 a ha).2.2 h6 j hj
theorem TXc.fq {A : Nat → Prop} {b : Nat} {w w' : Wd} {a key len at' : Nat} {τ : Nat → Nat} (hb : bI b) (h : TXc w a key len at' τ) (hf : Fq A b w w') (hA : ∀ b, A b → b < 119 ∨ b % 3 = 1) : TXc w' a key len at' τ := by
  obtain ⟨h1, h2, h3, h4⟩ := h
  have hbl := bI_lt hb
  have e1 : wI w' a = wI w a := hf.2.2.2.2 a (fun q => by have := hA a q; omega)
  have e2 : wI w' (a - 1) = wI w (a - 1) := hf.2.2.2.2 (a - 1) (fun q => by have := hA _ q; omega)
  have e3 : wR w' a = wR w a := hf.2.2.2.1 a (by omega)
  unfold TXc
  rw [hf.1, hf.2.1, hf.2.2.1, e1, e2, e3]
  exact ⟨h1, h2, h3, h4⟩
theorem RI.fq {w w' : Wd} {b c : Nat} {σ : Nat → Int32} {A : Nat → Prop} (hb : bI b) (hcI : bI c) (hbc : b ≠ c) (hS : Sv σ) (h : RI w c σ) (hf : Fq A b w w') (hA : ∀ x, A x → (x < c ∨ c + 19 ≤ x) ∧ (x < 119 ∨ x % 3 = 1)) : RI w' c σ := by
  have h12 := hS.c12
  have e : ∀ x, c ≤ x → x < c + 19 → wI w' x = wI w x := fun x h1 h2 => hf.2.2.2.2 x (fun q => by have := (hA x q).1; omega)
  refine ⟨⟨?_, ?_, fun i hi j hj => ?_⟩, ⟨fun p hp => ?_, fun j hj => ?_, ?_⟩, ?_, fun k hk => ?_, fun t ht => ?_⟩
  · rw [e c (by omega) (by omega)]; exact h.1.1
  · rw [e (c + 1) (by omega) (by omega)]; exact h.1.2.1
  · rw [e (c + 7 + i) (by omega) (by omega)]; exact h.1.2.2 i hi j hj
  · rw [e (c + 3) (by omega) (by omega)]; exact h.2.1.1 p hp
  · rw [e (c + 4) (by omega) (by omega)]; exact h.2.1.2.1 j hj
  · rw [e c (by omega) (by omega)]; exact h.2.1.2.2
  · rw [e c (by omega) (by omega)]; exact h.2.2.1
  · rw [e (c + 6) (by omega) (by omega)]; exact h.2.2.2.1 k hk
  · obtain ⟨a, h1, h2⟩ := h.2.2.2.2 t ht
    exact ⟨a, by rw [hf.2.2.2.1 _ (by omega)]; exact h1, h2.fq hb hf (fun x q => (hA x q).2)⟩
