/-! THE OUTLOOK: the greatest gain -/
def cN (σ : Nat → Int32) (p : Nat) : Nat := (σ 6).toInt.toNat + (σ (12 + p)).toInt.toNat
def Cv (σ : Nat → Int32) : Prop := (∃ q, q ≤ 99 ∧ σ 6 = nI q) ∧ ∀ p, p < 12 → ∃ q, q ≤ 149 ∧ σ (12 + p) = nI q
theorem cN_e {σ : Nat → Int32} (h : Cv σ) {p : Nat} (hp : p < 12) : σ 6 + σ (12 + p) = nI (cN σ p) ∧ cN σ p ≤ 300 := by
  obtain ⟨⟨a, a1, a2⟩, h2⟩ := h
  obtain ⟨b, b1, b2⟩ := h2 p hp
  have e : cN σ p = a + b := by
    unfold cN
    rw [a2, b2, nI_toInt (by omega), nI_toInt (by omega)]
    omega
  rw [e, a2, b2]
  exact ⟨nI_add a b, by omega⟩
theorem wk4 {σ : Nat → Int32} {T : Nat → Int32} {t : Nat} (f : Nat → Nat) (hf : ∀ q, q < 12 → bt (orS σ (nI t)) q = true → T (t ||| 2 ^ q) + (σ 6 + σ (12 + q)) = nI (f q) ∧ f q < 2 ^ 31) : ∀ m p c mx mn s fl, p + m ≤ 12 → mx < 2 ^ 31 → ∃ r, wkF σ 4 T t m p c (nI mx) mn s fl = nI r ∧ r < 2 ^ 31 ∧ mx ≤ r ∧ (∀ q, p ≤ q → q < p + m → bt (orS σ (nI t)) q = true → f q ≤ r) ∧ (r = mx ∨ ∃ q, p ≤ q ∧ q < p + m ∧ bt (orS σ (nI t)) q = true ∧ r = f q) := by
  intro m
  induction m with
  | zero =>
    intro p c mx mn s fl hp hm
    refine ⟨mx, ?_, hm, Nat.le_refl _, fun q q1 q2 => by omega, Or.inl rfl⟩
    rw [wkF, if_neg (by decide), if_neg (by decide), if_neg (by decide)]
  | succ m ih =>
    intro p c mx mn s fl hp hm
    rw [wkF]
    by_cases z : bt (orS σ (nI t)) p = true
    · obtain ⟨e1, e2⟩ := hf p (by omega) z
      rw [if_pos z, if_pos (rfl : (4 : Int32) = 4), e1]
      by_cases y : f p ≤ mx
      · rw [if_pos ((nI_le' (by omega) (by omega)).mpr y)]
        obtain ⟨r, r1, r2, r3, r4, r5⟩ := ih (p + 1) (c + 1) mx (if mn ≤ nI (f p) then mn else nI (f p)) (s + Int32.toInt64 (T (t ||| 2 ^ p))) (if T (t ||| 2 ^ p) = 0 then 1 else fl) (by omega) hm
        refine ⟨r, r1, r2, r3, fun q q1 q2 q3 => ?_, ?_⟩
        · rcases Nat.eq_or_lt_of_le q1 with e | e
          · subst e; omega
          · exact r4 q (by omega) (by omega) q3
        · rcases r5 with e | ⟨q, q1, q2, q3, q4⟩
          · exact Or.inl e
          · exact Or.inr ⟨q, by omega, by omega, q3, q4⟩
      · rw [if_neg (fun q => y ((nI_le' (by omega) (by omega)).mp q))]
        obtain ⟨r, r1, r2, r3, r4, r5⟩ := ih (p + 1) (c + 1) (f p) (if mn ≤ nI (f p) then mn else nI (f p)) (s + Int32.toInt64 (T (t ||| 2 ^ p))) (if T (t ||| 2 ^ p) = 0 then 1 else fl) (by omega) e2
        refine ⟨r, r1, r2, by omega, fun q q1 q2 q3 => ?_, ?_⟩
        · rcases Nat.eq_or_lt_of_le q1 with e | e
          · subst e; exact r3
          · exact r4 q (by omega) (by omega) q3
        · rcases r5 with e | ⟨q, q1, q2, q3, q4⟩
          · exact Or.inr ⟨p, Nat.le_refl _, by omega, z, e⟩
          · exact Or.inr ⟨q, by omega, by omega, q3, q4⟩
    · rw [if_neg z]
      obtain ⟨r, r1, r2, r3, r4, r5⟩ := ih (p + 1) c mx mn s fl (by omega) hm
      refine ⟨r, r1, r2, r3, fun q q1 q2 q3 => ?_, ?_⟩
      · rcases Nat.eq_or_lt_of_le q1 with e | e
        · subst e; exact absurd q3 z
        · exact r4 q (by omega) (by omega) q3
      · rcases r5 with e | ⟨q, q1, q2, q3, q4⟩
        · exact Or.inl e
        · exact Or.inr ⟨q, by omega, by omega, q3, q4⟩
def gN (σ : Nat → Int32) (t : Nat) : Nat := (gW σ 4 t).toInt.toNat
theorem g4 {σ : Nat → Int32} (hS : Sv σ) (hC : Cv σ) : ∀ f t, t < 2 ^ n_ σ → 4096 - t ≤ f → f ≤ 4096 → (gW σ 4 t = nI (gN σ t) ∧ gN σ t ≤ 300 * f) ∧ (∀ q, q < n_ σ → bt (orS σ (nI t)) q = true → gN σ (t ||| 2 ^ q) + cN σ q ≤ gN σ t) ∧ (gN σ t = 0 ∨ ∃ q, q < n_ σ ∧ bt (orS σ (nI t)) q = true ∧ gN σ t = gN σ (t ||| 2 ^ q) + cN σ q) := by
  have h12 := hS.n12
  have p12 := pw12 h12
  intro f
  induction f with
  | zero => intro t ht g; omega
  | succ f ih =>
    intro t ht g g'
    have ihq : ∀ q, q < 12 → bt (orS σ (nI t)) q = true → gW σ 4 (t ||| 2 ^ q) = nI (gN σ (t ||| 2 ^ q)) ∧ gN σ (t ||| 2 ^ q) ≤ 300 * f := fun q hq z => by
      obtain ⟨z1, z2⟩ := or_no hS ht (by omega) z
      have := or_gt z2
      exact (ih _ (or_lt ht z1) (by omega) (by omega)).1
    have e := gW_eq hS 4 ht
    obtain ⟨r, r1, r2, r3, r4, r5⟩ := wk4 (σ := σ) (T := gW σ 4) (t := t) (fun q => gN σ (t ||| 2 ^ q) + cN σ q) (fun q hq z => by
      have a := ihq q hq z
      have b := cN_e hC hq
      refine ⟨by rw [a.1, b.1]; exact nI_add _ _, ?_⟩
      show gN σ (t ||| 2 ^ q) + cN σ q < 2 ^ 31
      omega) (n_ σ) 0 0 0 99 0 0 (by omega) (by decide)
    have eg : gN σ t = r := by
      unfold gN
      rw [e]
      unfold wk
      rw [show wkF σ 4 (gW σ 4) t (n_ σ) 0 0 0 99 0 0 = nI r from r1, nI_toInt r2]
      omega
    have ew : gW σ 4 t = nI r := by
      rw [e]
      exact r1
    refine ⟨⟨by rw [eg]; exact ew, ?_⟩, fun q hq z => by rw [eg]; exact r4 q (Nat.zero_le _) (by omega) z, ?_⟩
    · rcases r5 with y | ⟨q, q1, q2, q3, q4⟩
      · omega
      · have a := (ihq q (by omega) q3).2
        have b := (cN_e hC (show q < 12 by omega)).2
        rw [eg, q4]
        show gN σ (t ||| 2 ^ q) + cN σ q ≤ _
        omega
    · rcases r5 with y | ⟨q, q1, q2, q3, q4⟩
      · exact Or.inl (by omega)
      · exact Or.inr ⟨q, by omega, q3, by rw [eg]; exact q4⟩
/-- what can be reached from a set -/
def Rc (σ : Nat → Int32) (t0 t : Nat) : Prop := ∀ P : Nat → Prop, P t0 → (∀ u p, P u → p < n_ σ → bt (orS σ (nI u)) p = true → P (u ||| 2 ^ p)) → P t
theorem Rc.z {σ : Nat → Int32} {t0 : Nat} : Rc σ t0 t0 := fun _ z _ => z
theorem Rc.s {σ : Nat → Int32} {t0 t p : Nat} (h : Rc σ t0 t) (hp : p < n_ σ) (hb : bt (orS σ (nI t)) p = true) : Rc σ t0 (t ||| 2 ^ p) := fun P z s => s t p (h P z s) hp hb
theorem Rc.i {σ : Nat → Int32} {t0 t : Nat} {P : Nat → Prop} (h : Rc σ t0 t) (z : P t0) (s : ∀ u p, Rc σ t0 u → P u → p < n_ σ → bt (orS σ (nI u)) p = true → P (u ||| 2 ^ p)) : P t := (h (fun u => Rc σ t0 u ∧ P u) ⟨Rc.z, z⟩ (fun u p hu hp hb => ⟨hu.1.s hp hb, s u p hu.1 hu.2 hp hb⟩)).2
theorem Rc.f {σ : Nat → Int32} {t0 t : Nat} (h : Rc σ t0 t) (h0 : t0 < 2 ^ n_ σ) : t < 2 ^ n_ σ ∧ t0 ≤ t ∧ ∀ i, t0.testBit i = true → t.testBit i = true := by
  refine h.i (P := fun t => t < 2 ^ n_ σ ∧ t0 ≤ t ∧ ∀ i, t0.testBit i = true → t.testBit i = true) ⟨h0, Nat.le_refl _, fun i q => q⟩ (fun u p _ hu hp _ => ⟨or_lt hu.1 hp, Nat.le_trans hu.2.1 Nat.left_le_or, fun i q => ?_⟩)
  rw [Nat.testBit_or, hu.2.2 i q, Bool.true_or]
theorem Rc.inv {σ : Nat → Int32} {t0 t : Nat} (h : Rc σ t0 t) : t = t0 ∨ ∃ u p, Rc σ t0 u ∧ p < n_ σ ∧ bt (orS σ (nI u)) p = true ∧ t = u ||| 2 ^ p :=
  h.i (P := fun t => t = t0 ∨ ∃ u p, Rc σ t0 u ∧ p < n_ σ ∧ bt (orS σ (nI u)) p = true ∧ t = u ||| 2 ^ p) (Or.inl rfl) (fun u p hu _ hp hb => Or.inr ⟨u, p, hu, hp, hb, rfl⟩)
def CS (c : Nat → Nat) (t0 t : Nat) : Nat → Nat
  | 0 => 0
  | m + 1 => CS c t0 t m + (if t.testBit m = true ∧ t0.testBit m = false then c m else 0)
theorem CS_0 (c : Nat → Nat) (t0 : Nat) : ∀ m, CS c t0 t0 m = 0 := by
  intro m
  induction m with
  | zero => rfl
  | succ m ih =>
    rw [CS, ih, if_neg (fun q => by rw [q.1] at q; cases q.2)]
theorem CS_s {c : Nat → Nat} {t0 t p : Nat} (h1 : t.testBit p = false) (h2 : t0.testBit p = false) : ∀ m, CS c t0 (t ||| 2 ^ p) m = CS c t0 t m + (if p < m then c p else 0) := by
  intro m
  induction m with
  | zero => rfl
  | succ m ih =>
    rw [CS, CS, ih, Nat.testBit_or, Nat.testBit_two_pow]
    by_cases e : p = m
    · subst e
      rw [h1, h2]
      simp
    · rw [decide_eq_false e, Bool.or_false]
      by_cases z : p < m
      · rw [if_pos z, if_pos (show p < m + 1 by omega)]; omega
      · rw [if_neg z, if_neg (show ¬ p < m + 1 by omega)]; omega
theorem CS_le {c : Nat → Nat} {t0 t : Nat} (h : ∀ p, p < 12 → c p ≤ 300) : ∀ m, m ≤ 12 → CS c t0 t m ≤ 300 * m := by
  intro m
  induction m with
  | zero => intro _; exact Nat.le_refl _
  | succ m ih =>
    intro hm
    have := ih (by omega)
    have := h m (by omega)
    rw [CS]
    split <;> omega
theorem CS_x {c c' : Nat → Nat} {t0 t p0 : Nat} (h : ∀ p, p < 12 → c' p = c p + (if p = p0 then 50 else 0)) : ∀ m, m ≤ 12 → CS c' t0 t m = CS c t0 t m + (if p0 < m ∧ t.testBit p0 = true ∧ t0.testBit p0 = false then 50 else 0) := by
  intro m
  induction m with
  | zero => intro _; rw [if_neg (fun q => by omega)]; rfl
  | succ m ih =>
    intro hm
    rw [CS, CS, ih (by omega), h m (by omega)]
    by_cases e : m = p0
    · subst e
      rw [if_neg (show ¬ (m < m ∧ t.testBit m = true ∧ t0.testBit m = false) from fun q => by omega), if_pos (rfl : m = m)]
      by_cases z : t.testBit m = true ∧ t0.testBit m = false
      · rw [if_pos z, if_pos z, if_pos (show m < m + 1 ∧ t.testBit m = true ∧ t0.testBit m = false from ⟨by omega, z⟩)]; omega
      · rw [if_neg z, if_neg z, if_neg (show ¬ (m < m + 1 ∧ t.testBit m = true ∧ t0.testBit m = false) from fun q => z q.2)]
    · rw [if_neg e, Nat.add_zero]
      by_cases z : p0 < m ∧ t.testBit p0 = true ∧ t0.testBit p0 = false
      · rw [if_pos z, if_pos (show p0 < m + 1 ∧ t.testBit p0 = true ∧ t0.testBit p0 = false from ⟨by omega, z.2⟩)]; omega
      · rw [if_neg z, if_neg (show ¬ (p0 < m + 1 ∧ t.testBit p0 = true ∧ t0.testBit p0 = false) from fun q => z ⟨by omega, q.2⟩)]; omega
theorem G_up {σ : Nat → Int32} (hS : Sv σ) (hC : Cv σ) {t0 t : Nat} (h0 : t0 < 2 ^ n_ σ) (h : Rc σ t0 t) : CS (cN σ) t0 t 12 + gN σ t ≤ gN σ t0 := by
  have h12 := hS.n12
  refine h.i (P := fun t => CS (cN σ) t0 t 12 + gN σ t ≤ gN σ t0) (by rw [CS_0]; omega) (fun u p hu ih hp hb => ?_)
  obtain ⟨f1, f2, f3⟩ := hu.f h0
  obtain ⟨z1, z2⟩ := or_no hS f1 (by omega) hb
  have z3 : t0.testBit p = false := by
    cases q : t0.testBit p with
    | false => rfl
    | true => rw [f3 p q] at z2; cases z2
  have := (g4 hS hC 4096 u f1 (by omega) (by omega)).2.1 p hp hb
  rw [CS_s z2 z3, if_pos (by omega)]
  omega
theorem G_dn {σ : Nat → Int32} (hS : Sv σ) (hC : Cv σ) {t0 : Nat} (h0 : t0 < 2 ^ n_ σ) : ∀ f t, 4096 - t ≤ f → Rc σ t0 t → ∃ E, Rc σ t0 E ∧ orS σ (nI E) = 0 ∧ CS (cN σ) t0 t 12 + gN σ t = CS (cN σ) t0 E 12 := by
  have h12 := hS.n12
  have p12 := pw12 h12
  intro f
  induction f with
  | zero => intro t g hr; have := (hr.f h0).1; omega
  | succ f ih =>
    intro t g hr
    obtain ⟨f1, f2, f3⟩ := hr.f h0
    obtain ⟨-, g2, g3⟩ := g4 hS hC 4096 t f1 (by omega) (by omega)
    by_cases e : orS σ (nI t) = 0
    · refine ⟨t, hr, e, ?_⟩
      rcases g3 with y | ⟨q, q1, q2, q3⟩
      · omega
      · rw [e, b_0] at q2; cases q2
    · have ex : ∃ q, q < n_ σ ∧ bt (orS σ (nI t)) q = true ∧ gN σ t = gN σ (t ||| 2 ^ q) + cN σ q := by
        rcases g3 with y | y
        · obtain ⟨S, s1, s2⟩ := Bd_nat (orS_Bd hS f1)
          have : ∃ q, S.testBit q = true := Nat.exists_testBit_of_ne_zero (fun q => e (by rw [s2, q]; rfl))
          obtain ⟨q, hq⟩ := this
          have qn : q < n_ σ := by
            by_cases z : q < n_ σ
            · exact z
            · have := Nat.testBit_lt_two_pow (Nat.lt_of_lt_of_le s1 (Nat.pow_le_pow_right (by decide) (Nat.le_of_not_lt z)))
              rw [this] at hq; cases hq
          have hb : bt (orS σ (nI t)) q = true := by rw [s2, bt_nI (by omega)]; exact hq
          have := g2 q qn hb
          exact ⟨q, qn, hb, by omega⟩
        · exact y
      obtain ⟨q, q1, q2, q3⟩ := ex
      obtain ⟨z1, z2⟩ := or_no hS f1 (by omega) q2
      have z3 : t0.testBit q = false := by
        cases y : t0.testBit q with
        | false => rfl
        | true => rw [f3 q y] at z2; cases z2
      have og := or_gt z2
      obtain ⟨E, e1, e2, e3⟩ := ih (t ||| 2 ^ q) (by omega) (hr.s q1 q2)
      refine ⟨E, e1, e2, ?_⟩
      rw [← e3, CS_s z2 z3, if_pos (by omega)]
      omega
