/-! THE OUTLOOK: a softer cushion -/
theorem orS_cg {σ σ' : Nat → Int32} (h2 : σ' 2 = σ 2) (h3 : σ' 3 = σ 3) (h4 : σ' 4 = σ 4) (t : Int32) : orS σ' t = orS σ t := by
  unfold orS wa wb n_
  rw [h2, h3, h4]
def up5 (σ : Nat → Int32) (p : Nat) : Nat → Int32 := upd σ (12 + p) (σ (12 + p) + 50)
theorem up5_o {σ : Nat → Int32} {p j : Nat} (h : j ≠ 12 + p) : up5 σ p j = σ j := upd_n _ _ h
theorem up5_n (σ : Nat → Int32) (p : Nat) : n_ (up5 σ p) = n_ σ := n_upd _ (by omega)
theorem up5_or (σ : Nat → Int32) (p : Nat) (t : Int32) : orS (up5 σ p) t = orS σ t := orS_cg (up5_o (by omega)) (up5_o (by omega)) (up5_o (by omega)) t
theorem up5_tk {σ : Nat → Int32} {p : Nat} (hp : p < 12) : tk (up5 σ p) = tk σ := by
  unfold tk
  rw [show c_ (up5 σ p) = c_ σ from c_upd _ (by omega), show so (up5 σ p) = so σ from funext fun i => by
    have e : ∀ f, sv (up5 σ p) i f = sv σ i f := fun f => up5_o (by omega)
    unfold so
    rw [e, e, up5_n]]
theorem up5_S {σ : Nat → Int32} {p : Nat} (hS : Sv σ) (hp : p < 12) : Sv (up5 σ p) := hS.lo (by omega) _
theorem Vd.cv {σ : Nat → Int32} (hV : Vd σ) : Cv σ := ⟨hV.2.1.1, fun p hp => by obtain ⟨q, q1, q2⟩ := hV.2.1.2 p hp; exact ⟨q, by omega, q2⟩⟩
theorem up5_C {σ : Nat → Int32} {p : Nat} (hV : Vd σ) (hp : p < 12) : Cv (up5 σ p) := by
  refine ⟨?_, fun q hq => ?_⟩
  · rw [up5_o (by omega)]; exact hV.2.1.1
  · obtain ⟨a, a1, a2⟩ := hV.2.1.2 q hq
    by_cases e : q = p
    · subst e
      refine ⟨a + 50, by omega, ?_⟩
      unfold up5
      rw [upd_s, a2]
      exact nI_add a 50
    · exact ⟨a, by omega, by rw [up5_o (by omega)]; exact a2⟩
theorem up5_c {σ : Nat → Int32} {p : Nat} (hV : Vd σ) (hp : p < 12) : ∀ q, q < 12 → cN (up5 σ p) q = cN σ q + (if q = p then 50 else 0) := fun q hq => by
  obtain ⟨a, a1, a2⟩ := hV.2.1.2 q hq
  unfold cN
  rw [up5_o (show 6 ≠ 12 + p by omega)]
  by_cases e : q = p
  · subst e
    rw [if_pos rfl]
    unfold up5
    rw [upd_s, a2, show nI a + 50 = nI (a + 50) from nI_add a 50, nI_toInt (by omega), nI_toInt (by omega)]
    omega
  · rw [if_neg e, up5_o (by omega)]
    rfl
theorem up5_R {σ : Nat → Int32} {p t0 t : Nat} : Rc (up5 σ p) t0 t ↔ Rc σ t0 t := by
  unfold Rc
  rw [up5_n]
  simp only [up5_or]
def xtr (t0 t p : Nat) : Nat := if t.testBit p = true ∧ t0.testBit p = false then 50 else 0
theorem xtr_e {σ : Nat → Int32} {p t0 : Nat} (hV : Vd σ) (hp : p < 12) (t : Nat) : CS (cN (up5 σ p)) t0 t 12 = CS (cN σ) t0 t 12 + xtr t0 t p := by
  rw [CS_x (up5_c hV hp) 12 (by decide)]
  unfold xtr
  by_cases z : t.testBit p = true ∧ t0.testBit p = false
  · rw [if_pos z, if_pos ⟨hp, z⟩]
  · rw [if_neg z, if_neg (fun q => z q.2)]
theorem V_le {σ : Nat → Int32} {p t0 E : Nat} (hV : Vd σ) (hp : p < 12) (h0 : t0 < 2 ^ n_ σ) (hE : Rc σ t0 E) : CS (cN σ) t0 E 12 + xtr t0 E p ≤ gN (up5 σ p) t0 := by
  have := G_up (up5_S hV.1 hp) (up5_C hV hp) (by rw [up5_n]; exact h0) (up5_R.mpr hE)
  rw [xtr_e hV hp] at this
  omega
theorem V_ex {σ : Nat → Int32} {p t0 : Nat} (hV : Vd σ) (hp : p < 12) (h0 : t0 < 2 ^ n_ σ) : ∃ E, Rc σ t0 E ∧ orS σ (nI E) = 0 ∧ gN (up5 σ p) t0 = CS (cN σ) t0 E 12 + xtr t0 E p := by
  obtain ⟨E, e1, e2, e3⟩ := G_dn (up5_S hV.1 hp) (up5_C hV hp) (by rw [up5_n]; exact h0) 4096 t0 (by omega) Rc.z
  rw [CS_0, xtr_e hV hp] at e3
  rw [up5_or] at e2
  exact ⟨E, up5_R.mp e1, e2, by omega⟩
/-- the first of the greatest -/
def Fm (n : Nat) (fr : Nat → Bool) (b : Nat → Int) (q : Nat) : Prop := q < n ∧ fr q = true ∧ (∀ r, r < n → fr r = true → b r ≤ b q) ∧ ∀ r, r < q → fr r = true → b r < b q
theorem Fm.u {n : Nat} {fr : Nat → Bool} {b : Nat → Int} {q q' : Nat} (h : Fm n fr b q) (h' : Fm n fr b q') : q = q' := by
  rcases Nat.lt_trichotomy q q' with e | e | e
  · have := h'.2.2.2 q e h.2.1
    have := h.2.2.1 q' h'.1 h'.2.1
    omega
  · exact e
  · have := h.2.2.2 q' e h'.2.1
    have := h'.2.2.1 q h.1 h.2.1
    omega
theorem Fm.s {n : Nat} {fr : Nat → Bool} {b : Nat → Int} {q : Nat} (h : Fm n fr b q) (hn : fr n = true → b n ≤ b q) : Fm (n + 1) fr b q := by
  refine ⟨by have := h.1; omega, h.2.1, fun r hr y => ?_, h.2.2.2⟩
  by_cases e : r = n
  · subst e; exact hn y
  · exact h.2.2.1 r (by omega) y
theorem Fm.t {n : Nat} {fr : Nat → Bool} {b : Nat → Int} {q : Nat} (h : Fm n fr b q) (y : fr n = true) (hn : b q < b n) : Fm (n + 1) fr b n := by
  refine ⟨by omega, y, fun r hr z => ?_, fun r hr z => ?_⟩
  · by_cases e : r = n
    · subst e; omega
    · have := h.2.2.1 r (by omega) z; omega
  · have := h.2.2.1 r (by omega) z; omega
theorem Fm.z {n : Nat} {fr : Nat → Bool} {b : Nat → Int} (h : ∀ r, r < n → fr r = false) (y : fr n = true) : Fm (n + 1) fr b n := by
  refine ⟨by omega, y, fun r hr z => ?_, fun r hr z => ?_⟩
  · by_cases e : r = n
    · subst e; omega
    · rw [h r (by omega)] at z; cases z
  · rw [h r (by omega)] at z; cases z
/-- what the class keeps for each place -/
def Bw (σ : Nat → Int32) (t0 k : Nat) (B : Nat → Int32) : Prop := ∀ p, p < 12 → (B p = -1 ∨ ∃ E, Rc σ t0 E ∧ orS σ (nI E) = 0 ∧ E.testBit p = true ∧ t0.testBit p = false ∧ B p = nI (CS (cN σ) t0 E 12)) ∧ ∀ E, E < k → Rc σ t0 E → orS σ (nI E) = 0 → E.testBit p = true → t0.testBit p = false → ∃ b, b < 2 ^ 31 ∧ B p = nI b ∧ CS (cN σ) t0 E 12 ≤ b
theorem CS_b {σ : Nat → Int32} (hV : Vd σ) (t0 t : Nat) : CS (cN σ) t0 t 12 ≤ 3600 := CS_le (fun _ hp => (cN_e hV.cv hp).2) 12 (by decide)
theorem worth {σ : Nat → Int32} {t0 q : Nat} {B : Nat → Int32} (hV : Vd σ) (h0 : t0 < 2 ^ n_ σ) (hB : Bw σ t0 (2 ^ n_ σ) B) (hq : Fm (n_ σ) (fun r => !t0.testBit r) (fun r => (B r).toInt) q) : Fm (n_ σ) (fun r => !t0.testBit r) (fun r => (gN (up5 σ r) t0 : Int)) q ∧ nI (gN (up5 σ q) t0) = if B q = -1 then 0 else B q + 50 := by
  have h12 := hV.1.n12
  obtain ⟨q1, q2, q3, q4⟩ := hq
  have qf : t0.testBit q = false := by simpa using q2
  by_cases e : orS σ (nI t0) = 0
  · have only : ∀ E, Rc σ t0 E → E = t0 := fun E hE => hE.i (P := fun t => t = t0) rfl (fun u p _ hu _ hb => by subst hu; rw [e, b_0] at hb; cases hb)
    have v0 : ∀ r, r < 12 → gN (up5 σ r) t0 = 0 := fun r hr => by
      obtain ⟨E, e1, e2, e3⟩ := V_ex hV hr h0
      rw [e3, only E e1, CS_0]
      unfold xtr
      rw [if_neg (fun y => by rw [y.1] at y; cases y.2)]
    have b0 : ∀ r, r < 12 → B r = -1 := fun r hr => by
      rcases (hB r hr).1 with y | ⟨E, e1, e2, e3, e4, e5⟩
      · exact y
      · rw [only E e1, e4] at e3; cases e3
    refine ⟨⟨q1, q2, fun r hr y => ?_, fun r hr y => ?_⟩, ?_⟩
    · show (gN (up5 σ r) t0 : Int) ≤ gN (up5 σ q) t0
      rw [v0 r (by omega), v0 q (by omega)]
      exact Int.le_refl _
    · have := q4 r hr y
      have : (B r).toInt < (B q).toInt := this
      rw [b0 r (by omega), b0 q (by omega)] at this
      exact absurd this (Int.lt_irrefl _)
    · rw [v0 q (by omega), if_pos (b0 q (by omega))]
      rfl
  · obtain ⟨E0, a1, a2, a3⟩ := G_dn hV.1 hV.cv h0 4096 t0 (by omega) Rc.z
    rw [CS_0, Nat.zero_add] at a3
    have up : ∀ E, Rc σ t0 E → CS (cN σ) t0 E 12 ≤ CS (cN σ) t0 E0 12 := fun E hE => by
      have := G_up hV.1 hV.cv h0 hE
      omega
    obtain ⟨f1, f2, f3⟩ := a1.f h0
    have ex : ∃ r, E0.testBit r = true ∧ t0.testBit r = false := by
      by_cases y : ∃ r, E0.testBit r = true ∧ t0.testBit r = false
      · exact y
      · exfalso
        have : E0 = t0 := Nat.eq_of_testBit_eq (fun i => by
          cases z : t0.testBit i with
          | true => exact f3 i z
          | false =>
            cases x : E0.testBit i with
            | false => rfl
            | true => exact absurd ⟨i, x, z⟩ y)
        rw [this] at a2
        exact e a2
    obtain ⟨r0, r1, r2⟩ := ex
    have r3 : r0 < n_ σ := by
      by_cases z : r0 < n_ σ
      · exact z
      · have := Nat.testBit_lt_two_pow (Nat.lt_of_lt_of_le f1 (Nat.pow_le_pow_right (by decide) (Nat.le_of_not_lt z)))
        rw [this] at r1; cases r1
    obtain ⟨b, b1, b2, b3⟩ := (hB r0 (by omega)).2 E0 f1 a1 a2 r1 r2
    have g : (B r0).toInt ≤ (B q).toInt := q3 r0 r3 (by show (!t0.testBit r0) = true; rw [r2]; rfl)
    rw [b2, nI_toInt b1] at g
    have bq : ∃ E1, Rc σ t0 E1 ∧ orS σ (nI E1) = 0 ∧ E1.testBit q = true ∧ t0.testBit q = false ∧ B q = nI (CS (cN σ) t0 E1 12) := by
      rcases (hB q (by omega)).1 with y | y
      · rw [y] at g
        have : (-1 : Int32).toInt = -1 := by decide
        omega
      · exact y
    obtain ⟨E1, c1, c2, c3, c4, c5⟩ := bq
    have cb := CS_b hV t0 E1
    rw [c5, nI_toInt (by omega)] at g
    have u1 := up E1 c1
    have eM : CS (cN σ) t0 E1 12 = CS (cN σ) t0 E0 12 := by omega
    have x1 : xtr t0 E1 q = 50 := by unfold xtr; rw [if_pos ⟨c3, c4⟩]
    have x50 : ∀ E r, xtr t0 E r ≤ 50 := fun E r => by unfold xtr; split <;> omega
    have vq := V_le hV (show q < 12 by omega) h0 c1
    have vm : ∀ r, r < 12 → gN (up5 σ r) t0 ≤ CS (cN σ) t0 E0 12 + 50 := fun r hr => by
      obtain ⟨E, e1, e2, e3⟩ := V_ex hV hr h0
      have := up E e1
      have := x50 E r
      omega
    have vq' := vm q (by omega)
    have vv : gN (up5 σ q) t0 = CS (cN σ) t0 E0 12 + 50 := by omega
    refine ⟨⟨q1, q2, fun r hr y => ?_, fun r hr y => ?_⟩, ?_⟩
    · show (gN (up5 σ r) t0 : Int) ≤ gN (up5 σ q) t0
      have := vm r (by omega)
      omega
    · show (gN (up5 σ r) t0 : Int) < gN (up5 σ q) t0
      have y' : t0.testBit r = false := by simpa using y
      have k : (B r).toInt < (B q).toInt := q4 r hr y
      rw [c5, nI_toInt (by omega)] at k
      obtain ⟨E, e1, e2, e3⟩ := V_ex hV (show r < 12 by omega) h0
      have uE := up E e1
      by_cases z : E.testBit r = true
      · obtain ⟨b', d1, d2, d3⟩ := (hB r (by omega)).2 E (e1.f h0).1 e1 e2 z y'
        rw [d2, nI_toInt d1] at k
        have := x50 E r
        omega
      · have : xtr t0 E r = 0 := by unfold xtr; rw [if_neg (fun w => z w.1)]
        omega
    · have : ¬ B q = -1 := fun y => by
        rw [c5] at y
        have h1 := nI_toInt (show CS (cN σ) t0 E1 12 < 2 ^ 31 by omega)
        rw [y] at h1
        have : (-1 : Int32).toInt = -1 := by decide
        omega
      rw [if_neg this, vv, c5, eM]
      exact (nI_add _ 50).symm
