/-! THE CALLS: worthy -/
def lzF : Nat → Nat → Nat
  | 0, _ => 0
  | k + 1, t => if t % 2 = 1 then lzF k (t / 2) + 1 else 0
theorem lz_b : ∀ k t, t < 2 ^ k → t.testBit (lzF k t) = false ∧ ∀ r, r < lzF k t → t.testBit r = true := by
  intro k
  induction k with
  | zero =>
    intro t ht
    rw [Nat.pow_zero] at ht
    obtain rfl : t = 0 := by omega
    exact ⟨Nat.zero_testBit _, fun r hr => by rw [lzF] at hr; omega⟩
  | succ k ih =>
    intro t ht
    rw [lzF]
    by_cases e : t % 2 = 1
    · rw [if_pos e]
      obtain ⟨h1, h2⟩ := ih (t / 2) (by rw [Nat.pow_succ] at ht; omega)
      refine ⟨by rw [Nat.testBit_succ]; exact h1, fun r hr => ?_⟩
      cases r with
      | zero => rw [Nat.testBit_zero]; exact decide_eq_true e
      | succ r => rw [Nat.testBit_succ]; exact h2 r (by omega)
    · rw [if_neg e]
      refine ⟨by rw [Nat.testBit_zero]; exact decide_eq_false e, fun r hr => by omega⟩
theorem nz_all : ∀ a, a < 64 → ∀ c, c < 64 → ntz (nI (64 * a + c) ^^^ -1) = nI (lzF 12 (64 * a + c)) := by decide +kernel
theorem j_nzx {t : Nat} (h : t < 4096) (w : Wd) : f_J6_numberOfTrailingZeros_0f7a4 (nI t ^^^ -1) w = some (nI (lzF 12 t), w) := by
  have := nz_all (t / 64) (by omega) (t % 64) (by omega)
  rw [show 64 * (t / 64) + t % 64 = t by omega] at this
  rw [j_ntz, this]
theorem lz_lt {n t : Nat} (hn : n ≤ 12) (ht : t < 2 ^ n) (h : ¬ t = 2 ^ n - 1) : lzF 12 t < n := by
  obtain ⟨h1, h2⟩ := lz_b 12 t (Nat.lt_of_lt_of_le ht (Nat.pow_le_pow_right (by decide) hn))
  by_cases z : lzF 12 t < n
  · exact z
  · exfalso
    refine h (Nat.eq_of_testBit_eq (fun i => ?_))
    rw [Nat.testBit_two_pow_sub_one]
    by_cases e : i < n
    · rw [decide_eq_true e]; exact h2 i (by omega)
    · rw [decide_eq_false e]
      exact Nat.testBit_lt_two_pow (Nat.lt_of_lt_of_le ht (Nat.pow_le_pow_right (by decide) (Nat.le_of_not_lt e)))
def FW (a : Nat) : Prop := a = 58 ∨ a = 59 ∨ a = 60
theorem x_weigh {w : Wd} {σ : Nat → Int32} (h : Lay w) (hV : Vd σ) (hR : RI w 1 σ) {t0 : Nat} (h0 : t0 < 2 ^ n_ σ) (nf : ¬ t0 = 2 ^ n_ σ - 1) : ∃ w' q, f_X2_weigh 58 1 (nI t0) w = some ((), w') ∧ Fr FW w w' ∧ Fm (n_ σ) (fun r => !t0.testBit r) (fun r => (gN (up5 σ r) t0 : Int)) q ∧ wI w' 58 2 = nI q ∧ wI w' 58 3 = nI (gN (up5 σ q) t0) := by
  have h12 := hV.1.n12
  have p12 := pw12 h12
  obtain ⟨w1, f1, F1, B1⟩ := x_gather h hV hR h0
  have h1 := F1.lay h
  have lz := lz_lt h12 h0 nf
  obtain ⟨z1, z2⟩ := lz_b 12 t0 (by omega)
  have L : ∀ n m p q (w2 : Wd), p + m = n_ σ → m < n → Fr (fun a => a = 58) w1 w2 → wI w2 58 2 = nI q → Fm p (fun r => !t0.testBit r) (fun r => (wI w1 60 r).toInt) q → ∃ w' q', L_X2_weigh_23 n 58 1 (nI t0) (nI p) w2 = some ((), w') ∧ Fr (fun a => a = 58) w1 w' ∧ Fm (n_ σ) (fun r => !t0.testBit r) (fun r => (wI w1 60 r).toInt) q' ∧ wI w' 58 2 = nI q' ∧ wI w' 58 3 = if wI w1 60 q' = -1 then 0 else wI w1 60 q' + 50 := by
    intro n
    induction n with
    | zero => intro m p q w2 _ g; omega
    | succ n ih =>
      intro m p q w2 g1 g2 F2 e2 hq
      have h2 := F2.lay h1
      have F12 : Fr FW w w2 := (F1.mono (fun a ha => Or.inr ha)).tr (F2.mono (fun a ha => Or.inl ha))
      have R2 : RI w2 1 σ := hR.fr bI1 hV.1 F12 (fun x hx => by unfold FW at hx; exact ⟨by omega, by omega⟩)
      have e0 : wI w2 (1 + 1) 0 = nI (n_ σ) := by rw [R2.1.2.1.1]; exact hV.1.n
      have e60 : wI w2 60 = wI w1 60 := F2.2.2.2.2 60 (by decide)
      have q1 := hq.1
      rw [show L_X2_weigh_23 (n + 1) 58 1 (nI t0) (nI p) w2 = _ from by unfold L_X2_weigh_23; rfl]
      simp only [li_k h2 bI1, li_r0 h2 bI1, li_k1 h2 bI1, bd1_s, ↓reduceIte, e0]
      cases m with
      | zero =>
        rw [if_pos ((nI_le' (by omega) (by omega)).mpr (by omega))]
        simp only [lk_58 h2, lr_58_1 h2, bd1_s, ↓reduceIte, e2, la_60 h2 (show q < 12 by omega), nx_nI (show q < 2 ^ 31 by omega), e60, j_X2_weigh_101, lb_e]
        have hq' : Fm (n_ σ) (fun r => !t0.testBit r) (fun r => (wI w1 60 r).toInt) q := by
          rw [show n_ σ = p by omega]; exact hq
        by_cases z : wI w1 60 q = -1
        · rw [if_pos z]
          exact ⟨_, q, rfl, F2.tr (Fr.sI _ _ _ rfl), hq', by rw [wI_s1, upd_n _ _ (by decide)]; exact e2, by rw [wI_ss, if_pos z]⟩
        · rw [if_neg z]
          exact ⟨_, q, rfl, F2.tr (Fr.sI _ _ _ rfl), hq', by rw [wI_s1, upd_n _ _ (by decide)]; exact e2, by rw [wI_ss, if_neg z]⟩
      | succ m =>
        rw [if_neg (fun z => by have := (nI_le' (by omega) (by omega)).mp z; omega)]
        have bp : bt (nI t0) p = t0.testBit p := bt_nI (by omega)
        by_cases z : t0.testBit p = true
        · rw [z] at bp
          simp only [f_X8_has, bh (show p < 32 by omega), bd2_s, bp, ↓reduceIte, show ¬ (1 : Int32) = 0 by decide, lb_e, nI_s1]
          exact ih m (p + 1) q w2 (by omega) (by omega) F2 e2 (hq.s (fun y => by rw [z] at y; cases y))
        · have z' : t0.testBit p = false := by simpa using z
          rw [z'] at bp
          simp only [f_X8_has, bh (show p < 32 by omega), bd2_s, bp, ↓reduceIte, Bool.false_eq_true, lk_58 h2, lr_58_1 h2, bd1_s, e2, la_60 h2 (show q < 12 by omega), la_60 h2 (show p < 12 by omega), nx_nI (show q < 2 ^ 31 by omega), nx_nI (show p < 2 ^ 31 by omega), e60, lb_e, nI_s1]
          by_cases y : wI w1 60 p ≤ wI w1 60 q
          · rw [if_pos y]
            exact ih m (p + 1) q w2 (by omega) (by omega) F2 e2 (hq.s (fun _ => (le_I _ _).mp y))
          · rw [if_neg y]
            refine ih m (p + 1) p _ (by omega) (by omega) (F2.tr (Fr.sI _ _ _ rfl)) (by rw [wI_ss]) (hq.t (by show (!t0.testBit p) = true; rw [z']; rfl) ?_)
            show (wI w1 60 q).toInt < (wI w1 60 p).toInt
            have : ¬ (wI w1 60 p).toInt ≤ (wI w1 60 q).toInt := fun k => y ((le_I _ _).mpr k)
            omega
  obtain ⟨w2, q, f2, F2, hq, e2, e3⟩ := L FU (n_ σ - (lzF 12 t0 + 1)) (lzF 12 t0 + 1) (lzF 12 t0) (sI w1 58 2 (nI (lzF 12 t0))) (by omega) (by unfold FU; omega) (Fr.sI _ _ _ rfl) (by rw [wI_ss]) (Fm.z (fun r hr => by show (!t0.testBit r) = false; rw [z2 r hr]; rfl) (by show (!t0.testBit (lzF 12 t0)) = true; rw [z1]; rfl))
  obtain ⟨a1, a2⟩ := worth hV h0 B1 hq
  refine ⟨w2, q, ?_, (F1.mono (fun a ha => Or.inr ha)).tr (F2.mono (fun a ha => Or.inl ha)), a1, e2, by rw [e3, a2]⟩
  simp only [f_X2_weigh, lk_58 h, ↓reduceIte, f1, bd2_s, j_nzx (show t0 < 4096 by omega), lk_58 h1, lb_e, wI_ss, nI_s1]
  exact f2
theorem up5_b (σ : Nat → Int32) (p : Nat) : upd (up5 σ p) (12 + p) (up5 σ p (12 + p) - 50) = σ := by
  funext j
  by_cases e : j = 12 + p
  · subst e
    unfold up5
    rw [upd_s, upd_s, Int32.add_sub_cancel]
  · rw [upd_n _ _ e, up5_o e]
def FV (a : Nat) : Prop := a = 97 ∨ a = 100
theorem m_worthy {w : Wd} {σ : Nat → Int32} (h : Lay w) (hσ : wI w 97 = σ) (hV : Vd σ) {t0 : Nat} (h0 : t0 < 2 ^ n_ σ) (e0 : tk σ = nI t0) (v : Int32) : ∃ w' r, L_X9_worthy_25 FU 96 v (nI t0) (-1) 0 0 w = some (r, w') ∧ Fr FV w w' ∧ wI w' 97 = σ ∧ ((∃ q, Fm (n_ σ) (fun r => !t0.testBit r) (fun r => (gN (up5 σ r) t0 : Int)) q ∧ r = if v = 0 then nI q else nI (gN (up5 σ q) t0)) ∨ ((∀ r, r < n_ σ → t0.testBit r = true) ∧ r = -1000000005)) := by
  have h12 := hV.1.n12
  have p12 := pw12 h12
  have gb : ∀ r, r < 12 → gW (up5 σ r) 4 t0 = nI (gN (up5 σ r) t0) ∧ gN (up5 σ r) t0 < 2 ^ 31 := fun r hr => by
    have := (g4 (up5_S hV.1 hr) (up5_C hV hr) 4096 t0 (by rw [up5_n]; exact h0) (by omega) (by omega)).1
    exact ⟨this.1, by omega⟩
  have L : ∀ n m p v3 v4 (w1 : Wd), p + m = n_ σ → m < n → Fr FV w w1 → wI w1 97 = σ → ((∃ q, Fm p (fun r => !t0.testBit r) (fun r => (gN (up5 σ r) t0 : Int)) q ∧ v3 = nI q ∧ v4 = nI (gN (up5 σ q) t0)) ∨ ((∀ r, r < p → t0.testBit r = true) ∧ v3 = -1)) → ∃ w' r, L_X9_worthy_25 n 96 v (nI t0) v3 v4 (nI p) w1 = some (r, w') ∧ Fr FV w w' ∧ wI w' 97 = σ ∧ ((∃ q, Fm (n_ σ) (fun r => !t0.testBit r) (fun r => (gN (up5 σ r) t0 : Int)) q ∧ r = if v = 0 then nI q else nI (gN (up5 σ q) t0)) ∨ ((∀ r, r < n_ σ → t0.testBit r = true) ∧ r = -1000000005)) := by
    intro n
    induction n with
    | zero => intro m p v3 v4 w1 _ g; omega
    | succ n ih =>
      intro m p v3 v4 w1 g1 g2 F1 e1 st
      have h1 := F1.lay h
      have a2 : aK 11 w1 97 2 = true := la_97 h1 (show 2 < 1444 by decide)
      rw [show L_X9_worthy_25 (n + 1) 96 v (nI t0) v3 v4 (nI p) w1 = _ from by unfold L_X9_worthy_25; rfl]
      simp only [lk_96 h1, lr_96_0 h1, bd1_s, a2, ↓reduceIte, show nx 2 = 2 from rfl, e1, hV.1.n]
      cases m with
      | zero =>
        obtain rfl : n_ σ = p := by omega
        rw [if_pos ((nI_le' (by omega) (by omega)).mpr (by omega))]
        refine ⟨w1, _, rfl, F1, e1, ?_⟩
        rcases st with ⟨q, q1, q2, q3⟩ | ⟨q1, q2⟩
        · have := q1.1
          refine Or.inl ⟨q, q1, ?_⟩
          rw [q2, q3, if_pos (by rw [le_I, nI_toInt (by omega)]; show (0 : Int) ≤ _; omega)]
        · refine Or.inr ⟨q1, ?_⟩
          rw [q2, if_neg (by decide)]
      | succ m =>
        have hp : p < 12 := by omega
        rw [if_neg (fun z => by have := (nI_le' (by omega) (by omega)).mp z; omega), b_has (by omega), bt_nI (by omega)]
        by_cases z : t0.testBit p = true
        · rw [if_pos z, if_neg (by decide)]
          simp only [lb_e, nI_s1]
          refine ih m (p + 1) v3 v4 w1 (by omega) (by omega) F1 e1 ?_
          rcases st with ⟨q, q1, q2, q3⟩ | ⟨q1, q2⟩
          · exact Or.inl ⟨q, q1.s (fun y => by rw [z] at y; cases y), q2, q3⟩
          · refine Or.inr ⟨fun r hr => ?_, q2⟩
            by_cases e : r = p
            · subst e; exact z
            · exact q1 r (by omega)
        · have z' : t0.testBit p = false := by simpa using z
          have fz : (fun r => !t0.testBit r) p = true := by show (!t0.testBit p) = true; rw [z']; rfl
          rw [if_neg z, if_pos rfl]
          have ea : (12 : Int32) + nI p = nI (12 + p) := nI_add 12 p
          obtain ⟨w2, ew2⟩ : ∃ w2, w2 = sI w1 97 (12 + p) (σ (12 + p) + 50) := ⟨_, rfl⟩
          have F2 : Fr FV w w2 := by rw [ew2]; exact F1.tr (Fr.sI _ _ _ (Or.inl rfl))
          have h2 := F2.lay h
          have n2 : wI w2 97 = up5 σ p := by rw [ew2, wI_s1, e1]; rfl
          obtain ⟨w3, f3, F3, -⟩ := m_works h2 n2 (up5_S hV.1 hp) (by rw [up5_n]; exact h0) (by rw [up5_tk hp]; exact e0) 4
          have h3 := F3.lay h2
          have n3 : wI w3 97 = up5 σ p := by rw [F3.2.2.2.2 97 (by decide)]; exact n2
          obtain ⟨w4, ew4⟩ : ∃ w4, w4 = sI w3 97 (12 + p) (up5 σ p (12 + p) - 50) := ⟨_, rfl⟩
          have F4 : Fr FV w w4 := by rw [ew4]; exact (F2.tr (F3.mono (fun a ha => Or.inr ha))).tr (Fr.sI _ _ _ (Or.inl rfl))
          have n4 : wI w4 97 = σ := by rw [ew4, wI_s1, n3]; exact up5_b σ p
          rw [(gb p hp).1] at f3
          simp only [ea, la_97 h1 (show 12 + p < 1444 by omega), ↓reduceIte, nx_nI (show 12 + p < 2 ^ 31 by omega), e1, lb_e, ← ew2, f3, bd2_s, lk_96 h3, lr_96_0 h3, bd1_s, la_97 h3 (show 12 + p < 1444 by omega), n3, ← ew4, j_X9_worthy_93, nI_s1]
          rcases st with ⟨q, q1, q2, q3⟩ | ⟨q1, q2⟩
          · have ql := q1.1
            rw [if_neg (show ¬ v3 < 0 by rw [q2, lt_I, nI_toInt (by omega)]; show ¬ _ < (0 : Int); omega), q3]
            have gq := (gb q (by omega)).2
            have gp := (gb p hp).2
            by_cases y : gN (up5 σ p) t0 ≤ gN (up5 σ q) t0
            · rw [if_pos ((nI_le' gq gp).mpr y)]
              exact ih m (p + 1) v3 _ w4 (by omega) (by omega) F4 n4 (Or.inl ⟨q, q1.s (fun _ => by show (gN (up5 σ p) t0 : Int) ≤ gN (up5 σ q) t0; omega), q2, rfl⟩)
            · rw [if_neg (fun k => y ((nI_le' gq gp).mp k))]
              exact ih m (p + 1) (nI p) _ w4 (by omega) (by omega) F4 n4 (Or.inl ⟨p, q1.t fz (by show (gN (up5 σ q) t0 : Int) < gN (up5 σ p) t0; omega), rfl, rfl⟩)
          · rw [if_pos (show v3 < 0 by rw [q2]; decide)]
            exact ih m (p + 1) (nI p) _ w4 (by omega) (by omega) F4 n4 (Or.inl ⟨p, Fm.z (fun r hr => by show (!t0.testBit r) = false; rw [q1 r hr]; rfl) fz, rfl, rfl⟩)
  exact L FU (n_ σ) 0 (-1) 0 w (by omega) (by unfold FU; omega) (Fr.rf w) hσ (Or.inr ⟨fun r hr => by omega, rfl⟩)
theorem E_worthy {w : Wd} (I : Iv w) (v : Int32) : Ok2 (f_X8_worthy 0 v) (f_X9_worthy 96 v) w := by
  have h := I.1
  obtain ⟨hV, hM, hR⟩ := I.2.1
  have h12 := hV.1.n12
  have p12 := pw12 h12
  by_cases c : wi_ v 0 1 = 0
  · exact Ok2.q I (r := -1000000001) (by simp only [f_X8_worthy, wi_X, bd2_s, c, ↓reduceIte]) (by simp only [f_X9_worthy, wi_M, bd2_s, c, ↓reduceIte])
  · obtain ⟨t0, F, q1, q2, q3⟩ := FrS_ex hV.1
    have e3 : wI w (1 + 1) 3 = nI (2 ^ n_ (wI w 97) - 1) := by rw [hR.1.2.1.2.2.2]; exact full_nI hV.1
    have one : 1 ≤ 2 ^ n_ (wI w 97) := Nat.one_le_two_pow
    by_cases nf : t0 = 2 ^ n_ (wI w 97) - 1
    · obtain ⟨w2, r, f2, F2, n2, s2⟩ := m_worthy h rfl hV q1 q2 v
      have er : r = -1000000005 := by
        rcases s2 with ⟨q, a1, a2⟩ | ⟨a1, a2⟩
        · have b1 := a1.1
          have b2 : (!t0.testBit q) = true := a1.2.1
          rw [nf, Nat.testBit_two_pow_sub_one, decide_eq_true b1] at b2
          cases b2
        · exact a2
      refine ⟨r, w, w2, ?_, h, ?_, I.think (Fq.of (Fr.rf w) (A := fun _ => False) (fun a ha => ha.elim)) (FN.of F2 (fun a ha => by unfold FV at ha; exact ⟨by unfold Mc; omega, by omega⟩)) n2⟩
      · simp only [f_X8_worthy, wi_X, bd2_s, c, ↓reduceIte, lk_0 h, lr_0_0 h, bd1_s, li_k h bI1, li_r0 h bI1, li_k1 h bI1, x_taken h bI1 hV.1 hR.1, q2, e3, er]
        rw [if_pos (by rw [nf])]
      · simp only [f_X9_worthy, wi_M, bd2_s, c, ↓reduceIte, lk_96 h, m_taken h rfl hV.1, q2]
        exact f2
    · obtain ⟨w1, q, f1, F1, hq, e1, e2⟩ := x_weigh h hV hR q1 nf
      have h1 := F1.lay h
      have e97 : wI w1 97 = wI w 97 := F1.2.2.2.2 97 (by unfold FW; omega)
      obtain ⟨w2, r, f2, F2, n2, s2⟩ := m_worthy h1 e97 hV q1 q2 v
      have er : r = if v = 0 then nI q else nI (gN (up5 (wI w 97) q) t0) := by
        rcases s2 with ⟨q', a1, a2⟩ | ⟨a1, a2⟩
        · rw [hq.u a1]; exact a2
        · have b2 : (!t0.testBit q) = true := hq.2.1
          rw [a1 q hq.1] at b2
          cases b2
      refine ⟨r, w1, w2, ?_, h1, ?_, I.think (Fq.of F1 (fun a ha => Or.inr (by unfold FW at ha; omega))) (FN.of F2 (fun a ha => by unfold FV at ha; exact ⟨by unfold Mc; omega, by omega⟩)) n2⟩
      · simp only [f_X8_worthy, wi_X, bd2_s, c, ↓reduceIte, lk_0 h, lr_0_0 h, lr_0_4 h, lk_58 h, bd1_s, li_k h bI1, li_r0 h bI1, li_k1 h bI1, x_taken h bI1 hV.1 hR.1, q2, e3, er]
        rw [if_neg (fun y => nf (nI_inj (by omega) (by omega) y)), f1, bd2_s]
        simp only [lk_0 h1, lr_0_4 h1, bd1_s, lk_58 h1, ↓reduceIte, e1, e2]
        by_cases z : v = 0
        · rw [if_pos z, if_pos z]
        · rw [if_neg z, if_neg z]
      · simp only [f_X9_worthy, wi_M, bd2_s, c, ↓reduceIte, lk_96 h1, m_taken h1 e97 hV.1, q2]
        exact f2
