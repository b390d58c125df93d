/-! THE OUTLOOK: gains gathered -/
theorem x_note {w : Wd} (h : Lay w) (x g : Int32) : ∃ w', f_X2_noteGain 58 x g w = some ((), w') ∧ Fr (fun a => a = 60) w w' ∧ ∀ p, p < 12 → wI w' 60 p = if bt x p = true ∧ ¬ g ≤ wI w 60 p then g else wI w 60 p := by
  have L : ∀ n m i (w1 : Wd), i + m = 12 → m < n → Fr (fun a => a = 60) w w1 → (∀ p, p < 12 → wI w1 60 p = if p < i ∧ bt x p = true ∧ ¬ g ≤ wI w 60 p then g else wI w 60 p) → ∃ w', L_X2_noteGain_2 n 58 x g (nI i) w1 = some ((), w') ∧ Fr (fun a => a = 60) w w' ∧ ∀ p, p < 12 → wI w' 60 p = if bt x p = true ∧ ¬ g ≤ wI w 60 p then g else wI w 60 p := by
    intro n
    induction n with
    | zero => intro m i w1 _ g; omega
    | succ n ih =>
      intro m i w1 g1 g2 F1 y1
      have h1 := F1.lay h
      unfold L_X2_noteGain_2
      rw [show (12 : Int32) = nI 12 from rfl]
      cases m with
      | zero =>
        rw [if_pos ((nI_le' (by omega) (by omega)).mpr (by omega))]
        refine ⟨w1, rfl, F1, fun p hp => ?_⟩
        rw [y1 p hp]
        by_cases z : bt x p = true ∧ ¬ g ≤ wI w 60 p
        · rw [if_pos z, if_pos ⟨by omega, z⟩]
        · rw [if_neg z, if_neg (fun q => z q.2)]
      | succ m =>
        have hi : i < 12 := by omega
        have yi := y1 i hi
        rw [if_neg (fun q => by omega)] at yi
        rw [if_neg (fun z => by have := (nI_le' (by omega) (by omega)).mp z; omega)]
        have nxt : ∀ p, p < 12 → p ≠ i → wI w1 60 p = if p < i + 1 ∧ bt x p = true ∧ ¬ g ≤ wI w 60 p then g else wI w 60 p := fun p hp hn => by
          rw [y1 p hp]
          by_cases z : p < i ∧ bt x p = true ∧ ¬ g ≤ wI w 60 p
          · rw [if_pos z, if_pos ⟨by omega, z.2⟩]
          · rw [if_neg z, if_neg (fun q => z ⟨by omega, q.2⟩)]
        have stay : ¬ (bt x i = true ∧ ¬ g ≤ wI w 60 i) → ∀ p, p < 12 → wI w1 60 p = if p < i + 1 ∧ bt x p = true ∧ ¬ g ≤ wI w 60 p then g else wI w 60 p := fun no p hp => by
          by_cases e : p = i
          · subst e; rw [yi, if_neg (fun q => no q.2)]
          · exact nxt p hp e
        by_cases z : bt x i = true
        · simp only [f_X8_has, bh (show i < 32 by omega), bd2_s, z, ↓reduceIte, show ¬ (1 : Int32) = 0 by decide, lk_58 h1, lr_58_1 h1, bd1_s, la_60 h1 hi, nx_nI (show i < 2 ^ 31 by omega), yi, lb_e, nI_s1]
          by_cases y : g ≤ wI w 60 i
          · rw [if_pos y]
            exact ih m (i + 1) w1 (by omega) (by omega) F1 (stay (fun q => q.2 y))
          · rw [if_neg y]
            refine ih m (i + 1) _ (by omega) (by omega) (F1.tr (Fr.sI _ _ _ rfl)) (fun p hp => ?_)
            rw [wI_s1]
            by_cases e : p = i
            · subst e; rw [upd_s, if_pos ⟨by omega, z, y⟩]
            · rw [upd_n _ _ e]; exact nxt p hp e
        · simp only [f_X8_has, bh (show i < 32 by omega), bd2_s, z, ↓reduceIte, lb_e, nI_s1, Bool.false_eq_true]
          exact ih m (i + 1) w1 (by omega) (by omega) F1 (stay (fun q => z q.1))
  exact L FU 12 0 w (by decide) (by unfold FU; omega) (Fr.rf w) (fun p hp => by rw [if_neg (fun q => by omega)])
theorem x_spread {w : Wd} {σ : Nat → Int32} (h : Lay w) (hV : Vd σ) (hR : RI w 1 σ) {t0 k : Nat} (h0 : t0 < 2 ^ n_ σ) (hk : Rc σ t0 k) (e59 : wI w 59 k = nI (CS (cN σ) t0 k 12)) : ∃ w', f_X2_spreadGain 58 1 (nI k) (orS σ (nI k)) w = some ((), w') ∧ Fr (fun a => a = 59) w w' ∧ (∀ p, p < n_ σ → bt (orS σ (nI k)) p = true → wI w' 59 (k ||| 2 ^ p) = nI (CS (cN σ) t0 (k ||| 2 ^ p) 12)) ∧ ∀ t, wI w' 59 t = wI w 59 t ∨ ∃ p, p < n_ σ ∧ bt (orS σ (nI k)) p = true ∧ t = k ||| 2 ^ p := by
  have h12 := hV.1.n12
  have p12 := pw12 h12
  obtain ⟨f1, f2, f3⟩ := hk.f h0
  have L : ∀ n m i (w1 : Wd), i + m = n_ σ → m < n → Fr (fun a => a = 59) w w1 → (∀ p, p < i → bt (orS σ (nI k)) p = true → wI w1 59 (k ||| 2 ^ p) = nI (CS (cN σ) t0 (k ||| 2 ^ p) 12)) → (∀ t, wI w1 59 t = wI w 59 t ∨ ∃ p, p < n_ σ ∧ bt (orS σ (nI k)) p = true ∧ t = k ||| 2 ^ p) → ∃ w', L_X2_spreadGain_3 n 58 1 (nI k) (orS σ (nI k)) (nI i) w1 = some ((), w') ∧ Fr (fun a => a = 59) w w' ∧ (∀ p, p < n_ σ → bt (orS σ (nI k)) p = true → wI w' 59 (k ||| 2 ^ p) = nI (CS (cN σ) t0 (k ||| 2 ^ p) 12)) ∧ ∀ t, wI w' 59 t = wI w 59 t ∨ ∃ p, p < n_ σ ∧ bt (orS σ (nI k)) p = true ∧ t = k ||| 2 ^ p := by
    intro n
    induction n with
    | zero => intro m i w1 _ g; omega
    | succ n ih =>
      intro m i w1 g1 g2 F1 y1 y2
      have h1 := F1.lay h
      have R1 : RI w1 1 σ := hR.fr bI1 hV.1 F1 (fun x hx => by subst hx; exact ⟨by omega, by omega⟩)
      have e0 : wI w1 (1 + 1) 0 = nI (n_ σ) := by rw [R1.1.2.1.1]; exact hV.1.n
      unfold L_X2_spreadGain_3
      simp only [li_k h1 bI1, li_r0 h1 bI1, li_k1 h1 bI1, bd1_s, ↓reduceIte, e0]
      cases m with
      | zero =>
        rw [if_pos ((nI_le' (by omega) (by omega)).mpr (by omega))]
        exact ⟨w1, rfl, F1, fun p hp z => y1 p (by omega) z, y2⟩
      | succ m =>
        have hi : i < n_ σ := by omega
        rw [if_neg (fun z => by have := (nI_le' (by omega) (by omega)).mp z; omega)]
        by_cases z : bt (orS σ (nI k)) i = true
        · obtain ⟨z1, z2⟩ := or_no hV.1 f1 (by omega) z
          have z3 : t0.testBit i = false := by
            cases q : t0.testBit i with
            | false => rfl
            | true => rw [f3 i q] at z2; cases z2
          have ol := or_lt f1 hi
          have ep : (1 : Int32) <<< (nI i &&& 31) = nI (2 ^ i) := by
            have := ps_2 i (by omega)
            unfold ps at this
            exact this
          have ek : wI w1 59 k = nI (CS (cN σ) t0 k 12) := by
            rcases y2 k with q | ⟨p, p1, p2, p3⟩
            · rw [q]; exact e59
            · have := or_gt (or_no hV.1 f1 (show p < 32 by omega) p2).2
              omega
          have r6 : wI w1 (1 + 4) 0 = σ 6 := R1.2.1.2.1 0 (by decide)
          have r12 : wI w1 (1 + 3) i = σ (12 + i) := R1.2.1.1 i (by omega)
          have ev : nI (CS (cN σ) t0 k 12) + σ 6 + σ (12 + i) = nI (CS (cN σ) t0 (k ||| 2 ^ i) 12) := by
            rw [Int32.add_assoc, (cN_e hV.cv (show i < 12 by omega)).1, nI_add, CS_s z2 z3, if_pos (show i < 12 by omega)]
          have a40 : aK 11 w1 (1 + 4) 0 = true := li_a4 h1 bI1 (show 0 < 4 by decide)
          simp only [f_X8_has, bh (show i < 32 by omega), bd2_s, z, ↓reduceIte, show ¬ (1 : Int32) = 0 by decide, lk_58 h1, li_k h1 bI1, lr_58_0 h1, bd1_s, ep, nI_or, la_59 h1 (show k < 4096 by omega), la_59 h1 (show k ||| 2 ^ i < 4096 by omega), nx_nI (show k < 2 ^ 31 by omega), nx_nI (show k ||| 2 ^ i < 2 ^ 31 by omega), nx_nI (show i < 2 ^ 31 by omega), li_r4 h1 bI1, li_r3 h1 bI1, a40, li_a3 h1 bI1 (show i < 12 by omega), show nx 0 = 0 from rfl, r6, r12, ek, ev, lb_e, nI_s1]
          refine ih m (i + 1) _ (by omega) (by omega) (F1.tr (Fr.sI _ _ _ rfl)) (fun p hp y => ?_) (fun t => ?_)
          · rw [wI_s1]
            by_cases e : k ||| 2 ^ p = k ||| 2 ^ i
            · rw [e, upd_s]
            · rw [upd_n _ _ e]
              by_cases e' : p = i
              · subst e'; exact absurd rfl e
              · exact y1 p (by omega) y
          · rw [wI_s1]
            by_cases e : t = k ||| 2 ^ i
            · exact Or.inr ⟨i, hi, z, e⟩
            · rw [upd_n _ _ e]; exact y2 t
        · simp only [f_X8_has, bh (show i < 32 by omega), bd2_s, z, ↓reduceIte, lb_e, nI_s1, Bool.false_eq_true]
          refine ih m (i + 1) w1 (by omega) (by omega) F1 (fun p hp y => ?_) y2
          by_cases e : p = i
          · subst e; exact absurd y z
          · exact y1 p (by omega) y
  exact L FU (n_ σ) 0 w (by omega) (by unfold FU; omega) (Fr.rf w) (fun p hp => by omega) (fun t => Or.inl rfl)
theorem nI_m1' {a : Nat} (h : a < 2 ^ 31) : ¬ nI a = -1 := fun y => by
  have h1 := nI_toInt h
  rw [y] at h1
  have : (-1 : Int32).toInt = -1 := by decide
  omega
def FG (a : Nat) : Prop := a = 59 ∨ a = 60
theorem x_gather {w : Wd} {σ : Nat → Int32} (h : Lay w) (hV : Vd σ) (hR : RI w 1 σ) {t0 : Nat} (h0 : t0 < 2 ^ n_ σ) : ∃ w', f_X2_gatherGains 58 1 (nI t0) w = some ((), w') ∧ Fr FG w w' ∧ Bw σ t0 (2 ^ n_ σ) (wI w' 60) := by
  have h12 := hV.1.n12
  have p12 := pw12 h12
  have fu : ∀ (w1 : Wd), Fr FG w w1 → wI w1 (1 + 1) 3 = nI (2 ^ n_ σ - 1) := fun w1 F1 => by
    rw [F1.2.2.2.2 (1 + 1) (by unfold FG; omega), hR.1.2.1.2.2.2]
    exact full_nI hV.1
  have L65 : ∀ n m k (w1 : Wd), k + m = 2 ^ n_ σ → m < n → t0 ≤ k → Fr FG w w1 → (∀ t, t0 ≤ t → t < 2 ^ n_ σ → wI w1 59 t = -1 ∨ (Rc σ t0 t ∧ wI w1 59 t = nI (CS (cN σ) t0 t 12))) → wI w1 59 t0 = 0 → (∀ u p, Rc σ t0 u → u < k → p < n_ σ → bt (orS σ (nI u)) p = true → wI w1 59 (u ||| 2 ^ p) = nI (CS (cN σ) t0 (u ||| 2 ^ p) 12)) → Bw σ t0 k (wI w1 60) → ∃ w', L_X2_gatherGains_65 n 58 1 (nI t0) (1 + 1) (nI k) w1 = some ((), w') ∧ Fr FG w w' ∧ Bw σ t0 (2 ^ n_ σ) (wI w' 60) := by
    intro n
    induction n with
    | zero => intro m k w1 _ g; omega
    | succ n ih =>
      intro m k w1 g1 g2 g3 F1 ya yb yc yd
      have h1 := F1.lay h
      have R1 : RI w1 1 σ := hR.fr bI1 hV.1 F1 (fun x hx => by unfold FG at hx; exact ⟨by omega, by omega⟩)
      rw [show L_X2_gatherGains_65 (n + 1) 58 1 (nI t0) (1 + 1) (nI k) w1 = _ from by unfold L_X2_gatherGains_65; rfl]
      simp only [li_k1 h1 bI1, ↓reduceIte, fu w1 F1]
      have one : 1 ≤ 2 ^ n_ σ := Nat.one_le_two_pow
      cases m with
      | zero =>
        rw [if_pos ((nI_lt' (by omega) (by omega)).mpr (by omega))]
        refine ⟨w1, rfl, F1, ?_⟩
        rw [show 2 ^ n_ σ = k by omega]
        exact yd
      | succ m =>
        have hk : k < 2 ^ n_ σ := by omega
        rw [if_neg (fun z => by have := (nI_lt' (by omega) (by omega)).mp z; omega)]
        simp only [lk_58 h1, lr_58_0 h1, bd1_s, ↓reduceIte, la_59 h1 (show k < 4096 by omega), nx_nI (show k < 2 ^ 31 by omega), lb_e, nI_s1]
        by_cases z : wI w1 59 k = -1
        · rw [if_pos z]
          have nr : ¬ Rc σ t0 k := fun hr => by
            rcases hr.inv with e | ⟨u, p, u1, u2, u3, u4⟩
            · subst e; rw [yb] at z; cases z
            · have og := or_gt (or_no hV.1 (u1.f h0).1 (show p < 32 by omega) u3).2
              have := yc u p u1 (by omega) u2 u3
              rw [← u4, z] at this
              exact nI_m1' (by have := CS_b hV t0 k; omega) this.symm
          refine ih m (k + 1) w1 (by omega) (by omega) (by omega) F1 ya yb (fun u p u1 u2 u3 u4 => ?_) (fun p hp => ⟨(yd p hp).1, fun E e1 e2 e3 e4 e5 => ?_⟩)
          · by_cases e : u = k
            · subst e; exact absurd u1 nr
            · exact yc u p u1 (by omega) u3 u4
          · by_cases e : E = k
            · subst e; exact absurd e2 nr
            · exact (yd p hp).2 E (by omega) e2 e3 e4 e5
        · rw [if_neg z]
          have hr : Rc σ t0 k ∧ wI w1 59 k = nI (CS (cN σ) t0 k 12) := by
            rcases ya k g3 hk with q | q
            · exact absurd q z
            · exact q
          obtain ⟨hr, ek⟩ := hr
          rw [x_or h1 bI1 hV.1 R1.1 (nI k), bd2_s]
          by_cases o : orS σ (nI k) = 0
          · rw [if_pos o]
            simp only [lk_58 h1, lr_58_0 h1, bd1_s, ↓reduceIte, la_59 h1 (show k < 4096 by omega)]
            rw [ek]
            obtain ⟨w2, f2, F2, y2⟩ := x_note h1 (nI k &&& (nI t0 ^^^ -1)) (nI (CS (cN σ) t0 k 12))
            rw [f2, bd2_s]
            have cb := CS_b hV t0 k
            have bx : ∀ p, p < 12 → bt (nI k &&& (nI t0 ^^^ -1)) p = (k.testBit p && !t0.testBit p) := fun p hp => by
              rw [b_and, b_xm _ (by omega), bt_nI (by omega), bt_nI (by omega)]
            have e59 : wI w2 59 = wI w1 59 := F2.2.2.2.2 59 (by decide)
            refine ih m (k + 1) w2 (by omega) (by omega) (by omega) (F1.tr (F2.mono (fun a ha => Or.inr ha))) (by rw [e59]; exact ya) (by rw [e59]; exact yb) (fun u p u1 u2 u3 u4 => ?_) (fun p hp => ⟨?_, fun E e1 e2 e3 e4 e5 => ?_⟩)
            · rw [e59]
              by_cases e : u = k
              · subst e; rw [o, b_0] at u4; cases u4
              · exact yc u p u1 (by omega) u3 u4
            · rw [y2 p hp, bx p hp]
              by_cases c : (k.testBit p && !t0.testBit p) = true ∧ ¬ nI (CS (cN σ) t0 k 12) ≤ wI w1 60 p
              · rw [if_pos c]
                have := Bool.and_eq_true_iff.mp c.1
                exact Or.inr ⟨k, hr, o, this.1, by simpa using this.2, rfl⟩
              · rw [if_neg c]
                exact (yd p hp).1
            · rw [y2 p hp, bx p hp]
              by_cases e : E = k
              · subst e
                rw [e4, e5]
                by_cases c : nI (CS (cN σ) t0 E 12) ≤ wI w1 60 p
                · rw [if_neg (fun q => q.2 c)]
                  rcases (yd p hp).1 with q | ⟨E', a1, a2, a3, a4, a5⟩
                  · rw [q, le_I, nI_toInt (by omega)] at c
                    have : (-1 : Int32).toInt = -1 := by decide
                    omega
                  · have cb' := CS_b hV t0 E'
                    rw [a5] at c ⊢
                    exact ⟨_, by omega, rfl, (nI_le' (by omega) (by omega)).mp c⟩
                · rw [if_pos ⟨rfl, c⟩]
                  exact ⟨_, by omega, rfl, Nat.le_refl _⟩
              · obtain ⟨b, b1, b2, b3⟩ := (yd p hp).2 E (by omega) e2 e3 e4 e5
                by_cases c : (k.testBit p && !t0.testBit p) = true ∧ ¬ nI (CS (cN σ) t0 k 12) ≤ wI w1 60 p
                · rw [if_pos c]
                  have c2 := c.2
                  rw [b2] at c2
                  refine ⟨_, by omega, rfl, ?_⟩
                  have : ¬ CS (cN σ) t0 k 12 ≤ b := fun q => c2 ((nI_le' (by omega) (by omega)).mpr q)
                  omega
                · rw [if_neg c]
                  exact ⟨b, b1, b2, b3⟩
          · rw [if_neg o, lk_58 h1, if_pos rfl]
            obtain ⟨w2, f2, F2, y2, y3⟩ := x_spread h1 hV R1 h0 hr ek
            rw [f2, bd2_s]
            have e60 : wI w2 60 = wI w1 60 := F2.2.2.2.2 60 (by decide)
            refine ih m (k + 1) w2 (by omega) (by omega) (by omega) (F1.tr (F2.mono (fun a ha => Or.inl ha))) (fun t t1 t2 => ?_) ?_ (fun u p u1 u2 u3 u4 => ?_) ?_
            · rcases y3 t with q | ⟨p, p1, p2, p3⟩
              · rw [q]; exact ya t t1 t2
              · subst p3; exact Or.inr ⟨hr.s p1 p2, y2 p p1 p2⟩
            · rcases y3 t0 with q | ⟨p, p1, p2, p3⟩
              · rw [q]; exact yb
              · have := or_gt (or_no hV.1 hk (show p < 32 by omega) p2).2
                omega
            · by_cases e : u = k
              · subst e; exact y2 p u3 u4
              · rcases y3 (u ||| 2 ^ p) with q | ⟨p', p1, p2, p3⟩
                · rw [q]; exact yc u p u1 (by omega) u3 u4
                · rw [p3]; exact y2 p' p1 p2
            · rw [e60]
              refine fun p hp => ⟨(yd p hp).1, fun E e1 e2 e3 e4 e5 => ?_⟩
              by_cases e : E = k
              · subst e; exact absurd e3 o
              · exact (yd p hp).2 E (by omega) e2 e3 e4 e5
  have L32 : ∀ n m k (w1 : Wd), k + m = 2 ^ n_ σ → m < n → t0 ≤ k → Fr FG w w1 → (∀ t, t0 ≤ t → t < k → wI w1 59 t = -1) → (∀ p, p < 12 → wI w1 60 p = -1) → ∃ w', L_X2_gatherGains_32 n 58 1 (nI t0) (1 + 1) (nI k) w1 = some ((), w') ∧ Fr FG w w' ∧ Bw σ t0 (2 ^ n_ σ) (wI w' 60) := by
    intro n
    induction n with
    | zero => intro m k w1 _ g; omega
    | succ n ih =>
      intro m k w1 g1 g2 g3 F1 ya yb
      have h1 := F1.lay h
      rw [show L_X2_gatherGains_32 (n + 1) 58 1 (nI t0) (1 + 1) (nI k) w1 = _ from by unfold L_X2_gatherGains_32; rfl]
      have one : 1 ≤ 2 ^ n_ σ := Nat.one_le_two_pow
      simp only [li_k1 h1 bI1, ↓reduceIte, fu w1 F1]
      cases m with
      | zero =>
        rw [if_pos ((nI_lt' (by omega) (by omega)).mpr (by omega))]
        simp only [lk_58 h1, lr_58_0 h1, bd1_s, ↓reduceIte, la_59 h1 (show t0 < 4096 by omega), nx_nI (show t0 < 2 ^ 31 by omega), lb_e]
        refine L65 FU (2 ^ n_ σ - t0) t0 _ (by omega) (by unfold FU; omega) (Nat.le_refl _) (F1.tr (Fr.sI _ _ _ (Or.inl rfl))) (fun t t1 t2 => ?_) (by rw [wI_ss]) (fun u p u1 u2 => by have := (u1.f h0).2.1; omega) (fun p hp => ⟨Or.inl (by rw [wI_s2 _ _ _ (by decide)]; exact yb p hp), fun E e1 e2 => by have := (e2.f h0).2.1; omega⟩)
        rw [wI_s1]
        by_cases e : t = t0
        · subst e; rw [upd_s]; exact Or.inr ⟨Rc.z, by rw [CS_0]; rfl⟩
        · rw [upd_n _ _ e]; exact Or.inl (ya t t1 (by omega))
      | succ m =>
        rw [if_neg (fun z => by have := (nI_lt' (by omega) (by omega)).mp z; omega)]
        simp only [lk_58 h1, lr_58_0 h1, bd1_s, ↓reduceIte, la_59 h1 (show k < 4096 by omega), nx_nI (show k < 2 ^ 31 by omega), lb_e, nI_s1]
        refine ih m (k + 1) _ (by omega) (by omega) (by omega) (F1.tr (Fr.sI _ _ _ (Or.inl rfl))) (fun t t1 t2 => ?_) (fun p hp => by rw [wI_s2 _ _ _ (by decide)]; exact yb p hp)
        rw [wI_s1]
        by_cases e : t = k
        · subst e; rw [upd_s]
        · rw [upd_n _ _ e]; exact ya t t1 (by omega)
  have L8 : ∀ n m k (w1 : Wd), k + m = 12 → m < n → Fr FG w w1 → (∀ p, p < k → wI w1 60 p = -1) → ∃ w', L_X2_gatherGains_8 n 58 1 (nI t0) (1 + 1) (nI k) w1 = some ((), w') ∧ Fr FG w w' ∧ Bw σ t0 (2 ^ n_ σ) (wI w' 60) := by
    intro n
    induction n with
    | zero => intro m k w1 _ g; omega
    | succ n ih =>
      intro m k w1 g1 g2 F1 yb
      have h1 := F1.lay h
      rw [show L_X2_gatherGains_8 (n + 1) 58 1 (nI t0) (1 + 1) (nI k) w1 = _ from by unfold L_X2_gatherGains_8; rfl, show (12 : Int32) = nI 12 from rfl]
      cases m with
      | zero =>
        rw [if_pos ((nI_le' (by omega) (by omega)).mpr (by omega))]
        exact L32 FU (2 ^ n_ σ - t0) t0 w1 (by omega) (by unfold FU; omega) (Nat.le_refl _) F1 (fun t t1 t2 => by omega) (fun p hp => yb p (by omega))
      | succ m =>
        rw [if_neg (fun z => by have := (nI_le' (by omega) (by omega)).mp z; omega)]
        simp only [lk_58 h1, lr_58_1 h1, bd1_s, ↓reduceIte, la_60 h1 (show k < 12 by omega), nx_nI (show k < 2 ^ 31 by omega), lb_e, nI_s1]
        refine ih m (k + 1) _ (by omega) (by omega) (F1.tr (Fr.sI _ _ _ (Or.inr rfl))) (fun p hp => ?_)
        rw [wI_s1]
        by_cases e : p = k
        · subst e; rw [upd_s]
        · rw [upd_n _ _ e]; exact yb p (by omega)
  obtain ⟨w', f1, F1, B1⟩ := L8 FU 12 0 w (by decide) (by unfold FU; omega) (Fr.rf w) (fun p hp => by omega)
  refine ⟨w', ?_, F1, B1⟩
  unfold f_X2_gatherGains
  rw [li_k h bI1, li_r0 h bI1, bd1_s, if_pos rfl]
  exact f1
