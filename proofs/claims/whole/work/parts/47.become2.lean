/-! BECOME, step by step -/
theorem wR_r1 (w : Wd) (a j : Nat) (v : Option Nat) : wR (sR w a j v) a j = v := by
  show va_up w.2.2.2.1 a (va_up (w.2.2.2.1 a) j v) a j = v
  rw [va_up_self, va_up_self]
theorem wR_r2 (w : Wd) {a b j k : Nat} (v : Option Nat) (h : b ≠ a ∨ k ≠ j) : wR (sR w a j v) b k = wR w b k := by
  show va_up w.2.2.2.1 a (va_up (w.2.2.2.1 a) j v) b k = w.2.2.2.1 b k
  by_cases e : b = a
  · subst e
    rw [va_up_self, va_up_ne _ _ (h.resolve_left (fun q => q rfl))]
  · rw [va_up_ne _ _ e]
theorem wR_r3 (w : Wd) {a b j : Nat} (v : Option Nat) (h : b ≠ a) : wR (sR w a j v) b = wR w b := va_up_ne _ _ h
theorem Fq.sR {A : Nat → Prop} {b : Nat} (w : Wd) (j : Nat) (v : Option Nat) : Fq A b w (sR w (b + 5) j v) := ⟨rfl, rfl, rfl, fun a ha => wR_r3 w v ha, fun _ _ => rfl⟩
theorem Fq.sI {A : Nat → Prop} {b : Nat} (w : Wd) {a : Nat} (j : Nat) (v : Int32) (h : A a) : Fq A b w (sI w a j v) := ⟨rfl, rfl, rfl, fun _ _ => rfl, fun x hx => wI_s2 _ _ _ (fun e => hx (e ▸ h))⟩
theorem Fq.cp {A : Nat → Prop} {b : Nat} (w : Wd) {a c : Nat} (sp dp n : Int32) (h : A c) : Fq A b w (cp_W w a sp c dp n) := ⟨rfl, rfl, rfl, fun _ _ => rfl, fun x hx => wI_c2 _ _ _ _ _ (fun e => hx (e ▸ h))⟩
theorem Fr.cp {A : Nat → Prop} (w : Wd) {a c : Nat} (sp dp n : Int32) (h : A c) : Fr A w (cp_W w a sp c dp n) := ⟨rfl, rfl, rfl, rfl, fun x hx => wI_c2 _ _ _ _ _ (fun e => hx (e ▸ h))⟩
theorem cp_y {w : Wd} {a b m n : Nat} (h1 : wK w a = 11) (h2 : wK w b = 11) (h3 : wL w a = m) (h4 : wL w b = m) (hn : n ≤ m) (hm : m < 2 ^ 31) : cp_ok w a 0 b 0 (nI n) = true := by
  unfold cp_ok
  rw [h1, h2, h3, h4, show nx 0 = 0 from rfl, nx_nI (by omega)]
  simp only [decide_true, Bool.true_and, Bool.and_eq_true, decide_eq_true_eq]
  exact ⟨by decide, by decide, nI_nlt0 (by omega), by omega, by omega⟩
theorem cp_at (w : Wd) (a b : Nat) {n j : Nat} (hn : n < 2 ^ 31) (hj : j < n) : wI (cp_W w a 0 b 0 (nI n)) b j = wI w a j := by
  rw [wI_c1, show nx 0 = 0 from rfl, nx_nI hn]
  unfold va_cpy
  rw [if_pos ⟨by omega, by omega⟩]
  congr 1
  omega
theorem bI_ap {b c : Nat} (hb : bI b) (hc : bI c) (h : b ≠ c) : b + 19 ≤ c ∨ c + 19 ≤ b := by rcases hb with e | e | e <;> rcases hc with q | q | q <;> omega
theorem x_become {w : Wd} {b c : Nat} {σ : Nat → Int32} (h : Lay w) (hb : bI b) (hc : bI c) (hbc : b ≠ c) (hV : Vd σ) (hR : RI w c σ) : ∃ w', f_X1_become b c w = some ((), w') ∧ RI w' b σ ∧ Fq (Ic b) b w w' := by
  have hS := hV.1
  have h12 := hS.c12
  have hn12 := hS.n12
  have hT := hV.2.2.1
  have h14 := hT.2.1
  have hap := bI_ap hb hc hbc
  have hbl := bI_lt hb
  have hcl := bI_lt hc
  have keep : ∀ {w1 : Wd}, Fq (Ic b) b w w1 → Lay w1 ∧ RI w1 c σ := fun {w1} hf => ⟨hf.lay hb h, hR.fq hb hc hbc hS hf (fun x hx => ⟨by have := hx.1; have := hx.2; omega, Or.inl (by have := hx.2; omega)⟩)⟩
  -- the texts
  have LD : ∀ n t (w1 : Wd), Fq (Ic b) b w w1 → RS w1 b σ → R2 w1 b σ → wI w1 b 9 = σ 11 → (∀ i, i < t → wR w1 (b + 5) i = wR w1 (c + 5) i) → t ≤ T_ σ → T_ σ - t < n → ∃ w', L_X1_become_117 n b c (nI t) w1 = some ((), w') ∧ RI w' b σ ∧ Fq (Ic b) b w w' := by
    intro n
    induction n with
    | zero => intro t w1 _ _ _ _ _ _ q; omega
    | succ n ih =>
      intro t w1 F1 RS1 R21 e9 hr ht hn
      obtain ⟨h1, Rc⟩ := keep F1
      unfold L_X1_become_117
      simp only [li_k h1 hb, li_k h1 hc, ↓reduceIte, e9, hT.1]
      by_cases e : t = T_ σ
      · rw [if_pos ((nI_le' (by omega) (by omega)).mpr (by omega))]
        have ok : cp_ok w1 (c + 6) 0 (b + 6) 0 (nI 3) = true := cp_y (li_k6 h1 hc) (li_k6 h1 hb) (li_l6 h1 hc) (li_l6 h1 hb) (by decide) (by decide)
        simp only [li_r10 h1 hb, li_r10 h1 hc, bd1_s, li_k6 h1 hb, li_l6 h1 hb, ↓reduceIte, ok, lb_e]
        have F2 : Fq (Ic b) b w1 (cp_W w1 (c + 6) 0 (b + 6) 0 (nI 3)) := Fq.cp w1 _ _ _ ⟨by omega, by omega⟩
        have o : ∀ x, x ≠ b + 6 → wI (cp_W w1 (c + 6) 0 (b + 6) 0 (nI 3)) x = wI w1 x := fun x hx => wI_c2 _ _ _ _ _ hx
        refine ⟨_, rfl, ⟨⟨?_, ?_, fun i hi j hj => ?_⟩, ⟨fun p hp => ?_, fun j hj => ?_, ?_⟩, ?_, fun k hk => ?_, fun i hi => ?_⟩, F1.tr F2⟩
        · rw [o b (by omega)]; exact RS1.1
        · rw [o (b + 1) (by omega)]; exact RS1.2.1
        · rw [o (b + 7 + i) (by omega)]; exact RS1.2.2 i hi j hj
        · rw [o (b + 3) (by omega)]; exact R21.1 p hp
        · rw [o (b + 4) (by omega)]; exact R21.2.1 j hj
        · rw [o b (by omega)]; exact R21.2.2
        · rw [o b (by omega)]; exact e9
        · rw [cp_at _ _ _ (by decide) hk]; exact Rc.2.2.2.1 k hk
        · obtain ⟨a, g1, g2⟩ := Rc.2.2.2.2 i hi
          exact ⟨a, by rw [wR_cp, hr i (by omega)]; exact g1, g2.fq hb F2 (fun x hx => Or.inl (by have := hx.2; omega))⟩
      · rw [if_neg (fun q => e (by have := (nI_le' (by omega) (by omega)).mp q; omega))]
        obtain ⟨a, g1, g2⟩ := Rc.2.2.2.2 t (by omega)
        simp only [li_r8 h1 hb, li_r8 h1 hc, bd1_s, li_a5 h1 hc (show t < 14 by omega), li_a5 h1 hb (show t < 14 by omega), ↓reduceIte, nx_nI (show t < 2 ^ 31 by omega), g1, g2.2.1.1, lb_e, nI_s1]
        have F2 : Fq (Ic b) b w1 (sR w1 (b + 5) t (some a)) := Fq.sR w1 t _
        refine ih (t + 1) _ (F1.tr F2) RS1 R21 e9 (fun i hi => ?_) (by omega) (by omega)
        rw [wR_r3 _ _ (show c + 5 ≠ b + 5 by omega)]
        by_cases z : i = t
        · subst z; rw [wR_r1, g1]
        · rw [wR_r2 _ _ (Or.inr z)]; exact hr i (by omega)
  -- the sitters
  have LC : ∀ n k (w1 : Wd), Fq (Ic b) b w w1 → wI w1 b 2 = σ 1 → (wI w1 (b + 1) 0 = σ 2 ∧ wI w1 (b + 1) 1 = σ 3 ∧ wI w1 (b + 1) 2 = σ 4 ∧ wI w1 (b + 1) 3 = ps (n_ σ) - 1) → (∀ i, i < k → ∀ j, j < 4 → wI w1 (b + 7 + i) j = sv σ i j) → k ≤ c_ σ → c_ σ - k < n → ∃ w', L_X1_become_21 n b c (nI k) w1 = some ((), w') ∧ RI w' b σ ∧ Fq (Ic b) b w w' := by
    intro n
    induction n with
    | zero => intro k w1 _ _ _ _ _ q; omega
    | succ n ih =>
      intro k w1 F1 e2 eB hs hk hn
      obtain ⟨h1, Rc⟩ := keep F1
      unfold L_X1_become_21
      simp only [li_k h1 hb, li_k h1 hc, ↓reduceIte, e2, hS.c]
      by_cases e : k = c_ σ
      · rw [if_pos ((nI_le' (by omega) (by omega)).mpr (by omega))]
        have ok1 : cp_ok w1 (c + 3) 0 (b + 3) 0 12 = true := cp_y (n := 12) (li_k3 h1 hc) (li_k3 h1 hb) (li_l3 h1 hc) (li_l3 h1 hb) (by decide) (by decide)
        obtain ⟨w2, ew2⟩ : ∃ x, x = cp_W w1 (c + 3) 0 (b + 3) 0 12 := ⟨_, rfl⟩
        have F2 : Fq (Ic b) b w w2 := by rw [ew2]; exact F1.tr (Fq.cp w1 _ _ _ ⟨by omega, by omega⟩)
        obtain ⟨h2, Rc2⟩ := keep F2
        have ok2 : cp_ok w2 (c + 4) 0 (b + 4) 0 (nI 4) = true := cp_y (li_k4 h2 hc) (li_k4 h2 hb) (li_l4 h2 hc) (li_l4 h2 hb) (by decide) (by decide)
        obtain ⟨w3, ew3⟩ : ∃ x, x = cp_W w2 (c + 4) 0 (b + 4) 0 (nI 4) := ⟨_, rfl⟩
        have F3' : Fq (Ic b) b w w3 := by rw [ew3]; exact F2.tr (Fq.cp w2 _ _ _ ⟨by omega, by omega⟩)
        obtain ⟨h3, Rc3⟩ := keep F3'
        have c5 := Rc3.2.1.2.2.1
        have c6 := Rc3.2.1.2.2.2.1
        have c7 := Rc3.2.1.2.2.2.2
        have c9 := Rc3.2.2.1
        have hcb : c ≠ b := fun q => hbc q.symm
        simp only [li_r3 h1 hb, li_r3 h1 hc, bd1_s, ok1, ↓reduceIte, lb_e]
        rw [← ew2]
        simp only [li_r4 h2 hb, li_r4 h2 hc, bd1_s, li_k4 h2 hb, li_l4 h2 hb, ok2, ↓reduceIte, lb_e]
        rw [← ew3, c5, wI_s2 _ _ _ hcb, c6, wI_s2 _ _ _ hcb, wI_s2 _ _ _ hcb, c7, wI_s2 _ _ _ hcb, wI_s2 _ _ _ hcb, wI_s2 _ _ _ hcb, c9]
        have hIb : Ic b b := ⟨by omega, by omega⟩
        have F4 : Fq (Ic b) b w (sI (sI (sI (sI w3 b 5 (σ 10)) b 6 (σ 5)) b 7 (σ 0)) b 9 (σ 11)) := (((F3'.tr (Fq.sI _ _ _ hIb)).tr (Fq.sI _ _ _ hIb)).tr (Fq.sI _ _ _ hIb)).tr (Fq.sI _ _ _ hIb)
        have o : ∀ x, x ≠ b → wI (sI (sI (sI (sI w3 b 5 (σ 10)) b 6 (σ 5)) b 7 (σ 0)) b 9 (σ 11)) x = wI w3 x := fun x hx => by rw [wI_s2 _ _ _ hx, wI_s2 _ _ _ hx, wI_s2 _ _ _ hx, wI_s2 _ _ _ hx]
        have o3 : ∀ x, x ≠ b + 4 → x ≠ b + 3 → wI w3 x = wI w1 x := fun x hx hy => by rw [ew3, wI_c2 _ _ _ _ _ hx, ew2, wI_c2 _ _ _ _ _ hy]
        refine LD FU 0 _ F4 ⟨?_, ?_, fun i hi j hj => ?_⟩ ⟨fun p hp => ?_, fun j hj => ?_, ?_, ?_, ?_⟩ ?_ (fun i hi => absurd hi (Nat.not_lt_zero i)) (by omega) (by unfold FU; omega)
        · rw [wI_sn _ _ (Or.inr (by decide)), wI_sn _ _ (Or.inr (by decide)), wI_sn _ _ (Or.inr (by decide)), wI_sn _ _ (Or.inr (by decide)), o3 b (by omega) (by omega)]; exact e2
        · rw [o (b + 1) (by omega), o3 (b + 1) (by omega) (by omega)]; exact eB
        · rw [o (b + 7 + i) (by omega), o3 (b + 7 + i) (by omega) (by omega)]; exact hs i (by omega) j hj
        · rw [o (b + 3) (by omega), ew3, wI_c2 _ _ _ _ _ (by omega), ew2, show (12 : Int32) = nI 12 from rfl, cp_at _ _ _ (by decide) hp]; exact Rc.2.1.1 p hp
        · rw [o (b + 4) (by omega), ew3, cp_at _ _ _ (by decide) hj]; exact Rc2.2.1.2.1 j hj
        · rw [wI_sn _ _ (Or.inr (by decide)), wI_sn _ _ (Or.inr (by decide)), wI_sn _ _ (Or.inr (by decide)), wI_ss]
        · rw [wI_sn _ _ (Or.inr (by decide)), wI_sn _ _ (Or.inr (by decide)), wI_ss]
        · rw [wI_sn _ _ (Or.inr (by decide)), wI_ss]
        · rw [wI_ss]
      · rw [if_neg (fun q => e (by have := (nI_le' (by omega) (by omega)).mp q; omega))]
        have hk12 : k < 12 := by omega
        have q := Rc.1.2.2 k (by omega)
        have hne : c + 7 + k ≠ b + 7 + k := by omega
        have hX : f_X4_become (b + 7 + k) (c + 7 + k) w1 = some ((), sI (sI (sI (sI w1 (b + 7 + k) 0 (sv σ k 0)) (b + 7 + k) 1 (sv σ k 1)) (b + 7 + k) 2 (sv σ k 2)) (b + 7 + k) 3 (sv σ k 3)) := by
          simp only [f_X4_become, li_sk h1 hb hk12, li_sk h1 hc hk12, ↓reduceIte, lb_e]
          rw [q 0 (by decide), wI_s2 _ _ _ hne, q 1 (by decide), wI_s2 _ _ _ hne, wI_s2 _ _ _ hne, q 2 (by decide), wI_s2 _ _ _ hne, wI_s2 _ _ _ hne, wI_s2 _ _ _ hne, q 3 (by decide)]
        simp only [li_r1 h1 hb, li_r1 h1 hc, bd1_s, li_a2 h1 hb hk12, li_a2 h1 hc hk12, ↓reduceIte, nx_nI (show k < 2 ^ 31 by omega), li_s h1 hb hk12, li_s h1 hc hk12, li_sk h1 hb hk12, hX, bd2_s, lb_e, nI_s1]
        have hIk : Ic b (b + 7 + k) := ⟨by omega, by omega⟩
        have F2 : Fq (Ic b) b w (sI (sI (sI (sI w1 (b + 7 + k) 0 (sv σ k 0)) (b + 7 + k) 1 (sv σ k 1)) (b + 7 + k) 2 (sv σ k 2)) (b + 7 + k) 3 (sv σ k 3)) := (((F1.tr (Fq.sI _ _ _ hIk)).tr (Fq.sI _ _ _ hIk)).tr (Fq.sI _ _ _ hIk)).tr (Fq.sI _ _ _ hIk)
        have o : ∀ x, x ≠ b + 7 + k → wI (sI (sI (sI (sI w1 (b + 7 + k) 0 (sv σ k 0)) (b + 7 + k) 1 (sv σ k 1)) (b + 7 + k) 2 (sv σ k 2)) (b + 7 + k) 3 (sv σ k 3)) x = wI w1 x := fun x hx => by rw [wI_s2 _ _ _ hx, wI_s2 _ _ _ hx, wI_s2 _ _ _ hx, wI_s2 _ _ _ hx]
        refine ih (k + 1) _ F2 (by rw [o b (by omega)]; exact e2) (by rw [o (b + 1) (by omega)]; exact eB) (fun i hi j hj => ?_) (by omega) (by omega)
        by_cases z : i = k
        · subst z
          have hj4 : j = 0 ∨ j = 1 ∨ j = 2 ∨ j = 3 := by omega
          rcases hj4 with rfl | rfl | rfl | rfl
          · rw [wI_sn _ _ (Or.inr (by decide)), wI_sn _ _ (Or.inr (by decide)), wI_sn _ _ (Or.inr (by decide)), wI_ss]
          · rw [wI_sn _ _ (Or.inr (by decide)), wI_sn _ _ (Or.inr (by decide)), wI_ss]
          · rw [wI_sn _ _ (Or.inr (by decide)), wI_ss]
          · rw [wI_ss]
        · rw [o _ (by omega)]; exact hs i (by omega) j hj
  have hB : f_X0_become (b + 1) (c + 1) w = some ((), sI (sI (sI (sI w (b + 1) 0 (σ 2)) (b + 1) 1 (σ 3)) (b + 1) 2 (σ 4)) (b + 1) 3 (ps (n_ σ) - 1)) := by
    simp only [f_X0_become, f_X0_setUp, li_k1 h hb, li_k1 h hc, ↓reduceIte, lb_e, bd2_s, hR.1.2.1.1, hR.1.2.1.2.1, hR.1.2.1.2.2.1]
    rw [hS.n]
    rfl
  have hI1 : Ic b (b + 1) := ⟨by omega, by omega⟩
  obtain ⟨w1, ew1⟩ : ∃ x, x = sI (sI (sI (sI w (b + 1) 0 (σ 2)) (b + 1) 1 (σ 3)) (b + 1) 2 (σ 4)) (b + 1) 3 (ps (n_ σ) - 1) := ⟨_, rfl⟩
  have F1 : Fq (Ic b) b w w1 := by rw [ew1]; exact (((Fq.sI _ _ _ hI1).tr (Fq.sI _ _ _ hI1)).tr (Fq.sI _ _ _ hI1)).tr (Fq.sI _ _ _ hI1)
  obtain ⟨h1, Rc1⟩ := keep F1
  rw [← ew1] at hB
  simp only [f_X1_become, li_k h hb, li_k h hc, li_r0 h hb, li_r0 h hc, li_k1 h hb, ↓reduceIte, bd1_s, hB, bd2_s, li_k h1 hb, li_k h1 hc, lb_e, Rc1.1.1]
  refine LC FU 0 _ (F1.tr (Fq.sI (a := b) _ _ _ ⟨by omega, by omega⟩)) (wI_ss _ _ _ _) ?_ (fun i hi => absurd hi (Nat.not_lt_zero i)) (by omega) (by unfold FU; omega)
  rw [wI_s2 _ _ _ (show b + 1 ≠ b by omega), ew1]
  refine ⟨?_, ?_, ?_, wI_ss _ _ _ _⟩
  · rw [wI_sn _ _ (Or.inr (by decide)), wI_sn _ _ (Or.inr (by decide)), wI_sn _ _ (Or.inr (by decide)), wI_ss]
  · rw [wI_sn _ _ (Or.inr (by decide)), wI_sn _ _ (Or.inr (by decide)), wI_ss]
  · rw [wI_sn _ _ (Or.inr (by decide)), wI_ss]
/-! minutes, one behind the other -/
def pasS (σ : Nat → Int32) : Nat → Nat → Int32
  | 0 => σ
  | k + 1 => minS (pasS σ k)
def pasF (σ : Nat → Int32) : Nat → Int32
  | 0 => 0
  | k + 1 => if minF (pasS σ k) = 0 then pasF σ k else pasF σ k + 1
theorem pasS_ok {σ : Nat → Int32} (hV : Vd σ) : ∀ k, Vd (pasS σ k) := by
  intro k
  induction k with
  | zero => exact hV
  | succ k ih => exact minS_ok ih
theorem x_pass {w : Wd} {b : Nat} {σ : Nat → Int32} (h : Lay w) (hb : bI b) (hV : Vd σ) (hR : RI w b σ) {m : Nat} (hm : m ≤ 200) : ∃ w', f_X1_pass b (nI m) w = some (pasF σ m, w') ∧ RI w' b (pasS σ m) ∧ Fr (In_ b) w w' := by
  have L : ∀ n k (w1 : Wd), Fr (In_ b) w w1 → RI w1 b (pasS σ k) → k ≤ m → m - k < n → ∃ w', L_X1_pass_4 n b (nI m) (pasF σ k) (nI k) w1 = some (pasF σ m, w') ∧ RI w' b (pasS σ m) ∧ Fr (In_ b) w w' := by
    intro n
    induction n with
    | zero => intro k w1 _ _ _ q; omega
    | succ n ih =>
      intro k w1 F1 R1 hk hn
      have h1 := F1.lay h
      unfold L_X1_pass_4
      by_cases e : k = m
      · subst e
        rw [if_pos ((nI_le' (by omega) (by omega)).mpr (by omega))]
        exact ⟨w1, rfl, R1, F1⟩
      · rw [if_neg (fun q => e (by have := (nI_le' (by omega) (by omega)).mp q; omega)), li_k h1 hb, if_pos rfl]
        obtain ⟨w2, q1, q2, q3⟩ := x_passOne h1 hb (pasS_ok hV k) R1
        rw [q1, bd2_s]
        have ihk := ih (k + 1) w2 (F1.tr q3) q2 (by omega) (by omega)
        rw [pasF] at ihk
        by_cases z : minF (pasS σ k) = 0
        · rw [if_pos z] at ihk ⊢
          rw [lb_e, nI_s1]
          exact ihk
        · rw [if_neg z] at ihk ⊢
          rw [lb_e, lb_e, nI_s1]
          exact ihk
  exact L FU 0 w (Fr.rf w) hR (by omega) (by unfold FU; omega)
theorem m_goesOn {w : Wd} {σ : Nat → Int32} (h : Lay w) (hσ : wI w 97 = σ) (hV : Vd σ) {m : Nat} (hm : m ≤ 200) : ∃ w', f_X9_goesOn 96 (nI m) w = some ((), w') ∧ wI w' 97 = pasS σ m ∧ wI w' 96 4 = wI w 96 4 + pasF σ m ∧ FM w w' := by
  have L : ∀ n k (w1 : Wd), FM w w1 → wI w1 97 = pasS σ k → wI w1 96 4 = wI w 96 4 + pasF σ k → k ≤ m → m - k < n → ∃ w', L_X9_goesOn_2 n 96 (nI m) (nI k) w1 = some ((), w') ∧ wI w' 97 = pasS σ m ∧ wI w' 96 4 = wI w 96 4 + pasF σ m ∧ FM w w' := by
    intro n
    induction n with
    | zero => intro k w1 _ _ _ _ q; omega
    | succ n ih =>
      intro k w1 F1 n1 e1 hk hn
      have h1 := F1.1.lay h
      unfold L_X9_goesOn_2
      by_cases e : k = m
      · subst e
        rw [if_pos ((nI_le' (by omega) (by omega)).mpr (by omega))]
        exact ⟨w1, rfl, n1, e1, F1⟩
      · rw [if_neg (fun q => e (by have := (nI_le' (by omega) (by omega)).mp q; omega)), lk_96 h1, if_pos rfl]
        obtain ⟨w2, q1, q2, q3, q4⟩ := m_minute h1 n1 (pasS_ok hV k)
        rw [q1, bd2_s, lb_e, nI_s1]
        refine ih (k + 1) w2 (F1.tr q4) q2 ?_ (by omega) (by omega)
        rw [q3, e1, pasF]
        rcases minF_ok (pasS_ok hV k) with z | z
        · rw [z, if_pos rfl, Int32.add_zero]
        · rw [z, if_neg (by decide), Int32.add_assoc]
  exact L FU 0 w (FM.rf w) hσ (by rw [pasF, Int32.add_zero]) (by omega) (by unfold FU; omega)
