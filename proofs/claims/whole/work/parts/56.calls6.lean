/-! THE CALLS: rose, check -/
def rt (σ : Nat → Int32) (N k : Nat) : Int32 := pasS (upd σ (24 + 4 * k + 1) (-1)) N 10
def roA (σ : Nat → Int32) (N : Nat) (wh : Int32) : Nat → Nat → Option Nat → Int32 → Int32
  | 0, _, none, _ => NONE_
  | 0, _, some i, t => if wh = 0 then nI i else t
  | m + 1, k, none, t => if sv σ k 1 < 0 then roA σ N wh m (k + 1) none t else roA σ N wh m (k + 1) (some k) (rt σ N k)
  | m + 1, k, some i, t => if sv σ k 1 < 0 then roA σ N wh m (k + 1) (some i) t else if rt σ N k ≤ t then roA σ N wh m (k + 1) (some i) t else roA σ N wh m (k + 1) (some k) (rt σ N k)
def obX (b : Option Nat) : Int32 := match b with
  | none => NONE_
  | some i => nI i
def obM (b : Option Nat) : Int32 := match b with
  | none => -1
  | some i => nI i
theorem E_rose {w : Wd} (I : Iv w) (v u : Int32) : Ok2 (f_X8_rose 0 v u) (f_X9_rose 96 v u) w := by
  have h := I.1
  obtain ⟨hV, hM, hR⟩ := I.2.1
  have hS := hV.1
  have h12 := hS.c12
  by_cases c1 : wi_ v 1 60 = 0
  · exact Ok2.q I (r := -1000000001) (by simp only [f_X8_rose, bd2_s, wi_X, c1, ↓reduceIte]) (by simp only [f_X9_rose, bd2_s, wi_M, c1, ↓reduceIte])
  by_cases c2 : wi_ u 0 1 = 0
  · exact Ok2.q I (r := -1000000001) (by simp only [f_X8_rose, bd2_s, wi_X, c1, c2, ↓reduceIte]) (by simp only [f_X9_rose, bd2_s, wi_M, c1, c2, ↓reduceIte])
  obtain ⟨N, -, hN, rfl⟩ := wi_ab (v := v) (a := 1) (b := 60) (by decide) c1 (by decide)
  have hT : ∀ x, Tc x → (39 ≤ x ∧ x ≤ 60) ∨ (119 ≤ x ∧ x % 3 = 1) := fun x hx => by
    rcases hx with (q | q) | q
    · omega
    · exact Or.inr q
    · omega
  have keep : ∀ {w1 : Wd}, Fq Tc 39 w w1 → RI w1 1 (wI w 97) := fun {w1} hf => hR.fq bI39 bI1 (by decide) hS hf (fun x hx => by have := hT x hx; omega)
  have LX : ∀ n m k (b : Option Nat) (t v4 : Int32) (w1 : Wd), Fq Tc 39 w w1 → k + m = c_ (wI w 97) → m < n → (∀ i, b = some i → i < 12 ∧ v4 = t) → (b = none → v4 = NONE_) → ∃ w2, L_X8_rose_32 n 0 (nI N) u (obX b) v4 (nI k) w1 = some (roA (wI w 97) N u m k b t, w2) ∧ Fq Tc 39 w w2 := by
    intro n
    induction n with
    | zero => intro m k b t v4 w1 _ _ g; omega
    | succ n ih =>
      intro m k b t v4 w1 F1 g1 g2 b1 b2
      have h1 := F1.lay bI39 h
      have R1 := keep F1
      unfold L_X8_rose_32
      simp only [lk_0 h1, lr_0_0 h1, bd1_s, li_k h1 bI1, ↓reduceIte, R1.1.1, hS.c]
      cases m with
      | zero =>
        rw [if_pos ((nI_le' (by omega) (by omega)).mpr (by omega))]
        refine ⟨w1, ?_, F1⟩
        cases b with
        | none =>
          rw [b2 rfl]
          show some ((if u = 0 then NONE_ else NONE_), w1) = some (NONE_, w1)
          split <;> rfl
        | some i => rw [(b1 i rfl).2]; rfl
      | succ m =>
        have hk : k < 12 := by omega
        have h4 := li_sk h1 bI1 hk
        have e1 : wI w1 (1 + 7 + k) 1 = sv (wI w 97) k 1 := R1.1.2.2 k (by omega) 1 (by decide)
        rw [if_neg (fun z => by have := (nI_le' (by omega) (by omega)).mp z; omega)]
        simp only [li_r1 h1 bI1, li_a2 h1 bI1 hk, nx_nI (show k < 2 ^ 31 by omega), li_s h1 bI1 hk, bd1_s, h4, x_sitsNow h4, bd2_s, e1, ↓reduceIte]
        by_cases c : sv (wI w 97) k 1 < 0
        · obtain ⟨w2, q1, q2⟩ := ih m (k + 1) b t v4 w1 F1 (by omega) (by omega) b1 b2
          refine ⟨w2, ?_, q2⟩
          simp only [c, ↓reduceIte, lb_e, nI_s1, q1]
          cases b <;> simp only [roA, c, ↓reduceIte]
        · obtain ⟨w2, f2, R2', F2⟩ := x_become h1 bI39 bI1 (by decide) hV R1
          have F2' : Fq Tc 39 w w2 := F1.tr (F2.mono (fun a ha => Or.inl (Or.inl ha)))
          have h2 := F2'.lay bI39 h
          obtain ⟨w3, ew3⟩ : ∃ x, x = sI w2 (39 + 7 + k) 1 (-1) := ⟨_, rfl⟩
          have R3 : RI w3 39 (upd (wI w 97) (24 + 4 * k + 1) (-1)) := by rw [ew3]; exact R2'.sit bI39 hS (by omega) (by decide) _
          have F3 : Fq Tc 39 w w3 := by rw [ew3]; exact F2'.tr (Fq.sI _ _ _ (Or.inl (Or.inl ⟨by omega, by omega⟩)))
          have h3 := F3.lay bI39 h
          have V3 := hV.rise hk
          obtain ⟨w4, f4, R4, F4⟩ := x_pass h3 bI39 V3 R3 (show N ≤ 200 by omega)
          have F4' : Fq Tc 39 w w4 := F3.tr (Fq.of F4 (fun a ha => Or.inl ha))
          have h4' := F4'.lay bI39 h
          have e5 : wI w4 39 5 = rt (wI w 97) N k := R4.2.1.2.2.1
          simp only [c, ↓reduceIte, show ¬ (1 : Int32) = 0 by decide, lk_0 h1, lr_0_2 h1, lr_0_0 h1, bd1_s, li_k h1 bI39, f2, bd2_s, lk_0 h2, lr_0_2 h2, li_k h2 bI39, li_r1 h2 bI39, li_a2 h2 bI39 hk, li_s h2 bI39 hk, li_sk h2 bI39 hk, lb_e]
          rw [← ew3]
          simp only [lr_0_2 h3, bd1_s, li_k h3 bI39, ↓reduceIte, f4, bd2_s]
          cases b with
          | none =>
            obtain ⟨w5, q1, q2⟩ := ih m (k + 1) (some k) (rt (wI w 97) N k) (rt (wI w 97) N k) w4 F4' (by omega) (by omega) (fun i hi => by cases hi; exact ⟨hk, rfl⟩) (fun q => by cases q)
            refine ⟨w5, ?_, q2⟩
            simp only [show obX none = -1000000005 from rfl, ↓reduceIte, j_X8_rose_112, lk_0 h4', lr_0_2 h4', bd1_s, li_k h4' bI39, lb_e, e5, nI_s1, roA, c]
            exact q1
          | some i =>
            obtain ⟨hi, rfl⟩ := b1 i rfl
            rw [if_neg (show ¬ obX (some i) = -1000000005 from nI_NONE (by omega))]
            simp only [lk_0 h4', lr_0_2 h4', bd1_s, li_k h4' bI39, ↓reduceIte, e5, roA, c]
            by_cases z : rt (wI w 97) N k ≤ v4
            · obtain ⟨w5, q1, q2⟩ := ih m (k + 1) (some i) v4 v4 w4 F4' (by omega) (by omega) (fun i hi => by cases hi; exact ⟨by assumption, rfl⟩) (fun q => by cases q)
              refine ⟨w5, ?_, q2⟩
              simp only [z, ↓reduceIte, lb_e, nI_s1]
              exact q1
            · obtain ⟨w5, q1, q2⟩ := ih m (k + 1) (some k) (rt (wI w 97) N k) (rt (wI w 97) N k) w4 F4' (by omega) (by omega) (fun i hi => by cases hi; exact ⟨hk, rfl⟩) (fun q => by cases q)
              refine ⟨w5, ?_, q2⟩
              simp only [z, ↓reduceIte, j_X8_rose_112, lk_0 h4', lr_0_2 h4', bd1_s, li_k h4' bI39, lb_e, e5, nI_s1]
              exact q1
  obtain ⟨w1, f1, F1⟩ := LX FU (c_ (wI w 97)) 0 none 0 NONE_ w (Fq.rf w) (by omega) (by unfold FU; omega) (fun i hi => by cases hi) (fun _ => rfl)
  have h1 := F1.lay bI39 h
  have e97 : wI w1 97 = wI w 97 := F1.e97 (by decide)
  obtain ⟨w2, f2, b2, F2⟩ := m_thinks h1 e97
  have h2 := F2.lay h1
  have n2 : wI w2 97 = wI w 97 := by rw [F2.2.2.2.2 97 (by decide)]; exact e97
  have FN2 : FN w1 w2 := FN.of F2 (fun a ha => by subst ha; exact ⟨by unfold Mc; omega, by decide⟩)
  have LM : ∀ n m k (b : Option Nat) (t v4 : Int32) (w3 : Wd), FN w1 w3 → wI w3 97 = wI w 97 → (∀ j, j < 72 → wI w3 101 j = wI w 97 j) → k + m = c_ (wI w 97) → m < n → (∀ i, b = some i → i < 12 ∧ v4 = t) → ∃ w4, L_X9_rose_34 n 96 (nI N) u (obM b) v4 (nI k) w3 = some (roA (wI w 97) N u m k b t, w4) ∧ FN w1 w4 ∧ wI w4 97 = wI w 97 := by
    intro n
    induction n with
    | zero => intro m k b t v4 w3 _ _ _ _ g; omega
    | succ n ih =>
      intro m k b t v4 w3 F3 n3 b3 g1 g2 b1
      have h3 := F3.1.lay h1
      have a1 : aK 11 w3 97 1 = true := la_97 h3 (show 1 < 1444 by decide)
      unfold L_X9_rose_34
      simp only [lk_96 h3, lr_96_0 h3, bd1_s, ↓reduceIte, a1, show nx 1 = 1 from rfl, n3, hS.c]
      cases m with
      | zero =>
        rw [if_pos ((nI_le' (by omega) (by omega)).mpr (by omega))]
        refine ⟨w3, ?_, F3, n3⟩
        cases b with
        | none => rfl
        | some i =>
          rw [(b1 i rfl).2, if_pos (show (0 : Int32) ≤ obM (some i) from nI_pos' (by have := (b1 i rfl).1; omega))]
          rfl
      | succ m =>
        have hk : k < 12 := by omega
        have o1 := m_of1 h3 hk
        rw [n3] at o1
        rw [if_neg (fun z => by have := (nI_le' (by omega) (by omega)).mp z; omega), o1, bd2_s]
        by_cases c : sv (wI w 97) k 1 < 0
        · obtain ⟨w4, q1, q2, q3⟩ := ih m (k + 1) b t v4 w3 F3 n3 b3 (by omega) (by omega) b1
          refine ⟨w4, ?_, q2, q3⟩
          simp only [c, ↓reduceIte, lb_e, nI_s1, q1]
          cases b <;> simp only [roA, c, ↓reduceIte]
        · have pt := m_put h3 hk (k := 1) (by decide) (-1)
          rw [show nI 1 = (1 : Int32) from rfl] at pt
          obtain ⟨w4, ew4⟩ : ∃ x, x = sI w3 97 (24 + 4 * k + 1) (-1) := ⟨_, rfl⟩
          have n4 : wI w4 97 = upd (wI w 97) (24 + 4 * k + 1) (-1) := by rw [ew4, wI_s1, n3]
          have F4 : FM w3 w4 := by rw [ew4]; exact FM.now _ _
          have h4 := F4.1.lay h3
          have V4 := hV.rise hk
          obtain ⟨w5, f5, n5, -, F5⟩ := m_goesOn h4 n4 V4 (show N ≤ 200 by omega)
          have h5 := F5.1.lay h4
          have b5 : ∀ j, j < 72 → wI w5 101 j = wI w 97 j := fun j hj => by rw [F5.1.2.2.2.2 101 (by decide), F4.1.2.2.2.2 101 (by decide)]; exact b3 j hj
          obtain ⟨w6, f6, n6, F6⟩ := m_putsBack h5 b5 (fun j hj => by rw [n5, pasS_hi V4 hj, upd_n _ _ (by omega)])
          have h6 := F6.lay h5
          have FN6 : FN w1 w6 := (F3.tr (F4.tr F5).n).tr (FN.of F6 (fun a ha => by subst ha; exact ⟨by unfold Mc; omega, by decide⟩))
          have b6 : ∀ j, j < 72 → wI w6 101 j = wI w 97 j := fun j hj => by rw [F6.2.2.2.2 101 (by decide)]; exact b5 j hj
          have a10 : aK 11 w5 97 10 = true := la_97 h5 (show 10 < 1444 by decide)
          have e10 : wI w5 97 10 = rt (wI w 97) N k := by rw [n5]; rfl
          rw [← ew4] at pt
          simp only [c, ↓reduceIte, pt, bd2_s, lk_96 h3, lk_96 h4, f5, lk_96 h5, lr_96_0 h5, bd1_s, a10, show nx 10 = 10 from rfl, lb_e, e10, f6]
          cases b with
          | none =>
            obtain ⟨w7, q1, q2, q3⟩ := ih m (k + 1) (some k) (rt (wI w 97) N k) (rt (wI w 97) N k) w6 FN6 n6 b6 (by omega) (by omega) (fun i hi => by cases hi; exact ⟨hk, rfl⟩)
            refine ⟨w7, ?_, q2, q3⟩
            simp only [show (obM none < 0) = True from eq_true (by decide), ↓reduceIte, j_X9_rose_92, lb_e, nI_s1, roA, c]
            exact q1
          | some i =>
            obtain ⟨hi, rfl⟩ := b1 i rfl
            rw [if_neg (show ¬ obM (some i) < 0 from nI_nlt0 (by omega))]
            simp only [roA, c, ↓reduceIte]
            by_cases z : rt (wI w 97) N k ≤ v4
            · obtain ⟨w7, q1, q2, q3⟩ := ih m (k + 1) (some i) v4 v4 w6 FN6 n6 b6 (by omega) (by omega) (fun i hi => by cases hi; exact ⟨by assumption, rfl⟩)
              refine ⟨w7, ?_, q2, q3⟩
              simp only [z, ↓reduceIte, lb_e, nI_s1]
              exact q1
            · obtain ⟨w7, q1, q2, q3⟩ := ih m (k + 1) (some k) (rt (wI w 97) N k) (rt (wI w 97) N k) w6 FN6 n6 b6 (by omega) (by omega) (fun i hi => by cases hi; exact ⟨hk, rfl⟩)
              refine ⟨w7, ?_, q2, q3⟩
              simp only [z, ↓reduceIte, j_X9_rose_92, lb_e, nI_s1]
              exact q1
  obtain ⟨w4, f4, F4, n4⟩ := LM FU (c_ (wI w 97)) 0 none 0 0 w2 FN2 n2 b2 (by omega) (by unfold FU; omega) (fun i hi => by cases hi)
  have I4 : Iv w4 := I.think F1 F4 n4
  refine ⟨roA (wI w 97) N u (c_ (wI w 97)) 0 none 0, w1, w4, ?_, h1, ?_, I4⟩
  · simp only [f_X8_rose, bd2_s, wi_X, c1, c2, ↓reduceIte]
    exact f1
  · simp only [f_X9_rose, bd2_s, wi_M, c1, c2, ↓reduceIte, lk_96 h1, f2]
    exact f4
