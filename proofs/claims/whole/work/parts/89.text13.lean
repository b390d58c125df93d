/-! TEXTS: one text more -/
def NX (σ σ' : Nat → Int32) (key len at' : Nat) (τ : Nat → Nat) : Prop := (∀ j, j < 72 → j ≠ 11 → σ' j = σ j) ∧ σ' 11 = nI (T_ σ + 1) ∧ σ' (72 + 2 * T_ σ) = nI (1000 * key + len) ∧ σ' (72 + 2 * T_ σ + 1) = nI at' ∧ (∀ t, t < T_ σ → σ' (72 + 2 * t) = σ (72 + 2 * t) ∧ σ' (72 + 2 * t + 1) = σ (72 + 2 * t + 1) ∧ ∀ k, k < 96 → σ' (100 + 96 * t + k) = σ (100 + 96 * t + k)) ∧ ∀ k, k < len → σ' (100 + 96 * T_ σ + k) = tokM (τ k)
theorem tkI_t {x : Nat} (h : x < 10003 ∨ (20000 ≤ x ∧ x < 20010)) : tkI (tokM x) = x := by
  rcases h with q | q
  · rw [tM_n (by omega)]
    unfold tkI
    rw [if_neg (nI_nlt0 (by omega)), nx_nI (by omega)]
  · have : ∀ s, s < 10 → tkI (tokM (20000 + s)) = 20000 + s := by decide +kernel
    have := this (x - 20000) (by omega)
    rw [show 20000 + (x - 20000) = x by omega] at this
    exact this
/-- what a row with one text more keeps -/
theorem NX.f {σ σ' : Nat → Int32} {key len at' : Nat} {τ : Nat → Nat} (h : NX σ σ' key len at' τ) (hV : Vd σ) (hk : key < 3) (hT : T_ σ < 14) (hW : WF τ len (nmK key) at') : (T_ σ' = T_ σ + 1 ∧ kyT σ' (T_ σ) = key ∧ lenT σ' (T_ σ) = len ∧ atT σ' (T_ σ) = at' ∧ ∀ k, k < len → tokT σ' (T_ σ) k = τ k) ∧ ∀ t, t < T_ σ → kyT σ' t = kyT σ t ∧ lenT σ' t = lenT σ t ∧ atT σ' t = atT σ t ∧ ∀ k, k < 96 → tokT σ' t k = tokT σ t k := by
  obtain ⟨h1, h2, h3, h4, h5, h6⟩ := h
  obtain ⟨⟨l96, a96⟩, hs, -, -⟩ := hW
  refine ⟨⟨?_, ?_, ?_, ?_, fun k hk' => ?_⟩, fun t ht => ?_⟩
  · unfold T_; rw [h2, nx_nI (by omega)]; rfl
  · unfold kyT; rw [h3, nx_nI (by omega)]; omega
  · unfold lenT; rw [h3, nx_nI (by omega)]; omega
  · unfold atT; rw [h4, nx_nI (by omega)]
  · unfold tokT
    rw [h6 k hk']
    refine tkI_t ?_
    have nk : nmK key ≤ 3 := by unfold nmK; split <;> omega
    rcases (hs k hk').1 with q | q
    · exact Or.inl (by omega)
    · exact Or.inr q
  · obtain ⟨t1, t2, t3⟩ := h5 t ht
    refine ⟨?_, ?_, ?_, fun k hk' => ?_⟩
    · unfold kyT; rw [t1]
    · unfold lenT; rw [t1]
    · unfold atT; rw [t2]
    · unfold tokT; rw [t3 k hk']
theorem NX.vd {σ σ' : Nat → Int32} {key len at' : Nat} {τ : Nat → Nat} (h : NX σ σ' key len at' τ) (hV : Vd σ) (hk : key < 3) (hT : T_ σ < 14) (hW : WF τ len (nmK key) at') : Vd σ' := by
  obtain ⟨⟨f1, f2, f3, f4, f5⟩, g⟩ := h.f hV hk hT hW
  obtain ⟨h1, h2, h3, h4, h5, h6⟩ := h
  obtain ⟨hS, hP, hTv, hD⟩ := hV
  have h12 := hS.c12
  have ec : c_ σ' = c_ σ := by unfold c_; rw [h1 1 (by decide) (by decide)]
  have en : n_ σ' = n_ σ := by unfold n_; rw [h1 2 (by decide) (by decide)]
  have es : ∀ i j, i < 12 → j < 4 → sv σ' i j = sv σ i j := fun i j hi hj => by unfold sv; exact h1 _ (by omega) (by omega)
  have eso : ∀ i, i < 12 → so σ' i = so σ i := fun i hi => by unfold so; rw [es i _ hi (by decide), es i _ hi (by decide), en]
  refine ⟨?_, ⟨by rw [h1 6 (by decide) (by decide)]; exact hP.1, fun p hp => by rw [h1 _ (by omega) (by omega)]; exact hP.2 p hp⟩, ⟨by rw [f1]; exact h2, by rw [f1]; omega, fun t ht => ?_⟩, ?_⟩
  · unfold Sv
    rw [ec, en, h1 1 (by decide) (by decide), h1 2 (by decide) (by decide), h1 3 (by decide) (by decide), h1 4 (by decide) (by decide)]
    exact ⟨hS.1, hS.2.1, hS.2.2.1, hS.2.2.2.1, fun i hi => by rw [es i _ (by omega) (by decide), es i _ (by omega) (by decide)]; exact hS.2.2.2.2 i hi⟩
  · rw [f1] at ht
    unfold TXv
    by_cases c : t = T_ σ
    · rw [c, f2, f3, f4]
      refine ⟨hk, h3, h4, fun k hk' => ?_, hW.cg (fun k hk' => f5 k hk')⟩
      rw [f5 k hk']
      exact h6 k hk'
    · have ht' : t < T_ σ := by omega
      obtain ⟨g1, g2, g3, g4⟩ := g t ht'
      obtain ⟨u1, u2, u3⟩ := h5 t ht'
      have hx := hTv.2.2 t ht'
      have l96 := hx.2.2.2.2.1.1
      rw [g1, g2, g3, u1, u2]
      exact ⟨hx.1, hx.2.1, hx.2.2.1, fun k hk' => by rw [u3 k (by omega), g4 k (by omega)]; exact hx.2.2.2.1 k hk', hx.2.2.2.2.cg (fun k hk' => g4 k (by omega))⟩
  · intro a c hac hc p hp
    rw [ec] at hc
    rw [eso a (by omega), eso c (by omega)]
    exact hD a c hac hc p hp
theorem NX.ls {σ σ' : Nat → Int32} (key : Nat) : ∀ n, (∀ t, t < n → kyT σ' t = kyT σ t) → lst σ' key n = lst σ key n := by
  intro n
  induction n with
  | zero => intro _; rfl
  | succ n ih => intro h; simp only [lst, h n (by omega), ih (fun t ht => h t (by omega))]
theorem x_enact {w : Wd} {σ : Nat → Int32} {a key len at' : Nat} {τ : Nat → Nat} (h : Lay w) (hV : Vd σ) (R : RI w 1 σ) (TX : TXc w a key len at' τ) (hk : key < 3) (hW : WF τ len (nmK key) at') (hT : T_ σ < 14) : ∃ w', f_X1_enact 1 a w = some (nI (T_ σ), w') ∧ Fq (fun x => x = 1 ∨ x = 7) 1 w w' ∧ ∀ σ', NX σ σ' key len at' τ → RI w' 1 σ' := by
  have e9 : wI w 1 9 = nI (T_ σ) := by rw [R.2.2.1]; exact hV.2.2.1.1
  obtain ⟨w6, e6⟩ : ∃ w6, w6 = sR w (1 + 5) (T_ σ) (some a) := ⟨_, rfl⟩
  have F6 : Fq (fun x => x = 1 ∨ x = 7) 1 w w6 := by rw [e6]; exact Fq.sR _ _ _
  have h6 := F6.lay bI1 h
  have i6 : wI w6 = wI w := by rw [e6]; rfl
  have k0 : wI w a 0 = nI key := TX.2.1.2.1
  obtain ⟨w7, e7⟩ : ∃ w7, w7 = sI w6 (1 + 6) key (nI (T_ σ)) := ⟨_, rfl⟩
  obtain ⟨w8, e8⟩ : ∃ w8, w8 = sI w7 1 9 (nI (T_ σ + 1)) := ⟨_, rfl⟩
  have F8 : Fq (fun x => x = 1 ∨ x = 7) 1 w w8 := by rw [e8, e7]; exact (F6.tr (Fq.sI _ _ _ (Or.inr rfl))).tr (Fq.sI _ _ _ (Or.inl rfl))
  have i9 : wI w7 1 9 = nI (T_ σ) := by rw [e7, wI_s2 _ _ _ (by decide), i6]; exact e9
  refine ⟨w8, ?_, F8, fun σ' hN => ?_⟩
  · have wK7 : wK w a = 7 := TX.2.1.1
    unfold f_X1_enact
    rw [li_k h bI1, if_pos rfl, e9, if_pos (show nI (T_ σ) < 14 from (nI_lt' (b := 14) (by decide) (by omega)).mpr hT), li_r8 h bI1, bd1_s, wK7, if_pos rfl, li_a5 h bI1 hT, if_pos rfl, nx_nI (by omega), ← e6, lb_e, li_r10 h6 bI1, bd1_s, i6, k0, li_a6 h6 bI1 hk, if_pos rfl, nx_nI (by omega), e9, ← e7, lb_e, i9, nI_s1, lb_e, ← e8, e8, wI_ss, pr_nI (by omega), Nat.add_sub_cancel]
  · obtain ⟨⟨f1, f2, f3, f4, f5⟩, g⟩ := hN.f hV hk hT hW
    obtain ⟨h1, h2, h3, h4, h5, h6'⟩ := hN
    have h12 := hV.1.c12
    have ec : c_ σ' = c_ σ := by unfold c_; rw [h1 1 (by decide) (by decide)]
    have en : n_ σ' = n_ σ := by unfold n_; rw [h1 2 (by decide) (by decide)]
    have es : ∀ i j, i < 12 → j < 4 → sv σ' i j = sv σ i j := fun i j hi hj => by unfold sv; exact h1 _ (by omega) (by omega)
    have o : ∀ x, x ≠ 1 → x ≠ 7 → wI w8 x = wI w x := fun x x1 x2 => F8.2.2.2.2 x (by omega)
    have o1 : ∀ j, j ≠ 9 → wI w8 1 j = wI w 1 j := fun j hj => by rw [e8, wI_sn _ _ (Or.inr hj), e7, wI_s2 _ _ _ (by decide), i6]
    refine ⟨⟨?_, ?_, fun i hi j hj => ?_⟩, ⟨fun p hp => ?_, fun j hj => ?_, ?_, ?_, ?_⟩, ?_, fun k hk' => ?_, fun t ht => ?_⟩
    · rw [o1 2 (by decide), h1 1 (by decide) (by decide)]; exact R.1.1
    · rw [o (1 + 1) (by decide) (by decide), h1 2 (by decide) (by decide), h1 3 (by decide) (by decide), h1 4 (by decide) (by decide), en]; exact R.1.2.1
    · rw [ec] at hi
      rw [o (1 + 7 + i) (by omega) (by omega), es i j (by omega) hj]; exact R.1.2.2 i hi j hj
    · rw [o (1 + 3) (by decide) (by decide), h1 _ (by omega) (by omega)]; exact R.2.1.1 p hp
    · rw [o (1 + 4) (by decide) (by decide), h1 _ (by omega) (by omega)]; exact R.2.1.2.1 j hj
    · rw [o1 5 (by decide), h1 10 (by decide) (by decide)]; exact R.2.1.2.2.1
    · rw [o1 6 (by decide), h1 5 (by decide) (by decide)]; exact R.2.1.2.2.2.1
    · rw [o1 7 (by decide), h1 0 (by decide) (by decide)]; exact R.2.1.2.2.2.2
    · rw [e8, wI_ss, h2]
    · have e7' : wI w8 (1 + 6) k = if k = key then nI (T_ σ) else wI w (1 + 6) k := by
        rw [e8, wI_s2 _ _ _ (by decide), e7]
        by_cases c : k = key
        · rw [if_pos c, c, wI_ss]
        · rw [if_neg c, wI_sn _ _ (Or.inr c), i6]
      rw [e7']
      unfold cnI
      rw [f1, lst, f2]
      by_cases c : k = key
      · rw [if_pos c, if_pos c.symm]
      · rw [if_neg c, if_neg (fun q => c q.symm), NX.ls k (T_ σ) (fun t ht => (g t ht).1)]
        exact R.2.2.2.1 k hk'
    · rw [f1] at ht
      have fx : ∀ {a' key' len' at'' : Nat} {τ' : Nat → Nat}, TXc w a' key' len' at'' τ' → TXc w8 a' key' len' at'' τ' := fun q => q.fq bI1 F8 (fun x hx => by omega)
      by_cases c : t = T_ σ
      · refine ⟨a, ?_, ?_⟩
        · rw [e8, wR_sI, e7, wR_sI, e6, c]; exact wR_r1 _ _ _ _
        · rw [c, f2, f3, f4]
          exact (fx TX).cg (fun k hk' => f5 k hk')
      · obtain ⟨g1, g2, g3, g4⟩ := g t (by omega)
        obtain ⟨a', u1, u2⟩ := R.2.2.2.2 t (by omega)
        have l96 := (hV.2.2.1.2.2 t (by omega)).2.2.2.2.1.1
        refine ⟨a', ?_, ?_⟩
        · rw [e8, wR_sI, e7, wR_sI, e6, wR_r2 _ _ (Or.inr c)]; exact u1
        · rw [g1, g2, g3]
          exact (fx u2).cg (fun k hk' => g4 k (by omega))
def Tw_ (a : Nat) : Prop := a = 96 ∨ a = 97 ∨ (105 ≤ a ∧ a ≤ 107)
def FX (w w' : Wd) : Prop := Fr Tw_ w w' ∧ wI w' 96 3 = wI w 96 3 ∧ wI w' 96 34 = wI w 96 34 ∧ wI w' 96 8 = 0
/-- the reference's text -/
theorem m_text {w : Wd} {b : Nat → Nat} {L : Nat} {σ : Nat → Int32} (h : Lay w) (hL : L ≤ 96) (hT : TM w b L) (hK : KY w) (hσ : wI w 97 = σ) (hV : Vd σ) : match (PT b L).1 with
    | none => ∃ w', f_X9_text 96 w = some ((-100) - nI (PT b L).2, w') ∧ FX w w' ∧ wI w' 97 = σ
    | some x => (¬ T_ σ < 14 → ∃ w', f_X9_text 96 w = some (-1000000003, w') ∧ FX w w' ∧ wI w' 97 = σ) ∧ (T_ σ < 14 → ∃ w', f_X9_text 96 w = some (nI (T_ σ), w') ∧ FX w w' ∧ NX σ (wI w' 97) x.1 x.2.1.length x.2.2 (cdF x.2.1)) := by
  have pw := @PT_w b L hL
  have h14 := hV.2.2.1.2.1
  have s11 : σ 11 = nI (T_ σ) := hV.2.2.1.1
  obtain ⟨w4, e4⟩ : ∃ w4, w4 = sI (sI w 96 9 0) 96 13 (-1) := ⟨_, rfl⟩
  have F4 : FE w w4 := by rw [e4]; exact (FE.s _ _ (by omega)).tr (FE.s _ _ (by omega))
  have h4 := F4.1.lay h
  obtain ⟨w7, a1, A7, G7⟩ := m_go (e := 0) (g := false) h4 hL (Nat.zero_le L) (F4.tm hT) (by rw [e4, wI_sn _ _ (Or.inr (by decide)), wI_ss]; rfl) (fun s s1 s2 => by
    rw [e4, wI_ss]
    exact ⟨fun q => absurd q (nI_m1' (by omega)), fun q => by cases q.1⟩)
  have F7 := F4.tr A7
  have h7 := F7.1.lay h
  have K7 : KY w7 := by
    unfold KY at hK ⊢
    rw [F7.1.2.2.2.2 103 (by decide), F7.1.2.2.2.2 104 (by decide)]
    exact hK
  obtain ⟨ky1, ky0⟩ := m_key h7 hL (F7.tm hT) K7 G7
  obtain ⟨t1, t2, t3⟩ := te_b (b := b) (Nat.zero_le L)
  have st : f_X9_text 96 w = f_X9_text 96 w := rfl
  conv at st => rhs; unfold f_X9_text
  rw [lk_96 h, if_pos rfl, lb_e, lb_e, ← e4, a1, bd2_s, lk_96 h7, if_pos rfl] at st
  unfold PT at pw ⊢
  by_cases c : kyS b (tSk b L 0) (tTe b L 0) < 3
  · rw [if_pos c] at pw ⊢
    obtain ⟨w11, b1, B11, G11⟩ := ky1 c
    obtain ⟨key, ek⟩ : ∃ key, key = kyS b (tSk b L 0) (tTe b L 0) := ⟨_, rfl⟩
    rw [← ek] at c B11 pw ⊢
    have h11 : Lay w11 := B11.1.lay (h7.sI _ _ _)
    have T11 : TM w11 b L := B11.tm ⟨by rw [wI_sn _ _ (Or.inr (by decide))]; exact (F7.tm hT).1, fun k hk => by rw [wI_s2 _ _ _ (by decide)]; exact (F7.tm hT).2 k hk⟩
    have k14 : wI w11 96 14 = nI key := by rw [B11.2 14 (by omega), wI_ss]
    have f11 : ∀ j, j < 9 ∨ 14 < j → wI w11 96 j = wI w 96 j := fun j hj => by rw [B11.2 j (by omega), wI_sn _ _ (Or.inr (by omega)), F7.2 j (by omega)]
    have Fr11 : Fr (fun a => a = 96) w w11 := F7.1.tr ((Fr.sI (A := fun a => a = 96) w7 14 (nI key) rfl).tr B11.1)
    rw [b1, bd2_s, if_neg (show ¬ (1 : Int32) = 0 by decide), lk_96 h11, if_pos rfl] at st
    obtain ⟨w12, e12⟩ : ∃ w12, w12 = sI (sI (sI (sI w11 96 18 0) 96 19 0) 96 21 0) 107 0 0 := ⟨_, rfl⟩
    have F12 : FY w11 w12 := by rw [e12]; exact (((FY.s _ _ (by omega)).tr (FY.s _ _ (by omega))).tr (FY.s _ _ (by omega))).tr (FY.r _ _ _ (by omega))
    have h12 := F12.1.lay h11
    have f96 : wI w12 96 = wI (sI (sI (sI w11 96 18 0) 96 19 0) 96 21 0) 96 := by rw [e12]; exact wI_s2 _ _ _ (by decide)
    have X12 : MS w12 key [] [] 0 := by
      refine ⟨by rw [F12.2 14 (by decide) (by decide) (by decide)]; exact k14, ?_, ?_, ?_, trivial, trivial⟩
      · rw [f96, wI_sn _ _ (Or.inr (by decide)), wI_sn _ _ (Or.inr (by decide)), wI_ss]; rfl
      · rw [f96, wI_sn _ _ (Or.inr (by decide)), wI_ss]; rfl
      · rw [f96, wI_ss]; rfl
    have R12 : TR w12 [] := ⟨by rw [e12]; exact wI_ss _ _ _ _, trivial⟩
    obtain ⟨r, w53, l1, l2, l3⟩ := m_loop (b := b) (L := L) (key := key) hL c 97 FU (tTe b L 0) true true [] [] 0 w12 (by omega) (by unfold FU; omega) t2 h12 (F12.tm T11) X12 R12 (F12.go G11) (IS_0 _) (Nat.zero_le _)
    have h53 := l2.1.lay h12
    have tE : f_X9_takesE 96 w11 = some (r, w53) := by
      have r22 : wR (sI (sI (sI w11 96 18 0) 96 19 0) 96 21 0) 96 22 = some 107 := lr_96_22 (((h11.sI _ _ _).sI _ _ _).sI _ _ _)
      have a0 : aK 12 (sI (sI (sI w11 96 18 0) 96 19 0) 96 21 0) 107 0 = true := la_107 (((h11.sI _ _ _).sI _ _ _).sI _ _ _) (show 0 < 10 by decide)
      unfold f_X9_takesE
      rw [lk_96 h11, if_pos rfl, lb_e, lb_e, lb_e, r22, bd1_s, a0, if_pos rfl, show nx 0 = 0 from rfl, lb_e, ← e12]
      exact l1
    rw [tE, bd2_s, lb_e, lk_96 h53, if_pos rfl, lb_e] at st
    obtain ⟨w58, e58⟩ : ∃ w58, w58 = sI w53 96 8 0 := ⟨_, rfl⟩
    rw [← e58] at st
    have f58 : ∀ j, j ≠ 8 → wI w58 96 j = wI w53 96 j := fun j hj => by rw [e58]; exact wI_sn _ _ (Or.inr hj)
    have h58 : Lay w58 := by rw [e58]; exact h53.sI _ _ _
    have Fr58 : Fr Tw_ w w58 := by
      rw [e58]
      exact ((Fr11.mono (fun a ha => Or.inl ha)).tr ((F12.1.tr l2.1).mono (fun a ha => by unfold Tz_ at ha; omega))).tr (Fr.sI _ _ _ (Or.inl rfl))
    have k58 : ∀ j, j < 8 ∨ 21 < j → wI w58 96 j = wI w 96 j := fun j hj => by rw [f58 j (by omega), l2.2 j (by omega), F12.2 j (by omega) (by omega) (by omega), f11 j (by omega)]
    have X58 : FX w w58 := ⟨Fr58, k58 3 (by omega), k58 34 (by omega), by rw [e58, wI_ss]⟩
    have n58 : wI w58 97 = σ := by rw [e58, wI_s2 _ _ _ (by decide), l2.1.2.2.2.2 97 (by unfold Tz_; omega), F12.1.2.2.2.2 97 (by unfold Tz_; omega), Fr11.2.2.2.2 97 (by decide)]; exact hσ
    revert l3 pw
    rcases PF b L key 97 (tTe b L 0) true true [] [] 0 with ⟨oo, p⟩
    cases oo with
    | none =>
      intro pw l3
      obtain ⟨r0, p0⟩ := l3
      refine ⟨w58, ?_, X58, n58⟩
      rw [st, r0, if_pos rfl, if_pos rfl, f58 10 (by decide), p0]
    | some x =>
      intro pw l3
      obtain ⟨r0, stk', Y⟩ := l3
      obtain ⟨pk, pl, pa, pW⟩ := pw rfl
      have pl' : x.1.length ≤ 96 := pl
      have pa' : x.2 ≤ 96 := pa
      obtain ⟨y14, y18, y19, -, yc, -⟩ := Y
      rw [r0, if_neg (show ¬ (1 : Int32) = 0 by decide), if_neg (show ¬ (1 : Int32) = 0 by decide), lr_96_0 h58, bd1_s, show (11 : Int32) = nI 11 from rfl, la_97 h58 (show 11 < 1444 by decide), if_pos rfl, nx_nI (by decide), n58, s11] at st
      refine ⟨fun nT => ⟨w58, ?_, X58, n58⟩, fun yT => ?_⟩
      · rw [st, if_pos (show nI (T_ σ) = 14 by rw [show T_ σ = 14 by omega]; rfl)]
      · rw [if_neg (fun q : nI (T_ σ) = 14 => by have := nI_inj (b := 14) (by omega) (by decide) q; omega), bd1_s, la_97 h58 (show 11 < 1444 by decide), if_pos rfl, lb_e, bd1_s, n58, s11] at st
        have i1 : (72 : Int32) + 2 * nI (T_ σ) = nI (72 + 2 * T_ σ) := by rw [show (72 : Int32) = nI 72 from rfl, show (2 : Int32) = nI 2 from rfl, nI_mul, nI_add]
        have i2 : (1000 : Int32) * nI key + nI x.1.length = nI (1000 * key + x.1.length) := by rw [show (1000 : Int32) = nI 1000 from rfl, nI_mul, nI_add]
        have z14 : wI w58 96 14 = nI key := by rw [f58 14 (by decide)]; exact y14
        have z18 : wI w58 96 18 = nI x.1.length := by rw [f58 18 (by decide)]; exact y18
        have z19 : wI w58 96 19 = nI x.2 := by rw [f58 19 (by decide)]; exact y19
        have z105 : Rw tokM (wI w58 105) x.1 := by rw [e58, wI_s2 _ _ _ (by decide)]; exact yc
        obtain ⟨w71, e71⟩ : ∃ w71, w71 = sI w58 97 (72 + 2 * T_ σ) (nI (1000 * key + x.1.length)) := ⟨_, rfl⟩
        have h71 : Lay w71 := by rw [e71]; exact h58.sI _ _ _
        have i96 : wI w71 96 = wI w58 96 := by rw [e71]; exact wI_s2 _ _ _ (by decide)
        rw [i1, la_97 h58 (show 72 + 2 * T_ σ < 1444 by omega), if_pos rfl, nx_nI (by omega), z14, z18, i2, lb_e, ← e71, lr_96_0 h71, bd1_s, nI_s1, la_97 h71 (show 72 + 2 * T_ σ + 1 < 1444 by omega), if_pos rfl, nx_nI (by omega), i96, z19, lb_e] at st
        obtain ⟨w76, e76⟩ : ∃ w76, w76 = sI w71 97 (72 + 2 * T_ σ + 1) (nI x.2) := ⟨_, rfl⟩
        rw [← e76] at st
        have F76 : Fr (fun a => a = 97) w58 w76 := by rw [e76, e71]; exact (Fr.sI (A := fun a => a = 97) _ _ _ rfl).tr (Fr.sI _ _ _ rfl)
        have n76 : wI w76 97 = upd (upd σ (72 + 2 * T_ σ) (nI (1000 * key + x.1.length))) (72 + 2 * T_ σ + 1) (nI x.2) := by rw [e76, wI_s1, e71, wI_s1, n58]
        have L117 : ∀ n m k (w1 : Wd), k + m = x.1.length → m < n → Fr (fun a => a = 97) w58 w1 → (∀ j, (j < 100 + 96 * T_ σ ∨ 100 + 96 * T_ σ + k ≤ j) → wI w1 97 j = wI w76 97 j) → (∀ i, i < k → wI w1 97 (100 + 96 * T_ σ + i) = wI w58 105 i) → ∃ w', L_X9_text_117 n 96 (nI (T_ σ)) (nI k) w1 = some (nI (T_ σ), w') ∧ Fr (fun a => a = 97) w58 w' ∧ (∀ j, (j < 100 + 96 * T_ σ ∨ 100 + 96 * T_ σ + x.1.length ≤ j) → j ≠ 11 → wI w' 97 j = wI w76 97 j) ∧ (∀ i, i < x.1.length → wI w' 97 (100 + 96 * T_ σ + i) = wI w58 105 i) ∧ wI w' 97 11 = nI (T_ σ + 1) := by
          intro n
          induction n with
          | zero => intro m k w1 _ q; omega
          | succ n ih =>
            intro m k w1 q1 q2 F1 y1 y2
            have h1 := F1.lay h58
            have j96 : wI w1 96 = wI w58 96 := F1.2.2.2.2 96 (by decide)
            have j105 : wI w1 105 = wI w58 105 := F1.2.2.2.2 105 (by decide)
            have v11 : wI w1 97 11 = nI (T_ σ) := by rw [y1 11 (by omega), n76, upd_n _ _ (by omega), upd_n _ _ (by omega)]; exact s11
            have a11 : aK 11 w1 97 11 = true := la_97 h1 (show 11 < 1444 by decide)
            rw [show L_X9_text_117 (n + 1) 96 (nI (T_ σ)) (nI k) w1 = _ from by unfold L_X9_text_117; rfl, lk_96 h1, if_pos rfl, j96, z18]
            cases m with
            | zero =>
              rw [if_pos ((nI_le' (by omega) (by omega)).mpr (by omega)), lr_96_0 h1, bd1_s, a11, if_pos rfl, if_pos rfl, show nx 11 = 11 from rfl, v11, nI_s1, lb_e]
              refine ⟨_, rfl, F1.tr (Fr.sI _ _ _ rfl), fun j hj j11 => ?_, fun i hi => ?_, wI_ss _ _ _ _⟩
              · rw [wI_sn _ _ (Or.inr j11)]; exact y1 j (by omega)
              · rw [wI_sn _ _ (Or.inr (by omega))]; exact y2 i (by omega)
            | succ m =>
              have ix : (100 : Int32) + 96 * nI (T_ σ) + nI k = nI (100 + 96 * T_ σ + k) := by rw [show (100 : Int32) = nI 100 from rfl, show (96 : Int32) = nI 96 from rfl, nI_mul, nI_add, nI_add]
              rw [if_neg (fun q => by have := (nI_le' (by omega) (by omega)).mp q; omega), lr_96_0 h1, bd1_s, lr_96_17 h1, bd1_s, la_105 h1 (show k < 96 by omega), if_pos rfl, ix, la_97 h1 (show 100 + 96 * T_ σ + k < 1444 by omega), if_pos rfl, nx_nI (show 100 + 96 * T_ σ + k < 2 ^ 31 by omega), nx_nI (show k < 2 ^ 31 by omega), j105, nI_s1, lb_e, lb_e]
              refine ih m (k + 1) _ (by omega) (by omega) (F1.tr (Fr.sI _ _ _ rfl)) (fun j hj => ?_) (fun i hi => ?_)
              · rw [wI_sn _ _ (Or.inr (by omega))]; exact y1 j (by omega)
              · by_cases z : i = k
                · rw [z, wI_ss]
                · rw [wI_sn _ _ (Or.inr (by omega))]; exact y2 i (by omega)
        obtain ⟨w', u1, u2, u3, u4, u5⟩ := L117 FU x.1.length 0 w76 (by omega) (by unfold FU; omega) F76 (fun j _ => rfl) (fun i hi => by omega)
        have u96 : wI w' 96 = wI w58 96 := u2.2.2.2.2 96 (by decide)
        refine ⟨w', by rw [st]; exact u1, ⟨Fr58.tr (u2.mono (fun a ha => Or.inr (Or.inl ha))), by rw [u96]; exact X58.2.1, by rw [u96]; exact X58.2.2.1, by rw [u96]; exact X58.2.2.2⟩, fun j j1 j2 => ?_, u5, ?_, ?_, fun t ht => ⟨?_, ?_, fun k hk => ?_⟩, fun k hk => ?_⟩
        · rw [u3 j (by omega) j2, n76, upd_n _ _ (by omega), upd_n _ _ (by omega)]
        · rw [u3 _ (by omega) (by omega), n76, upd_n _ _ (by omega), upd_s]
        · rw [u3 _ (by omega) (by omega), n76, upd_s]
        · rw [u3 _ (by omega) (by omega), n76, upd_n _ _ (by omega), upd_n _ _ (by omega)]
        · rw [u3 _ (by omega) (by omega), n76, upd_n _ _ (by omega), upd_n _ _ (by omega)]
        · rw [u3 _ (by omega) (by omega), n76, upd_n _ _ (by omega), upd_n _ _ (by omega)]
        · rw [u4 k hk]; exact Rw_c x.1 z105 k hk
  · rw [if_neg c]
    rw [ky0 c, bd2_s, if_pos rfl] at st
    obtain ⟨w58, e58⟩ : ∃ w58, w58 = sI w7 96 8 0 := ⟨_, rfl⟩
    refine ⟨w58, ?_, ⟨?_, ?_, ?_, by rw [e58, wI_ss]⟩, ?_⟩
    · rw [st]
      unfold j_X9_text_32 j_X9_text_33
      rw [lk_96 h7, if_pos rfl, lb_e, if_pos rfl, ← e58]
      rw [show wI w58 96 10 = wI w7 96 10 by rw [e58]; exact wI_sn _ _ (Or.inr (by decide)), G7.2.1]
    · rw [e58]; exact (F7.1.mono (fun a ha => Or.inl ha)).tr (Fr.sI _ _ _ (Or.inl rfl))
    · rw [e58, wI_sn _ _ (Or.inr (by decide)), F7.2 3 (by omega)]
    · rw [e58, wI_sn _ _ (Or.inr (by decide)), F7.2 34 (by omega)]
    · rw [e58, wI_s2 _ _ _ (by decide), F7.1.2.2.2.2 97 (by decide)]; exact hσ
