/-! THE CALLS: text -/
theorem Iv.tx {w w1 w2 : Wd} (I : Iv w) (h1 : Lay w1) (e1 : ∀ a, a = 0 ∨ a = 62 ∨ (65 ≤ a ∧ a < 119) → wI w1 a = wI w a) (z : wI w1 61 1 = 0) (r20 : ∀ σ, Vd σ → RI w 20 σ → RI w1 20 σ) (hR : RI w1 1 (wI w2 97)) (hV : Vd (wI w2 97)) (hM : Mn (wI w2 97)) (hX : FX w1 w2) : Iv w2 := by
  obtain ⟨hI, ⟨hK, -⟩, hSh, hSl, hW⟩ := I.2.2
  obtain ⟨F, x3, x34, x8⟩ := hX
  have o : ∀ a, ¬ Tw_ a → wI w2 a = wI w1 a := fun a ha => F.2.2.2.2 a ha
  have e : ∀ a, (a = 0 ∨ a = 62 ∨ (65 ≤ a ∧ a < 119)) → ¬ Tw_ a → wI w2 a = wI w a := fun a h1 h2 => by rw [o a h2, e1 a h1]
  have fb : ∀ b, bI b → ∀ x, Tw_ x → (x < b ∨ b + 19 ≤ x) ∧ (x < 119 ∨ x % 3 = 1) := fun b hb x hx => by have := bI_lt hb; unfold Tw_ at hx; exact ⟨by omega, by omega⟩
  refine ⟨F.lay h1, ⟨hV, hM, hR.fr bI1 hV.1 F (fb 1 bI1)⟩, ?_, ⟨?_, 0, by decide, ?_, x8, fun k hk => by omega⟩, hSh.cg (fun a ha => e a (by omega) (by unfold Tw_; omega)), hSl.cg (fun a ha => e a (by omega) (by unfold Tw_; omega)), hW.cg (by rw [e 0 (by omega) (by unfold Tw_; omega)]) (by rw [x34, e1 96 (by omega)]) (e 67 (by omega) (by unfold Tw_; omega)) (e 118 (by omega) (by unfold Tw_; omega))⟩
  · unfold Im at hI ⊢
    rw [x3, e1 96 (by omega), e 0 (by omega) (by unfold Tw_; omega), e 98 (by omega) (by unfold Tw_; omega)]
    rcases hI with q | ⟨q1, q2, q3, q4, q5⟩
    · exact Or.inl q
    · exact Or.inr ⟨q1, q2, q3, q4, (r20 _ q3 q5).fr bI20 q3.1 F (fb 20 bI20)⟩
  · unfold KY at hK ⊢
    rw [e 103 (by omega) (by unfold Tw_; omega), e 104 (by omega) (by unfold Tw_; omega)]
    exact hK
  · rw [o 61 (by unfold Tw_; omega)]; exact z
theorem E_text {w : Wd} (I : Iv w) : Ok2 (f_X8_text 0) (f_X9_text 96) w := by
  have h := I.1
  obtain ⟨hV, hM, hR⟩ := I.2.1
  obtain ⟨hI, ⟨hK, L, hL, t1, t2, tb⟩, hSh, hSl, hW⟩ := I.2.2
  obtain ⟨b, eb⟩ : ∃ b : Nat → Nat, b = fun k => nx (wI w 102 k) := ⟨_, rfl⟩
  have tb' : ∀ k, k < L → wI w 62 k = nI (b k) ∧ wI w 102 k = nI (b k) ∧ b k < 256 := fun k hk => by
    obtain ⟨q1, v, q2, q3⟩ := tb k hk
    have : b k = v := by rw [eb]; show nx (wI w 102 k) = v; rw [q3, nx_nI (by omega)]
    rw [this]
    exact ⟨by rw [q1]; exact q3, q3, q2⟩
  obtain ⟨r, w6, f6, F6, res⟩ := x_parse (b := b) h hL ⟨t1, fun k hk => ⟨(tb' k hk).1, (tb' k hk).2.2⟩⟩
  have h6 := F6.lay h
  obtain ⟨w12, e12⟩ : ∃ w12, w12 = sI w6 61 1 0 := ⟨_, rfl⟩
  have F12 : Fr Tx_ w w12 := by rw [e12]; exact F6.tr (Fr.sI _ _ _ (Or.inl rfl))
  have h12 := F12.lay h
  have o12 : ∀ a, ¬ Tx_ a → wI w12 a = wI w a := fun a ha => F12.2.2.2.2 a ha
  have fb : ∀ b, bI b → ∀ x, Tx_ x → (x < b ∨ b + 19 ≤ x) ∧ (x < 119 ∨ x % 3 = 1) := fun b hb x hx => by have := bI_lt hb; unfold Tx_ at hx; exact ⟨by omega, by omega⟩
  have R12 : RI w12 1 (wI w 97) := hR.fr bI1 hV.1 F12 (fb 1 bI1)
  have Q12 : ∀ σ, Vd σ → RI w 20 σ → RI w12 20 σ := fun σ v q => q.fr bI20 v.1 F12 (fb 20 bI20)
  have z12 : wI w12 61 1 = 0 := by rw [e12, wI_ss]
  have TMk : ∀ w1, (∀ a, a = 96 ∨ (102 ≤ a ∧ a < 105) → wI w1 a = wI w a) → TM w1 b L ∧ KY w1 := fun w1 q => by
    refine ⟨⟨by rw [q 96 (by omega)]; exact t2, fun k hk => ⟨by rw [q 102 (by omega)]; exact (tb' k hk).2.1, (tb' k hk).2.2⟩⟩, ?_⟩
    unfold KY at hK ⊢
    rw [q 103 (by omega), q 104 (by omega)]
    exact hK
  have pp := PT_p b L
  have MT : ∀ w1, Lay w1 → (∀ a, a = 96 ∨ a = 97 ∨ (102 ≤ a ∧ a < 105) → wI w1 a = wI w a) → _ := fun w1 q1 q2 => m_text (b := b) (L := L) (σ := wI w 97) q1 hL (TMk w1 (fun a ha => q2 a (by omega))).1 (TMk w1 (fun a ha => q2 a (by omega))).2 (q2 97 (by omega)) hV
  have st : f_X8_text 0 w = f_X8_text 0 w := rfl
  conv at st => rhs; unfold f_X8_text
  rw [lk_0 h, if_pos rfl, lr_0_5 h, bd1_s, lk_61 h, if_pos rfl, f6, bd2_s, lk_0 h6, if_pos rfl, lr_0_5 h6, bd1_s, lk_61 h6, if_pos rfl, lb_e, ← e12] at st
  have pw := @PT_w b L hL
  revert res MT pw
  generalize PT b L = P at pp
  obtain ⟨o, p⟩ := P
  cases o with
  | none =>
    intro res MT pw
    have res' : r = nI p := res
    have pp' : p ≤ L := pp
    rw [res', if_pos (show (0 : Int32) ≤ nI p by rw [le_I, nI_toInt (by omega)]; show (0 : Int) ≤ _; omega)] at st
    obtain ⟨w2, g1, g2, g3⟩ := MT w12 h12 (fun a ha => o12 a (by unfold Tx_; omega))
    exact ⟨_, w12, w2, st, h12, g1, I.tx h12 (fun a ha => o12 a (by unfold Tx_; omega)) z12 Q12 (by rw [g3]; exact R12) (by rw [g3]; exact hV) (by rw [g3]; exact hM) g2⟩
  | some x =>
    intro res MT pw
    obtain ⟨r1, stk', X6⟩ := res
    obtain ⟨pk, pl, pa, pW⟩ := pw rfl
    have X12 : XS w12 x.1 stk' x.2.1 x.2.2 := by
      obtain ⟨x5, x8, x9, x11, x12, x13, xc, xs⟩ := X6
      have e : ∀ j, j ≠ 1 → wI w12 61 j = wI w6 61 j := fun j hj => by rw [e12]; exact wI_sn _ _ (Or.inr hj)
      exact ⟨by rw [e 5 (by decide)]; exact x5, by rw [e 8 (by decide)]; exact x8, by rw [e 9 (by decide)]; exact x9, by rw [e 11 (by decide)]; exact x11, by rw [e 12 (by decide)]; exact x12, by rw [e 13 (by decide)]; exact x13, by rw [e12, wI_s2 _ _ _ (by decide)]; exact xc, by rw [e12, wI_s2 _ _ _ (by decide)]; exact xs⟩
    obtain ⟨w20, l1, F20, TX⟩ := x_law h12 X12 pl pa
    have h20 := F20.lay h12
    have N12 := h12.1
    have o20 : ∀ a, a < 119 → wI w20 a = wI w12 a := fun a ha => (F20.2 a (by omega)).2.2.2
    have R20 : RI w20 1 (wI w 97) := R12.n3 bI1 h12 hV.1 F20
    have Q20 : ∀ σ, Vd σ → RI w 20 σ → RI w20 20 σ := fun σ v q => (Q12 σ v q).n3 bI20 h12 v.1 F20
    have z20 : wI w20 61 1 = 0 := by rw [o20 61 (by decide)]; exact z12
    rw [r1, if_neg (show ¬ (0 : Int32) ≤ -1 by decide), lr_0_0 h12, bd1_s, lr_0_5 h12, bd1_s, lk_61 h12, if_pos rfl, l1, bd2_s, bd1_s, li_k h20 bI1, if_pos rfl] at st
    by_cases c : T_ (wI w 97) < 14
    · obtain ⟨w26, f26, F26, R26⟩ := x_enact h20 hV R20 TX pk pW c
      rw [f26, bd2_s] at st
      have h26 := F26.lay bI1 h20
      have o26 : ∀ a, (a = 0 ∨ (8 ≤ a ∧ a < 119)) → ¬ Tx_ a → wI w26 a = wI w a := fun a ha q => by rw [F26.2.2.2.2 a (by omega), o20 a (by omega), o12 a q]
      obtain ⟨w2, g1, g2, g3⟩ := (MT w26 h26 (fun a ha => o26 a (by omega) (by unfold Tx_; omega))).2 c
      refine ⟨_, w26, w2, st, h26, g1, I.tx h26 (fun a ha => o26 a (by omega) (by unfold Tx_; omega)) (by rw [F26.2.2.2.2 61 (by decide)]; exact z20) (fun σ v q => (Q20 σ v q).fq bI1 bI20 (by decide) v.1 F26 (fun y hy => by omega)) (R26 _ g3) (g3.vd hV pk c pW) ?_ g2⟩
      obtain ⟨m, m1, m2⟩ := hM
      exact ⟨m, m1, by rw [g3.1 5 (by decide) (by decide)]; exact m2⟩
    · have e9 : wI w20 1 9 = nI (T_ (wI w 97)) := by rw [R20.2.2.1]; exact hV.2.2.1.1
      have h14 := hV.2.2.1.2.1
      have fe : f_X1_enact 1 (wN w12 + 1) w20 = some (-1000000003, w20) := by
        unfold f_X1_enact
        rw [li_k h20 bI1, if_pos rfl, e9, if_neg (fun q : nI (T_ (wI w 97)) < 14 => c ((nI_lt' (b := 14) (by decide) (by omega)).mp q))]
      rw [fe, bd2_s] at st
      have o20' : ∀ a, (a = 0 ∨ (8 ≤ a ∧ a < 119)) → ¬ Tx_ a → wI w20 a = wI w a := fun a ha q => by rw [o20 a (by omega), o12 a q]
      obtain ⟨w2, g1, g2, g3⟩ := (MT w20 h20 (fun a ha => o20' a (by omega) (by unfold Tx_; omega))).1 c
      exact ⟨_, w20, w2, st, h20, g1, I.tx h20 (fun a ha => o20' a (by omega) (by unfold Tx_; omega)) z20 Q20 (by rw [g3]; exact R20) (by rw [g3]; exact hV) (by rw [g3]; exact hM) g2⟩
