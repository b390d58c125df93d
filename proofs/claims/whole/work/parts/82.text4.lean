/-! TEXTS: the class, a step -/
def Rs (f : Wd → Option (Int32 × Wd)) (w : Wd) (key : Nat) (o : Option St) : Prop := match o with
  | none => ∃ w', f w = some (0, w') ∧ FS w w'
  | some x => ∃ w', f w = some (1, w') ∧ FS w w' ∧ XS w' key x.2.1 x.2.2.1 x.2.2.2 ∧ wI w' 61 6 = if x.1 = true then 1 else 0
theorem tX_v {x : Nat} (h : x < 10000) : nI x = tokX x := (tX_n h).symm
theorem x_num {b : Nat → Nat} {L e key at' : Nat} {st cd : List Nat} (hL : L ≤ 96) (he : e ≤ L) (g : gd st) (hl : st.length + cd.length + 1 ≤ 96) {w : Wd} (h : Lay w) (hT : TB w b L) (X : XS w key st cd at') (e4 : wI w 61 4 = nI e) : ∀ n m i a, i + m = e → m < n → (∀ k, i ≤ k → k < e → 48 ≤ b k ∧ b k ≤ 57) → (a + 1) * 10 ^ m ≤ 10000 → ∃ w', L_X6_takesNumber_22 n 61 (nI a) (nI i) w = some (1, w') ∧ FS w w' ∧ XS w' key (pnS st) (pnC st (vlN b m i a :: cd)) (at' + 1) ∧ wI w' 61 6 = 0 := by
  intro n
  induction n with
  | zero => intro m i a _ q; omega
  | succ n ih =>
    intro m i a g1 g2 hd ha
    rw [show L_X6_takesNumber_22 (n + 1) 61 (nI a) (nI i) w = _ from by unfold L_X6_takesNumber_22; rfl, lk_61 h, if_pos rfl, e4]
    cases m with
    | zero =>
      rw [if_pos ((nI_le' (by omega) (by omega)).mpr (by omega))]
      rw [Nat.pow_zero] at ha
      obtain ⟨w', a1, a2, a3, a4⟩ := x_thing h g hl X (tX_v (show a < 10000 by omega))
      rw [a1, bd2_s]
      exact ⟨w', rfl, a2, a3, a4⟩
    | succ m =>
      obtain ⟨t1, t2⟩ := hT.2 i (by omega)
      obtain ⟨d1, d2⟩ := hd i (Nat.le_refl _) (by omega)
      rw [if_neg (fun q => by have := (nI_le' (by omega) (by omega)).mp q; omega)]
      have ea : nI a * 10 + nI (b i) - 48 = nI (a * 10 + b i - 48) := by
        rw [show (10 : Int32) = nI 10 from rfl, show (48 : Int32) = nI 48 from rfl, nI_mul, nI_add, nI_sub (by omega)]
      simp only [lr_61_0 h, bd1_s, la_62 h (show i < 96 by omega), ↓reduceIte, nx_nI (show i < 2 ^ 31 by omega), t1, ea, lb_e, nI_s1]
      refine ih m (i + 1) (a * 10 + b i - 48) (by omega) (by omega) (fun k k1 k2 => hd k (by omega) k2) (Nat.le_trans ?_ ha)
      rw [Nat.pow_succ, Nat.mul_comm (10 ^ m) 10, ← Nat.mul_assoc]
      exact Nat.mul_le_mul_right _ (by omega)
theorem i2c_l : ∀ x, x < 128 → i2c_ (nI x) = nI x ∧ Int8.toInt32 (Int32.toInt8 (nI x)) = nI x := by decide +kernel
theorem ix_step {v n i : Nat} {c : Int32} (hv : v < 6) (hi : i < 10) (w : Wd) : L_J1_indexOfChar_4cfef_7 (n + 1) v (nI (stN.getD v 0)) c (nI i) w = if nI (stN.getD v 0) ≤ nI i then some (-1, w) else if ib (nI i) (stN.getD v 0) = true then (if (stB.getD v []).getD i 0 = c then some (nI i, w) else L_J1_indexOfChar_4cfef_7 n v (nI (stN.getD v 0)) c (nI (i + 1)) w) else none := by
  rw [show L_J1_indexOfChar_4cfef_7 (n + 1) v (nI (stN.getD v 0)) c (nI i) w = _ from by unfold L_J1_indexOfChar_4cfef_7; rfl]
  simp only [hv, ↓reduceIte, nx_nI (show i < 2 ^ 31 by omega), lb_e, nI_s1]
theorem ix_loop {v : Nat} (hv : v < 6) (c : Int32) (w : Wd) : L_J1_indexOfChar_4cfef_7 FU v (nI (stN.getD v 0)) c (nI 0) w = L_J1_indexOfChar_4cfef_7 (FU - 4 + 1 + 1 + 1 + 1) v (nI (stN.getD v 0)) c (nI 0) w := rfl
theorem x_ix {key x : Nat} (hk : key < 3) (h1 : 97 ≤ x) (h2 : x ≤ 122) (w : Wd) : f_J0_indexOf_0f7a4 (3 + key) (i2c_ (nI x)) w = some (if nmI key x < 3 then nI (nmI key x) else -1, w) := by
  obtain ⟨l1, l2⟩ := i2c_l x (by omega)
  have n1 : ¬ nI x < 0 := nI_nlt0 (by omega)
  have n2 : ¬ (255 : Int32) < nI x := fun q => by have := (nI_lt' (a := 255) (by omega) (by omega)).mp q; omega
  have k6 : 3 + key < 6 := by omega
  have ln : f_J0_length_8abf5 (3 + key) w = some (nI (stN.getD (3 + key) 0), w) := by
    rcases (show key = 0 ∨ key = 1 ∨ key = 2 by omega) with q | q | q <;> subst q <;> rfl
  have ne : ∀ y, y < 128 → (nI y = nI x ↔ x = y) := fun y hy => ⟨fun q => (nI_inj (by omega) (by omega) q).symm, fun q => by rw [q]⟩
  have lp : L_J1_indexOfChar_4cfef_7 FU (3 + key) (nI (stN.getD (3 + key) 0)) (nI x) (nI 0) w = some (if nmI key x < 3 then nI (nmI key x) else -1, w) := by
    rw [ix_loop k6, ix_step k6 (by decide), ix_step k6 (by decide), ix_step k6 (by decide), ix_step k6 (by decide)]
    rcases (show key = 0 ∨ key = 1 ∨ key = 2 by omega) with q | q | q <;> subst q
    · rw [if_neg (show ¬ nI (stN.getD (3 + 0) 0) ≤ nI 0 by decide), if_pos (show ib (nI 0) (stN.getD (3 + 0) 0) = true by decide), if_neg (show ¬ nI (stN.getD (3 + 0) 0) ≤ nI (0 + 1) by decide), if_pos (show ib (nI (0 + 1)) (stN.getD (3 + 0) 0) = true by decide), if_neg (show ¬ nI (stN.getD (3 + 0) 0) ≤ nI (0 + 1 + 1) by decide), if_pos (show ib (nI (0 + 1 + 1)) (stN.getD (3 + 0) 0) = true by decide), if_pos (show nI (stN.getD (3 + 0) 0) ≤ nI (0 + 1 + 1 + 1) by decide)]
      rw [show (stB.getD (3 + 0) []).getD 0 0 = nI 112 from rfl, show (stB.getD (3 + 0) []).getD (0 + 1) 0 = nI 99 from rfl, show (stB.getD (3 + 0) []).getD (0 + 1 + 1) 0 = nI 115 from rfl]
      simp only [ne 112 (by decide), ne 99 (by decide), ne 115 (by decide), nmI, ↓reduceIte]
      by_cases a : x = 112
      · simp only [a, ↓reduceIte]; rfl
      · by_cases a' : x = 99
        · simp only [a', ↓reduceIte]; rfl
        · by_cases a'' : x = 115
          · simp only [a'', ↓reduceIte]; rfl
          · simp only [a, a', a'', ↓reduceIte]; rfl
    · rw [if_neg (show ¬ nI (stN.getD (3 + 1) 0) ≤ nI 0 by decide), if_pos (show ib (nI 0) (stN.getD (3 + 1) 0) = true by decide), if_neg (show ¬ nI (stN.getD (3 + 1) 0) ≤ nI (0 + 1) by decide), if_pos (show ib (nI (0 + 1)) (stN.getD (3 + 1) 0) = true by decide), if_pos (show nI (stN.getD (3 + 1) 0) ≤ nI (0 + 1 + 1) by decide)]
      rw [show (stB.getD (3 + 1) []).getD 0 0 = nI 116 from rfl, show (stB.getD (3 + 1) []).getD (0 + 1) 0 = nI 109 from rfl]
      simp only [ne 116 (by decide), ne 109 (by decide), nmI, show ¬ (1 : Nat) = 0 by decide, ↓reduceIte]
      by_cases a : x = 116
      · simp only [a, ↓reduceIte]; rfl
      · by_cases a' : x = 109
        · simp only [a', ↓reduceIte]; rfl
        · simp only [a, a', ↓reduceIte]; rfl
    · rw [if_neg (show ¬ nI (stN.getD (3 + 2) 0) ≤ nI 0 by decide), if_pos (show ib (nI 0) (stN.getD (3 + 2) 0) = true by decide), if_neg (show ¬ nI (stN.getD (3 + 2) 0) ≤ nI (0 + 1) by decide), if_pos (show ib (nI (0 + 1)) (stN.getD (3 + 2) 0) = true by decide), if_pos (show nI (stN.getD (3 + 2) 0) ≤ nI (0 + 1 + 1) by decide)]
      rw [show (stB.getD (3 + 2) []).getD 0 0 = nI 112 from rfl, show (stB.getD (3 + 2) []).getD (0 + 1) 0 = nI 115 from rfl]
      simp only [ne 112 (by decide), ne 115 (by decide), nmI, show ¬ (2 : Nat) = 0 by decide, show ¬ (2 : Nat) = 1 by decide, ↓reduceIte]
      by_cases a : x = 112
      · simp only [a, ↓reduceIte]; rfl
      · by_cases a' : x = 115
        · simp only [a', ↓reduceIte]; rfl
        · simp only [a, a', ↓reduceIte]; rfl
  have nn : ¬ nI (stN.getD (3 + key) 0) < nI (stN.getD (3 + key) 0) := fun q => by rw [lt_I] at q; omega
  have np : (0 : Int32) < nI (stN.getD (3 + key) 0) := by
    rcases (show key = 0 ∨ key = 1 ∨ key = 2 by omega) with q | q | q <;> subst q <;> decide
  simp only [f_J0_indexOf_0f7a4, f_J0_indexOf_7cf53, f_J0_isLatin1_aae02, f_J1_indexOf_4cfef, f_J1_canEncode_9a6ad, f_J1_indexOfChar_4cfef, k6, ↓reduceIte, bd2_s, show ¬ (1 : Int32) = 0 by decide, ln, l1, l2, n1, n2, lb_e, show ¬ (0 : Int32) < 0 by decide, nn, np]
  rw [show L_J1_indexOfChar_4cfef_7 FU (3 + key) (nI (stN.getD (3 + key) 0)) (nI x) 0 w = _ from lp]
  rfl
theorem cls_2 {x : Nat} (h : cls x = 2) : 97 ≤ x ∧ x ≤ 122 := by
  unfold cls at h
  by_cases q : 97 ≤ x ∧ x ≤ 122
  · exact q
  · rw [if_neg q] at h
    split at h <;> cases h
theorem cls_1 {x : Nat} (h : cls x = 1) : 48 ≤ x ∧ x ≤ 57 := by
  unfold cls at h
  by_cases q : 97 ≤ x ∧ x ≤ 122
  · rw [if_pos q] at h; cases h
  · rw [if_neg q] at h
    by_cases q' : 48 ≤ x ∧ x ≤ 57
    · exact q'
    · rw [if_neg q'] at h; cases h
theorem x_piece {b : Nat → Nat} {L key k s e at' : Nat} {st cd : List Nat} {w : Wd} (h : Lay w) (hL : L ≤ 96) (hk : key < 3) (hT : TB w b L) (X : XS w key st cd at') (g : gd st) (hl : st.length + cd.length + 1 ≤ 96) (e2 : wI w 61 2 = nI k) (k5 : k < 5) (e3 : wI w 61 3 = nI s) (e4 : wI w 61 4 = nI e) (hs : s < e) (he : e ≤ L) (d1 : k = 1 → ∀ j, s ≤ j → j < e → cls (b j) = 1) (d2 : k = 2 → cls (b s) = 2) (w6 : wI w 61 6 = 1) (c8 : cnt 10 st ≤ 8) (c9 : cnt 9 st ≤ 96) : Rs (f_X6_takesPiece 61) w key (SP b key k s e true st cd at') := by
  obtain ⟨t1, t2⟩ := hT.2 s (by omega)
  have q1 : ∀ y, y < 5 → (nI k = nI y ↔ k = y) := fun y hy => nI_eq' (by omega) (by omega)
  have es : nI e - nI s = nI (e - s) := nI_sub (by omega)
  unfold SP
  rw [if_pos rfl]
  have x5 := X.1
  by_cases k1 : k = 1
  · rw [if_pos k1]
    by_cases c : e - s ≤ 4
    · rw [if_pos c]
      have p4 : 10 ^ (e - s) ≤ 10 ^ 4 := Nat.pow_le_pow_right (by decide) c
      obtain ⟨w', a1, a2, a3, a4⟩ := x_num hL he g hl h hT X e4 FU (e - s) s 0 (by omega) (by unfold FU; omega) (fun j j1 j2 => cls_1 (d1 k1 j j1 j2)) (by omega)
      refine ⟨w', ?_, a2, a3, a4⟩
      have a1' : L_X6_takesNumber_22 FU 61 0 (nI s) w = some (1, w') := a1
      simp only [f_X6_takesPiece, lk_61 h, ↓reduceIte, e2, k1, show nI 1 = (1 : Int32) from rfl, f_X6_takesNumber, e3, e4, es, lb_e, a1', bd2_s]
      rw [show (4 : Int32) = nI 4 from rfl, if_pos ((nI_le' (by omega) (by omega)).mpr c), bd2_s, if_pos (Or.inr rfl)]
    · rw [if_neg c]
      refine ⟨w, ?_, FS.rf w⟩
      simp only [f_X6_takesPiece, lk_61 h, ↓reduceIte, e2, k1, show nI 1 = (1 : Int32) from rfl, f_X6_takesNumber, e3, e4, es, lb_e]
      rw [show (4 : Int32) = nI 4 from rfl, if_neg (fun q => c ((nI_le' (by omega) (by omega)).mp q)), bd2_s, if_pos (Or.inl rfl)]
  · rw [if_neg k1]
    have k1' : ¬ nI k = 1 := fun q => k1 ((q1 1 (by decide)).mp q)
    by_cases k2 : k = 2
    · rw [if_pos k2]
      obtain ⟨l1, l2⟩ := cls_2 (d2 k2)
      have nm : f_X6_takesName 61 w = j_X6_takesName_27 61 (3 + key) w := by
        unfold f_X6_takesName
        rw [lk_61 h, if_pos rfl, x5]
        rcases (show key = 0 ∨ key = 1 ∨ key = 2 by omega) with q | q | q <;> subst q
        · rw [if_pos (show nI 0 = 0 from rfl)]
        · rw [if_neg (by decide), if_pos (show nI 1 = 1 from rfl)]
        · rw [if_neg (by decide), if_neg (by decide)]
      have j59 : ∀ v : Int32, j_X6_takesName_27 61 (3 + key) w = if e - s = 1 then j_X6_takesName_59 61 (if nmI key (b s) < 3 then nI (nmI key (b s)) else -1) w else j_X6_takesName_59 61 (-1) w := fun _ => by
        unfold j_X6_takesName_27
        rw [lk_61 h, if_pos rfl, e3, e4, es]
        by_cases c : e - s = 1
        · rw [if_pos (show nI (e - s) = 1 by rw [c]; rfl), if_pos c]
          simp only [lr_61_0 h, bd1_s, la_62 h (show s < 96 by omega), ↓reduceIte, nx_nI (show s < 2 ^ 31 by omega), t1, show 3 + key < 6 by omega, x_ix hk l1 l2, bd2_s]
        · rw [if_neg (fun q : nI (e - s) = 1 => c (nI_inj (b := 1) (by omega) (by decide) q)), if_neg c]
      have no : j_X6_takesName_59 61 (-1) w = some (0, w) := by unfold j_X6_takesName_59; rw [if_neg (by decide)]
      by_cases c : e - s = 1 ∧ nmI key (b s) < 3
      · rw [if_pos c]
        have tx : ∀ j, j < 3 → (-1) - nI j = tokX (10000 + j) := by decide +kernel
        obtain ⟨w', a1, a2, a3, a4⟩ := x_thing h g hl X (tx (nmI key (b s)) c.2)
        refine ⟨w', ?_, a2, a3, a4⟩
        simp only [f_X6_takesPiece, lk_61 h, ↓reduceIte, e2, k1', nm]
        rw [k2, if_pos (show nI 2 = 2 from rfl), j59 0, if_pos c.1, if_pos c.2]
        unfold j_X6_takesName_59
        rw [if_pos (by rw [le_I, nI_toInt (by omega)]; show (0 : Int) ≤ _; omega), lk_61 h, if_pos rfl, a1, bd2_s, bd2_s, if_pos (Or.inr rfl)]
      · rw [if_neg c]
        refine ⟨w, ?_, FS.rf w⟩
        simp only [f_X6_takesPiece, lk_61 h, ↓reduceIte, e2, k1', nm]
        rw [k2, if_pos (show nI 2 = 2 from rfl), j59 0]
        by_cases c1 : e - s = 1
        · rw [if_pos c1, if_neg (fun q => c ⟨c1, q⟩), no, bd2_s, if_pos (Or.inl rfl)]
        · rw [if_neg c1, no, bd2_s, if_pos (Or.inl rfl)]
    · rw [if_neg k2]
      have k2' : ¬ nI k = 2 := fun q => k2 ((q1 2 (by decide)).mp q)
      by_cases k3 : k = 3
      · rw [if_pos k3]
        have bx : ∀ y, y < 256 → (nI (b s) = nI y ↔ b s = y) := fun y hy => nI_eq' (by omega) (by omega)
        have x12 := X.2.2.2.2.1
        have x13 := X.2.2.2.2.2.1
        have x11 := X.2.2.2.1
        have go : ∀ r, f_X6_takesOpening 61 (nI (b s)) w = r → f_X6_takesPiece 61 w = bd2 r fun r16 w17 => if r16 = 0 ∨ r16 = 1 then some (r16, w17) else none := fun r hr => by
          unfold f_X6_takesPiece
          rw [lk_61 h, if_pos rfl, e2, if_neg k1', if_neg k2', k3, if_pos (show nI 3 = 3 from rfl), lr_61_0 h, bd1_s, e3, la_62 h (show s < 96 by omega), if_pos rfl, nx_nI (by omega), t1, hr]
        have push : ∀ (q j : Nat) (c : Int32), (j = 12 ∨ j = 13) → nI (b s) = sgX q → wI (sI w 61 j c) 61 12 = nI (cnt 10 (q :: st)) → wI (sI w 61 j c) 61 13 = nI (cnt 9 (q :: st)) → ∃ w', j_X6_takesOpening_58 61 (nI (b s)) (sI w 61 j c) = some (1, w') ∧ FS w w' ∧ XS w' key (q :: st) cd at' ∧ wI w' 61 6 = 1 := fun q j c hj hq h10 h9 => by
          have F1 : FS w (sI w 61 j c) := FS.s _ _ (by omega)
          have h1 := F1.1.lay h
          have f1 : ∀ i, i ≠ j → wI (sI w 61 j c) 61 i = wI w 61 i := fun i hi => wI_sn _ _ (Or.inr hi)
          have X1' : wI (sI w 61 j c) 61 11 = nI st.length := by rw [f1 11 (by omega)]; exact x11
          unfold j_X6_takesOpening_58
          rw [lk_61 h1, if_pos rfl, x_hold h1 (show st.length < 96 by omega) X1' (nI (b s)), bd2_s]
          refine ⟨_, rfl, F1.tr ((FS.r _ _ _ (Or.inr rfl)).tr (FS.s _ _ (by decide))), ?_, ?_⟩
          · have e : ∀ i, i ≠ 11 → wI (sI (sI (sI w 61 j c) 64 st.length (nI (b s))) 61 11 (nI (st.length + 1))) 61 i = wI (sI w 61 j c) 61 i := fun i hi => by rw [wI_sn _ _ (Or.inr hi), wI_s2 _ _ _ (by decide)]
            obtain ⟨y5, y8, y9, y11, y12, y13, yc, ys⟩ := X
            refine ⟨by rw [e 5 (by decide), f1 5 (by omega)]; exact y5, by rw [e 8 (by decide), f1 8 (by omega)]; exact y8, by rw [e 9 (by decide), f1 9 (by omega)]; exact y9, by rw [wI_ss, List.length_cons], by rw [e 12 (by decide)]; exact h10, by rw [e 13 (by decide)]; exact h9, ?_, ?_⟩
            · rw [wI_s2 _ _ _ (by decide), wI_s2 _ _ _ (by decide), wI_s2 _ _ _ (by decide)]; exact yc
            · rw [wI_s2 _ _ _ (by decide), wI_s1, wI_s2 _ _ _ (by decide)]; exact Rw_p ys hq
          · rw [wI_sn _ _ (Or.inr (by decide)), wI_s2 _ _ _ (by decide), f1 6 (by omega)]; exact w6
        have nt : (b s = 33 ∧ cnt 9 st < 8 → ∃ w', j_X6_takesOpening_28 61 (nI (b s)) w = some (1, w') ∧ FS w w' ∧ XS w' key (9 :: st) cd at' ∧ wI w' 61 6 = 1) ∧ (¬ (b s = 33 ∧ cnt 9 st < 8) → j_X6_takesOpening_28 61 (nI (b s)) w = some (0, w)) := by
          unfold j_X6_takesOpening_28
          rw [show (33 : Int32) = nI 33 from rfl, show (8 : Int32) = nI 8 from rfl]
          by_cases c : b s = 33
          · rw [if_pos ((bx 33 (by decide)).mpr c), lk_61 h, if_pos rfl, x13]
            by_cases d : 8 ≤ cnt 9 st
            · rw [if_pos ((nI_le' (by omega) (by omega)).mpr d)]
              exact ⟨fun q => by omega, fun _ => rfl⟩
            · rw [if_neg (fun q => d ((nI_le' (by omega) (by omega)).mp q)), lb_e, nI_s1]
              refine ⟨fun _ => push 9 13 (nI (cnt 9 st + 1)) (Or.inr rfl) (by rw [c]; rfl) ?_ ?_, fun q => absurd ⟨c, by omega⟩ q⟩
              · rw [wI_sn _ _ (Or.inr (by decide)), x12, cnt, if_neg (by decide), Nat.zero_add]
              · rw [wI_ss, cnt, if_pos rfl, Nat.add_comm]
          · rw [if_neg (fun q => c ((bx 33 (by decide)).mp q))]
            exact ⟨fun q => absurd q.1 c, fun _ => rfl⟩
        by_cases c : b s = 40 ∧ cnt 10 st < 8
        · rw [if_pos c]
          obtain ⟨w', a1, a2, a3, a4⟩ := push 10 12 (nI (cnt 10 st + 1)) (Or.inl rfl) (by rw [c.1]; rfl) (by rw [wI_ss, cnt, if_pos rfl, Nat.add_comm]) (by rw [wI_sn _ _ (Or.inr (by decide)), x13, cnt, if_neg (by decide), Nat.zero_add])
          refine ⟨w', ?_, a2, a3, a4⟩
          rw [go (some (1, w')) (by
            unfold f_X6_takesOpening
            rw [show (40 : Int32) = nI 40 from rfl, show (8 : Int32) = nI 8 from rfl, if_pos ((bx 40 (by decide)).mpr c.1), lk_61 h, if_pos rfl, x12, if_neg (fun q => by have := (nI_le' (by omega) (by omega)).mp q; omega), lb_e, nI_s1]
            exact a1), bd2_s, if_pos (Or.inr rfl)]
        · rw [if_neg c]
          have o28 : f_X6_takesOpening 61 (nI (b s)) w = j_X6_takesOpening_28 61 (nI (b s)) w := by
            unfold f_X6_takesOpening
            rw [show (40 : Int32) = nI 40 from rfl, show (8 : Int32) = nI 8 from rfl]
            by_cases c1 : b s = 40
            · rw [if_pos ((bx 40 (by decide)).mpr c1), lk_61 h, if_pos rfl, x12, if_pos ((nI_le' (by omega) (by omega)).mpr (by omega))]
            · rw [if_neg (fun q => c1 ((bx 40 (by decide)).mp q))]
          by_cases c' : b s = 33 ∧ cnt 9 st < 8
          · rw [if_pos c']
            obtain ⟨w', a1, a2, a3, a4⟩ := nt.1 c'
            refine ⟨w', ?_, a2, a3, a4⟩
            rw [go (some (1, w')) (by rw [o28]; exact a1), bd2_s, if_pos (Or.inr rfl)]
          · rw [if_neg c']
            refine ⟨w, ?_, FS.rf w⟩
            rw [go (some (0, w)) (by rw [o28]; exact nt.2 c'), bd2_s, if_pos (Or.inl rfl)]
      · rw [if_neg k3]
        refine ⟨w, ?_, FS.rf w⟩
        unfold f_X6_takesPiece
        rw [lk_61 h, if_pos rfl, e2, if_neg k1', if_neg k2', if_neg (fun q : nI k = 3 => k3 ((q1 3 (by decide)).mp q))]
