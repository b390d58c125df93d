/-! TEXTS: the key, and the class's parse -/
def wdN (v i : Nat) : Nat := (([[102, 97, 114, 101], [102, 101, 101], [102, 105, 110, 101]] : List (List Nat)).getD v []).getD i 0
def lnN (v : Nat) : Nat := if v = 1 then 3 else 4
def eqF (b : Nat → Nat) (s v : Nat) : Nat → Nat → Bool
  | 0, _ => true
  | m + 1, i => decide (b (s + i) = wdN v i) && eqF b s v m (i + 1)
def isW (b : Nat → Nat) (s e v : Nat) : Bool := decide (e - s = lnN v) && eqF b s v (lnN v) 0
def kyS (b : Nat → Nat) (s e : Nat) : Nat := if isW b s e 0 = true then 0 else if isW b s e 1 = true then 1 else if isW b s e 2 = true then 2 else 3
theorem x_len {v : Nat} (hv : v < 3) (w : Wd) : f_J0_length_8abf5 v w = some (nI (lnN v), w) := by
  rcases (show v = 0 ∨ v = 1 ∨ v = 2 by omega) with q | q | q <;> subst q <;> rfl
theorem x_chr {v i : Nat} (hv : v < 3) (hi : i < lnN v) (w : Wd) : f_J0_charAt_5068e v (nI i) w = some (nI (wdN v i), w) := by
  rcases (show v = 0 ∨ v = 1 ∨ v = 2 by omega) with q | q | q <;> subst q
  · rcases (show i = 0 ∨ i = 1 ∨ i = 2 ∨ i = 3 by have : lnN 0 = 4 := rfl; omega) with q | q | q | q <;> subst q <;> rfl
  · rcases (show i = 0 ∨ i = 1 ∨ i = 2 by have : lnN 1 = 3 := rfl; omega) with q | q | q <;> subst q <;> rfl
  · rcases (show i = 0 ∨ i = 1 ∨ i = 2 ∨ i = 3 by have : lnN 2 = 4 := rfl; omega) with q | q | q | q <;> subst q <;> rfl
theorem wd_lt : ∀ v, v < 3 → ∀ i, i < 4 → wdN v i < 256 := by decide
theorem ln_b {v : Nat} : lnN v ≤ 4 ∧ 3 ≤ lnN v := by unfold lnN; split <;> omega
theorem x_here {b : Nat → Nat} {L s e v : Nat} {w : Wd} (h : Lay w) (hL : L ≤ 96) (hT : TB w b L) (hv : v < 3) (e3 : wI w 61 3 = nI s) (e4 : wI w 61 4 = nI e) (hs : s ≤ e) (he : e ≤ L) : f_X6_isHere 61 v w = some (if isW b s e v = true then 1 else 0, w) := by
  have lb := ln_b (v := v)
  unfold f_X6_isHere isW
  rw [lk_61 h, if_pos rfl, if_pos (by omega), x_len hv, bd2_s, e3, e4, nI_sub hs]
  by_cases c : e - s = lnN v
  · rw [if_pos (by rw [c]), decide_eq_true c, Bool.true_and]
    have L20 : ∀ n m i, i + m = lnN v → m < n → L_X6_isHere_20 n 61 v (nI i) w = some (if eqF b s v m i = true then 1 else 0, w) := by
      intro n
      induction n with
      | zero => intro m i _ q; omega
      | succ n ih =>
        intro m i g1 g2
        rw [show L_X6_isHere_20 (n + 1) 61 v (nI i) w = _ from by unfold L_X6_isHere_20; rfl, if_pos (show v < 6 by omega), x_len hv, bd2_s]
        cases m with
        | zero =>
          rw [if_pos ((nI_le' (by omega) (by omega)).mpr (by omega))]
          rfl
        | succ m =>
          obtain ⟨t1, t2⟩ := hT.2 (s + i) (by omega)
          rw [if_neg (fun q => by have := (nI_le' (by omega) (by omega)).mp q; omega)]
          simp only [lk_61 h, ↓reduceIte, lr_61_0 h, bd1_s, e3, nI_add, la_62 h (show s + i < 96 by omega), show v < 6 by omega, x_chr hv (show i < lnN v by omega), bd2_s, nx_nI (show s + i < 2 ^ 31 by omega), t1, lb_e, nI_s1]
          have wl := wd_lt v hv i (by omega)
          rw [eqF]
          by_cases z : b (s + i) = wdN v i
          · rw [if_pos (by rw [z]), decide_eq_true z, Bool.true_and]
            exact ih m (i + 1) (by omega) (by omega)
          · rw [if_neg (fun q => z (nI_inj (by omega) (by omega) q)), decide_eq_false z, Bool.false_and, if_neg (by decide)]
    exact L20 FU (lnN v) 0 (by omega) (by unfold FU; omega)
  · rw [if_neg (fun q => c (nI_inj (by omega) (by omega) q)), decide_eq_false c, Bool.false_and, if_neg (by decide)]
theorem x_key {b : Nat → Nat} {L s e : Nat} {w : Wd} (h : Lay w) (hL : L ≤ 96) (hT : TB w b L) (e3 : wI w 61 3 = nI s) (e4 : wI w 61 4 = nI e) (hs : s ≤ e) (he : e ≤ L) : f_X6_keyHere 61 w = some (if kyS b s e < 3 then nI (kyS b s e) else -1, w) := by
  unfold f_X6_keyHere kyS
  rw [lk_61 h, if_pos rfl, x_here h hL hT (by decide) e3 e4 hs he, bd2_s]
  by_cases c0 : isW b s e 0 = true
  · rw [if_pos c0, if_pos c0, if_neg (by decide), if_pos (by decide)]; rfl
  · rw [if_neg c0, if_neg c0, if_pos rfl, lk_61 h, if_pos rfl, x_here h hL hT (by decide) e3 e4 hs he, bd2_s]
    by_cases c1 : isW b s e 1 = true
    · rw [if_pos c1, if_pos c1, if_neg (by decide), if_pos (by decide)]; rfl
    · rw [if_neg c1, if_neg c1, if_pos rfl, if_pos (lk_61 h), x_here h hL hT (by decide) e3 e4 hs he, bd2_s]
      by_cases c2 : isW b s e 2 = true
      · rw [if_pos c2, if_pos c2, if_neg (by decide), if_pos (by decide)]; rfl
      · rw [if_neg c2, if_neg c2, if_pos rfl, if_neg (by decide)]
theorem ky_lt (b : Nat → Nat) (s e : Nat) : kyS b s e ≤ 3 := by unfold kyS; split <;> (try split) <;> (try split) <;> omega
theorem isW_e {b : Nat → Nat} {s e v : Nat} (hv : v < 3) (h : isW b s e v = true) : 3 ≤ e - s ∧ b s = 102 := by
  unfold isW at h
  obtain ⟨h1, h2⟩ := Bool.and_eq_true_iff.mp h
  have h1' := of_decide_eq_true h1
  have lb := ln_b (v := v)
  refine ⟨by omega, ?_⟩
  have : ∃ m, lnN v = m + 1 := ⟨lnN v - 1, by omega⟩
  obtain ⟨m, em⟩ := this
  rw [em, eqF] at h2
  have h3 := of_decide_eq_true (Bool.and_eq_true_iff.mp h2).1
  rw [Nat.add_zero] at h3
  rw [h3]
  rcases (show v = 0 ∨ v = 1 ∨ v = 2 by omega) with q | q | q <;> subst q <;> rfl
theorem ky_e {b : Nat → Nat} {s e : Nat} (h : kyS b s e < 3) : 3 ≤ e - s ∧ b s = 102 := by
  unfold kyS at h
  by_cases c0 : isW b s e 0 = true
  · exact isW_e (by decide) c0
  · rw [if_neg c0] at h
    by_cases c1 : isW b s e 1 = true
    · exact isW_e (by decide) c1
    · rw [if_neg c1] at h
      by_cases c2 : isW b s e 2 = true
      · exact isW_e (by decide) c2
      · rw [if_neg c2] at h; omega
/-- the document's reader: a key, then the rest -/
def PT (b : Nat → Nat) (L : Nat) : Option (Nat × List Nat × Nat) × Nat :=
  if kyS b (tSk b L 0) (tTe b L 0) < 3 then
    (match PF b L (kyS b (tSk b L 0) (tTe b L 0)) 97 (tTe b L 0) true true [] [] 0 with
      | (none, p) => (none, p)
      | (some x, p) => (some (kyS b (tSk b L 0) (tTe b L 0), x.1, x.2), p))
  else (none, tSk b L 0)
theorem ky_kd {b : Nat → Nat} {L : Nat} (h : kyS b (tSk b L 0) (tTe b L 0) < 3) : tKd b L 0 false = 2 ∧ tSk b L 0 < L := by
  obtain ⟨h1, h2⟩ := ky_e h
  have hl : ¬ L ≤ tSk b L 0 := fun q => by
    unfold tTe at h1
    rw [if_pos q] at h1
    omega
  have c : cls (b (tSk b L 0)) = 2 := by rw [h2]; rfl
  refine ⟨?_, by omega⟩
  unfold tKd
  rw [if_neg hl, c, if_neg (by decide), if_neg (fun q => by cases q.1)]
theorem IS_0 (nm : Nat) : IS nm true [] [] 0 := ⟨trivial, fun q => (by cases q), rfl, trivial, Nat.zero_le _, Nat.le_refl _⟩
theorem x_parse {b : Nat → Nat} {L : Nat} {w : Wd} (h : Lay w) (hL : L ≤ 96) (hT : TB w b L) : ∃ r w', f_X6_parse 61 w = some (r, w') ∧ Fr Tx_ w w' ∧ match (PT b L).1 with
    | none => r = nI (PT b L).2
    | some x => r = -1 ∧ ∃ st, XS w' x.1 st x.2.1 x.2.2 := by
  obtain ⟨w3, e3⟩ : ∃ w3, f_X6_begin 61 w = some ((), w3) ∧ Fr Tx_ w w3 ∧ wI w3 61 1 = wI w 61 1 ∧ wI w3 61 2 = 0 ∧ wI w3 61 4 = 0 ∧ wI w3 61 6 = 1 ∧ wI w3 61 8 = 0 ∧ wI w3 61 9 = 0 ∧ wI w3 61 11 = 0 ∧ wI w3 61 12 = 0 ∧ wI w3 61 13 = 0 := by
    refine ⟨sI (sI (sI (sI (sI (sI (sI (sI (sI w 61 2 0) 61 3 0) 61 4 0) 61 6 1) 61 8 0) 61 9 0) 61 11 0) 61 12 0) 61 13 0, ?_, ?_, ?_⟩
    · simp only [f_X6_begin, lk_61 h, ↓reduceIte, lb_e]
    · exact ((((((((Fr.sI _ _ _ (Or.inl rfl)).tr (Fr.sI _ _ _ (Or.inl rfl))).tr (Fr.sI _ _ _ (Or.inl rfl))).tr (Fr.sI _ _ _ (Or.inl rfl))).tr (Fr.sI _ _ _ (Or.inl rfl))).tr (Fr.sI _ _ _ (Or.inl rfl))).tr (Fr.sI _ _ _ (Or.inl rfl))).tr (Fr.sI _ _ _ (Or.inl rfl))).tr (Fr.sI _ _ _ (Or.inl rfl))
    · simp only [wI_s1]
      refine ⟨rfl, rfl, rfl, rfl, rfl, rfl, rfl, rfl, rfl⟩
  obtain ⟨b1, F3, c1, c2, c4, c6, c8, c9, c11, c12, c13⟩ := e3
  have h3 := F3.lay h
  have T3 : TB w3 b L := ⟨by rw [c1]; exact hT.1, fun k hk => by rw [F3.2.2.2.2 62 (by unfold Tx_; omega)]; exact hT.2 k hk⟩
  obtain ⟨w7, a1, A1, d2, d3, d4⟩ := x_advance (g := false) h3 hL (Nat.zero_le L) T3 c4 (by rw [c2]; decide)
  have h7 := A1.1.lay h3
  have T7 := A1.tb T3
  obtain ⟨t1, t2, t3⟩ := te_b (b := b) (Nat.zero_le L)
  have ky := x_key h7 hL T7 d3 d4 t1 t2
  have F7 : Fr Tx_ w w7 := F3.tr (A1.1.mono (fun a ha => Or.inl ha))
  have fr : ∀ v, Fr Tx_ w (sI w7 61 5 v) := fun v => F7.tr (Fr.sI _ _ _ (Or.inl rfl))
  have e14 : ∀ v, wI (sI w7 61 5 v) 61 3 = nI (tSk b L 0) := fun v => by rw [wI_sn _ _ (Or.inr (by decide))]; exact d3
  have start : f_X6_parse 61 w = f_X6_parse 61 w := rfl
  conv at start => rhs; unfold f_X6_parse
  rw [lk_61 h, if_pos rfl, b1, bd2_s, lk_61 h3, if_pos rfl, a1, bd2_s, lk_61 h7, if_pos rfl, ky, bd2_s, lk_61 h7, if_pos rfl, lb_e, wI_ss] at start
  unfold PT
  by_cases c : kyS b (tSk b L 0) (tTe b L 0) < 3
  · rw [if_pos c]
    rw [if_pos c, if_pos (show (0 : Int32) ≤ nI (kyS b (tSk b L 0) (tTe b L 0)) by rw [le_I, nI_toInt (by omega)]; show (0 : Int) ≤ _; omega)] at start
    obtain ⟨kk, kl⟩ := ky_kd c
    obtain ⟨w14, e14'⟩ : ∃ w14, w14 = sI w7 61 5 (nI (kyS b (tSk b L 0) (tTe b L 0))) := ⟨_, rfl⟩
    have f14 : ∀ j, j ≠ 5 → wI w14 61 j = wI w7 61 j := fun j hj => by rw [e14']; exact wI_sn _ _ (Or.inr hj)
    have f7 : ∀ j, 6 ≤ j → wI w14 61 j = wI w3 61 j := fun j hj => by rw [f14 j (by omega), A1.2 j (by omega) (by omega) (by omega)]
    have F14 : Fr Tx_ w w14 := by rw [e14']; exact fr _
    have h14 := F14.lay h
    have T14 : TB w14 b L := ⟨by rw [f14 1 (by decide)]; exact T7.1, fun k hk => by rw [F14.2.2.2.2 62 (by unfold Tx_; omega)]; exact hT.2 k hk⟩
    have X14 : XS w14 (kyS b (tSk b L 0) (tTe b L 0)) [] [] 0 := ⟨by rw [e14', wI_ss], by rw [f7 8 (by decide)]; exact c8, by rw [f7 9 (by decide)]; exact c9, by rw [f7 11 (by decide)]; exact c11, by rw [f7 12 (by decide)]; exact c12, by rw [f7 13 (by decide)]; exact c13, trivial, trivial⟩
    obtain ⟨r, w', r1, r2, r3, r4⟩ := x_loop (b := b) (L := L) (key := kyS b (tSk b L 0) (tTe b L 0)) hL c 97 FU 0 (tTe b L 0) true true [] [] 0 w14 (by omega) (by unfold FU; omega) (Nat.zero_le _) t2 h14 T14 X14 (by rw [f7 6 (by decide)]; exact c6) (by rw [f14 4 (by decide)]; exact d4) (by rw [f14 2 (by decide), d2, kk]; decide) (IS_0 _) (Nat.zero_le _)
    rw [← e14'] at start
    refine ⟨r, w', by rw [start]; exact r1, F14.tr r2, ?_⟩
    revert r4
    rcases PF b L (kyS b (tSk b L 0) (tTe b L 0)) 97 (tTe b L 0) true true [] [] 0 with ⟨o, p⟩
    cases o with
    | none => intro r4; exact r4
    | some x => intro r4; exact r4
  · rw [if_neg c]
    rw [if_neg c, if_neg (show ¬ (0 : Int32) ≤ -1 by decide)] at start
    exact ⟨_, _, start, fr _, by show wI (sI w7 61 5 (-1)) 61 3 = _; exact e14 _⟩
