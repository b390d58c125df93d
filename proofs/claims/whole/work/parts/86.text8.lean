/-! TEXTS: the reference, key and pieces -/
theorem m_key {w : Wd} {b : Nat → Nat} {L : Nat} (h : Lay w) (hL : L ≤ 96) (hT : TM w b L) (hK : KY w) (G : GO w b L 0 false) : (kyS b (tSk b L 0) (tTe b L 0) < 3 → ∃ w', f_X9_takesKey 96 w = some (1, w') ∧ FE (sI w 96 14 (nI (kyS b (tSk b L 0) (tTe b L 0)))) w' ∧ GO w' b L (tTe b L 0) true) ∧ (¬ kyS b (tSk b L 0) (tTe b L 0) < 3 → f_X9_takesKey 96 w = some (0, w)) := by
  obtain ⟨g9, g10, g11, g12, -, g13⟩ := G
  obtain ⟨t1, t2, t3⟩ := te_b (b := b) (Nat.zero_le L)
  obtain ⟨k5, k0, k2, k1⟩ := kd_lt b L 0 false
  obtain ⟨s, es⟩ : ∃ s, s = tSk b L 0 := ⟨_, rfl⟩
  obtain ⟨e, ee⟩ : ∃ e, e = tTe b L 0 := ⟨_, rfl⟩
  rw [← es] at g10 t1 t3
  rw [← ee] at g9 t1 t2 t3
  have one : ∀ n v, v < 3 → L_X9_takesKey_12 (n + 1) 96 (nI v) w = if isW b s e v = true then (bd2 (f_X9_go 96 (sI w 96 14 (nI v))) fun _ w19 => some (1, w19)) else L_X9_takesKey_12 n 96 (nI (v + 1)) w := by
    intro n v hv
    have lb := ln_b (v := v)
    have ka : ∀ v, v < 3 → nI (kyA.getD (v + 1) 0) - nI (kyA.getD v 0) = nI (lnN v) ∧ kyA.getD v 0 < 12 ∧ kyA.getD v 0 + lnN v ≤ 11 := by decide +kernel
    obtain ⟨a1, a2, a3⟩ := ka v hv
    have kb : ∀ v, v < 3 → ∀ k, k < lnN v → kyB.getD (kyA.getD v 0 + k) 0 = wdN v k := by decide +kernel
    have jy : ∀ x : Int32, ¬ x = 0 → j_X9_takesKey_106 (L_X9_takesKey_12 n) 96 (nI v) x w = (bd2 (f_X9_go 96 (sI w 96 14 (nI v))) fun _ w19 => some (1, w19)) := fun x hx => by
      unfold j_X9_takesKey_106
      rw [if_neg hx, lk_96 h, if_pos rfl, lb_e]
    have jn : j_X9_takesKey_106 (L_X9_takesKey_12 n) 96 (nI v) 0 w = L_X9_takesKey_12 n 96 (nI (v + 1)) w := by
      unfold j_X9_takesKey_106
      rw [if_pos rfl, lb_e, nI_s1]
    have L55 : e ≤ L → e - s = lnN v → ∀ n' m k, k + m = lnN v → m < n' → L_X9_takesKey_55 (L_X9_takesKey_12 n) (n' + 1) 96 (nI v) (nI (lnN v)) 1 (nI k) w = if eqF b s v m k = true then (bd2 (f_X9_go 96 (sI w 96 14 (nI v))) fun _ w19 => some (1, w19)) else L_X9_takesKey_12 n 96 (nI (v + 1)) w := by
      intro hel hen n'
      induction n' with
      | zero => intro m k _ q; omega
      | succ n' ih =>
        intro m k q1 q2
        rw [show L_X9_takesKey_55 (L_X9_takesKey_12 n) (n' + 1 + 1) 96 (nI v) (nI (lnN v)) 1 (nI k) w = _ from by unfold L_X9_takesKey_55; rfl]
        cases m with
        | zero =>
          rw [if_pos ((nI_le' (by omega) (by omega)).mpr (by omega)), jy 1 (by decide)]
          rfl
        | succ m =>
          obtain ⟨u1, u2⟩ := hT.2 (s + k) (by omega)
          rw [if_neg (fun q => by have := (nI_le' (by omega) (by omega)).mp q; omega), if_neg (by decide)]
          have e103 : wI w 103 (kyA.getD v 0 + k) = nI (wdN v k) := by rw [hK.1 _ (by omega), kb v hv k (by omega)]
          simp only [lk_96 h, ↓reduceIte, lr_96_7 h, lr_96_15 h, lr_96_16 h, bd1_s, g10, nI_add, la_102 h (show s + k < 96 by omega), la_104 h (show v < 4 by omega), nx_nI (show v < 2 ^ 31 by omega), hK.2 v (by omega), la_103 h (show kyA.getD v 0 + k < 11 by omega), nx_nI (show s + k < 2 ^ 31 by omega), nx_nI (show kyA.getD v 0 + k < 2 ^ 31 by omega), u1, e103, lb_e, nI_s1]
          have wl := wd_lt v hv k (by omega)
          rw [eqF]
          by_cases z : b (s + k) = wdN v k
          · rw [if_pos (by rw [z]), decide_eq_true z, Bool.true_and]
            exact ih m (k + 1) (by omega) (by omega)
          · rw [if_neg (fun q => z (nI_inj (by omega) (by omega) q)), decide_eq_false z, Bool.false_and, if_neg (show ¬ false = true by decide)]
            rw [show L_X9_takesKey_55 (L_X9_takesKey_12 n) (n' + 1) 96 (nI v) (nI (lnN v)) 0 (nI (k + 1)) w = _ from by unfold L_X9_takesKey_55; rfl]
            by_cases y : nI (lnN v) ≤ nI (k + 1)
            · rw [if_pos y]; exact jn
            · rw [if_neg y, if_pos rfl]; exact jn
    rw [show L_X9_takesKey_12 (n + 1) 96 (nI v) w = _ from by unfold L_X9_takesKey_12; rfl, show (3 : Int32) = nI 3 from rfl, if_neg (fun q => by have := (nI_le' (by omega) (by omega)).mp q; omega)]
    simp only [lk_96 h, ↓reduceIte, lr_96_16 h, bd1_s, nI_s1, la_104 h (show v + 1 < 4 by omega), la_104 h (show v < 4 by omega), nx_nI (show v + 1 < 2 ^ 31 by omega), nx_nI (show v < 2 ^ 31 by omega), hK.2 v (by omega), hK.2 (v + 1) (by omega), a1, g9, g10, nI_sub t1, lb_e]
    unfold isW
    by_cases c : e - s = lnN v
    · rw [if_pos (by rw [c]), decide_eq_true c, Bool.true_and]
      exact L55 t2 c (FU - 1) (lnN v) 0 (by omega) (by unfold FU; omega)
    · rw [if_neg (fun q => c (nI_inj (by omega) (by omega) q.symm)), decide_eq_false c, Bool.false_and, if_neg (show ¬ false = true by decide), show FU = (FU - 1) + 1 from rfl, show L_X9_takesKey_55 (L_X9_takesKey_12 n) (FU - 1 + 1) 96 (nI v) (nI (lnN v)) 0 0 w = _ from by unfold L_X9_takesKey_55; rfl]
      by_cases y : nI (lnN v) ≤ 0
      · rw [if_pos y]; exact jn
      · rw [if_neg y, if_pos rfl]; exact jn
  have m1 : mT (tKd b L 0 false) (tTe b L 0 - tSk b L 0) = 1 ↔ tKd b L 0 false = 2 := by
    unfold mT
    rcases (show tKd b L 0 false = 0 ∨ tKd b L 0 false = 1 ∨ tKd b L 0 false = 2 ∨ tKd b L 0 false = 3 ∨ tKd b L 0 false = 4 by omega) with q | q | q | q | q <;> rw [q]
    · show (0 : Nat) = 1 ↔ (0 : Nat) = 2; decide
    · rw [if_neg (by decide), if_pos rfl]; split <;> decide
    · show (1 : Nat) = 1 ↔ (2 : Nat) = 2; decide
    · show (3 : Nat) = 1 ↔ (3 : Nat) = 2; decide
    · show (4 : Nat) = 1 ↔ (4 : Nat) = 2; decide
  have lst : L_X9_takesKey_12 (FU - 3) 96 (nI 3) w = some (0, w) := by
    rw [show FU - 3 = (FU - 4) + 1 from rfl]
    unfold L_X9_takesKey_12
    rw [if_pos (by decide)]
  have chain : L_X9_takesKey_12 FU 96 0 w = _ := (one (FU - 1) 0 (by decide)).trans rfl
  rw [show L_X9_takesKey_12 (FU - 1) 96 (nI (0 + 1)) w = _ from one (FU - 2) 1 (by decide), show L_X9_takesKey_12 (FU - 2) 96 (nI (1 + 1)) w = _ from one (FU - 3) 2 (by decide), show nI (2 + 1) = nI 3 from rfl, lst] at chain
  have m5 : mT (tKd b L 0 false) (tTe b L 0 - tSk b L 0) < 5 := by
    unfold mT
    split <;> (try split) <;> (try split) <;> (try split) <;> decide
  constructor
  · intro hy
    obtain ⟨kk, kl⟩ := ky_kd hy
    have fin : L_X9_takesKey_12 FU 96 0 w = (bd2 (f_X9_go 96 (sI w 96 14 (nI (kyS b s e)))) fun _ w19 => some (1, w19)) := by
      rw [chain]
      rw [← es, ← ee] at hy
      unfold kyS at hy ⊢
      by_cases c0 : isW b s e 0 = true
      · rw [if_pos c0, if_pos c0]
      · rw [if_neg c0] at hy ⊢
        rw [if_neg c0]
        by_cases c1 : isW b s e 1 = true
        · rw [if_pos c1, if_pos c1]
        · rw [if_neg c1] at hy ⊢
          rw [if_neg c1]
          by_cases c2 : isW b s e 2 = true
          · rw [if_pos c2, if_pos c2]
          · rw [if_neg c2] at hy; omega
    have h14 : Lay (sI w 96 14 (nI (kyS b s e))) := h.sI _ _ _
    have T14 : TM (sI w 96 14 (nI (kyS b s e))) b L := ⟨by rw [wI_sn _ _ (Or.inr (by decide))]; exact hT.1, fun k hk => by rw [wI_s2 _ _ _ (by decide)]; exact hT.2 k hk⟩
    obtain ⟨w', r1, r2, r3⟩ := m_go (e := e) (g := true) h14 hL t2 T14 (by rw [wI_sn _ _ (Or.inr (by decide))]; exact g9) (fun x x1 x2 => by
      rw [wI_sn _ _ (Or.inr (by decide)), g13 (Or.inr (Or.inl kk)) x (by rw [← ee]; exact x1) x2, kk, ← ee]
      exact ⟨fun y => ⟨rfl, y.2⟩, fun y => ⟨by decide, y.2⟩⟩)
    rw [← es, ← ee]
    refine ⟨w', ?_, r2, r3⟩
    unfold f_X9_takesKey
    rw [lk_96 h, if_pos rfl, g11, if_pos (show nI (mT (tKd b L 0 false) (tTe b L 0 - tSk b L 0)) = 1 by rw [m1.mpr kk]; rfl), fin, r1, bd2_s]
  · intro hn
    unfold f_X9_takesKey
    rw [lk_96 h, if_pos rfl, g11]
    by_cases c : nI (mT (tKd b L 0 false) (tTe b L 0 - tSk b L 0)) = 1
    · rw [if_pos c, chain]
      rw [← es, ← ee] at hn
      unfold kyS at hn
      by_cases c0 : isW b s e 0 = true
      · rw [if_pos c0] at hn; omega
      · rw [if_neg c0] at hn
        rw [if_neg c0]
        by_cases c1 : isW b s e 1 = true
        · rw [if_pos c1] at hn; omega
        · rw [if_neg c1] at hn
          rw [if_neg c1]
          by_cases c2 : isW b s e 2 = true
          · rw [if_pos c2] at hn; omega
          · rw [if_neg c2]
    · rw [if_neg c]
def sgM (s : Nat) : Int32 := tokM (20000 + s)
def MS (w : Wd) (key : Nat) (st cd : List Nat) (at' : Nat) : Prop := wI w 96 14 = nI key ∧ wI w 96 18 = nI cd.length ∧ wI w 96 19 = nI at' ∧ wI w 96 21 = nI st.length ∧ Rw tokM (wI w 105) cd ∧ Rw sgM (wI w 106) st
def Ts_ (a : Nat) : Prop := a = 96 ∨ a = 105
def FT (w w' : Wd) : Prop := Fr Ts_ w w' ∧ ∀ j, j ≠ 18 → j ≠ 21 → wI w' 96 j = wI w 96 j
theorem FT.rf (w : Wd) : FT w w := ⟨Fr.rf w, fun _ _ _ => rfl⟩
theorem FT.tr {w w1 w2 : Wd} (h1 : FT w w1) (h2 : FT w1 w2) : FT w w2 := ⟨h1.1.tr h2.1, fun j a c => (h2.2 j a c).trans (h1.2 j a c)⟩
theorem FT.s (w : Wd) {j : Nat} (v : Int32) (hj : j = 18 ∨ j = 21) : FT w (sI w 96 j v) := ⟨Fr.sI _ _ _ (Or.inl rfl), fun k a c => wI_sn _ _ (Or.inr (by omega))⟩
theorem FT.r (w : Wd) (j : Nat) (v : Int32) : FT w (sI w 105 j v) := ⟨Fr.sI _ _ _ (Or.inr rfl), fun k _ _ => wI_sn _ _ (Or.inl (by decide))⟩
def rkM (s : Nat) : Nat := if s ≤ 8 then rkS s else 6
theorem m_rank : ∀ s, s ≤ 10 → ∀ w, f_X9_rank (sgM s) w = some (nI (rkM s), w) := by
  intro s hs w
  rcases (show s = 0 ∨ s = 1 ∨ s = 2 ∨ s = 3 ∨ s = 4 ∨ s = 5 ∨ s = 6 ∨ s = 7 ∨ s = 8 ∨ s = 9 ∨ s = 10 by omega) with q | q | q | q | q | q | q | q | q | q | q <;> subst q <;> rfl
/-- one sign settled -/
theorem m_s1 {key at' t s n : Nat} {r cd : List Nat} {w : Wd} (h : Lay w) (ht : t ≤ 6) (hs : s ≤ 10) (hl : r.length + 1 + cd.length ≤ 96) (X : MS w key (s :: r) cd at') : (s ≠ 10 ∧ t ≤ rkM s → ∃ w', L_X9_settle_0 (n + 1) 96 (nI t) w = L_X9_settle_0 n 96 (nI t) w' ∧ FT w w' ∧ MS w' key r ((20000 + s) :: cd) at') ∧ (¬ (s ≠ 10 ∧ t ≤ rkM s) → L_X9_settle_0 (n + 1) 96 (nI t) w = some ((), w)) := by
  obtain ⟨x14, x18, x19, x21, xc, xs⟩ := X
  rw [List.length_cons] at x21
  have sx : ∀ s, s ≤ 10 → (sgM s = -11 ↔ s = 10) := by decide +kernel
  have r6 : ∀ s, s ≤ 10 → rkM s ≤ 6 := by decide
  have r6' := r6 s hs
  have unf : L_X9_settle_0 (n + 1) 96 (nI t) w = L_X9_settle_0 (n + 1) 96 (nI t) w := rfl
  conv at unf => rhs; unfold L_X9_settle_0
  rw [lk_96 h, if_pos rfl, x21, if_neg (fun q : nI (r.length + 1) ≤ 0 => by have := (nI_le' (b := 0) (by omega) (by omega)).mp q; omega), pr_nI (by omega), Nat.add_sub_cancel, lr_96_20 h, bd1_s, la_106 h (show r.length < 96 by omega), if_pos rfl, nx_nI (by omega), xs.1] at unf
  by_cases c : s = 10
  · rw [if_pos ((sx s hs).mpr c)] at unf
    exact ⟨fun q => absurd c q.1, fun _ => unf⟩
  · rw [if_neg (fun q => c ((sx s hs).mp q)), bd1_s, la_106 h (show r.length < 96 by omega), if_pos rfl, xs.1, m_rank s hs, bd2_s] at unf
    by_cases y : t ≤ rkM s
    · refine ⟨fun _ => ?_, fun q => absurd ⟨c, y⟩ q⟩
      rw [if_neg (fun q => by have := (nI_lt' (by omega) (by omega)).mp q; omega), if_pos (lk_96 h), x21, pr_nI (by omega), Nat.add_sub_cancel, lb_e] at unf
      obtain ⟨w2, e2⟩ : ∃ w2, w2 = sI w 96 21 (nI r.length) := ⟨_, rfl⟩
      have F2 : FT w w2 := by rw [e2]; exact FT.s _ _ (Or.inr rfl)
      have h2 := F2.1.lay h
      have f2 : ∀ j, j ≠ 21 → wI w2 96 j = wI w 96 j := fun j j1 => by rw [e2, wI_sn _ _ (Or.inr j1)]
      have f221 : wI w2 96 21 = nI r.length := by rw [e2, wI_ss]
      have f106 : wI w2 106 = wI w 106 := by rw [e2, wI_s2 _ _ _ (by decide)]
      have f18 : wI w2 96 18 = nI cd.length := by rw [f2 18 (by decide)]; exact x18
      have xr : wI w2 106 r.length = sgM s := by rw [f106]; exact xs.1
      rw [← e2, lr_96_17 h2, bd1_s, lr_96_20 h2, bd1_s, f221, la_106 h2 (show r.length < 96 by omega), if_pos rfl, f18, la_105 h2 (show cd.length < 96 by omega), if_pos rfl, nx_nI (show r.length < 2 ^ 31 by omega), nx_nI (show cd.length < 2 ^ 31 by omega), xr, lb_e, wI_sn _ _ (Or.inl (show (96 : Nat) ≠ 105 by decide)), f18, nI_s1, lb_e] at unf
      refine ⟨_, unf, F2.tr ((FT.r _ _ _).tr (FT.s _ _ (Or.inl rfl))), ?_⟩
      have e : ∀ j, j ≠ 18 → wI (sI (sI w2 105 cd.length (sgM s)) 96 18 (nI (cd.length + 1))) 96 j = wI w2 96 j := fun j hj => by rw [wI_sn _ _ (Or.inr hj), wI_s2 _ _ _ (by decide)]
      refine ⟨by rw [e 14 (by decide), f2 14 (by decide)]; exact x14, by rw [wI_ss, List.length_cons], by rw [e 19 (by decide), f2 19 (by decide)]; exact x19, by rw [e 21 (by decide)]; exact f221, ?_, ?_⟩
      · rw [wI_s2 _ _ _ (by decide), wI_s1, e2, wI_s2 _ _ _ (by decide)]
        exact Rw_p xc rfl
      · rw [wI_s2 _ _ _ (by decide), wI_s2 _ _ _ (by decide), f106]
        exact xs.2
    · rw [if_pos ((nI_lt' (by omega) (by omega)).mpr (by omega))] at unf
      exact ⟨fun q => absurd q.2 y, fun _ => unf⟩
theorem m_nil {key at' t n : Nat} {cd : List Nat} {w : Wd} (h : Lay w) (X : MS w key [] cd at') : L_X9_settle_0 (n + 1) 96 (nI t) w = some ((), w) := by
  unfold L_X9_settle_0
  rw [lk_96 h, if_pos rfl, X.2.2.2.1, if_pos (by decide)]
theorem m_pn {key at' : Nat} : ∀ (st cd : List Nat) (n : Nat) (w : Wd), Lay w → gd st → st.length < n → st.length + cd.length ≤ 96 → MS w key st cd at' → ∃ w', L_X9_settle_0 n 96 (nI 6) w = some ((), w') ∧ FT w w' ∧ MS w' key (pnS st) (pnC st cd) at' := by
  intro st
  induction st with
  | nil =>
    intro cd n w h _ hn hl X
    obtain ⟨n, rfl⟩ : ∃ k, n = k + 1 := ⟨n - 1, by omega⟩
    exact ⟨w, m_nil h X, FT.rf w, X⟩
  | cons s r ih =>
    intro cd n w h g hn hl X
    obtain ⟨n, rfl⟩ : ∃ k, n = k + 1 := ⟨n - 1, by omega⟩
    rw [List.length_cons] at hn hl
    obtain ⟨y, z⟩ := m_s1 (n := n) (t := 6) h (by decide) g.1 (by omega) X
    have rk : ∀ s, s ≤ 10 → (s ≠ 10 ∧ 6 ≤ rkM s ↔ s = 9) := by decide
    rw [pnS, pnC]
    by_cases c : s = 9
    · rw [if_pos c, if_pos c]
      obtain ⟨w1, a1, a2, a3⟩ := y ((rk s g.1).mpr c)
      rw [c] at a3
      obtain ⟨w', b1, b2, b3⟩ := ih (20009 :: cd) n w1 (a2.1.lay h) g.2.2 (by omega) (by rw [List.length_cons]; omega) a3
      exact ⟨w', by rw [a1]; exact b1, a2.tr b2, b3⟩
    · rw [if_neg c, if_neg c]
      exact ⟨w, z (fun q => c ((rk s g.1).mp q)), FT.rf w, X⟩
theorem m_sl {key at' t : Nat} (ht : t ≤ 5) : ∀ (st cd : List Nat) (n : Nat) (w : Wd), Lay w → gd st → hdN st ≠ 9 → st.length < n → st.length + cd.length ≤ 96 → MS w key st cd at' → ∃ w', L_X9_settle_0 n 96 (nI t) w = some ((), w') ∧ FT w w' ∧ MS w' key (slS t st) (slC t st cd) at' := by
  intro st
  induction st with
  | nil =>
    intro cd n w h _ _ hn hl X
    obtain ⟨n, rfl⟩ : ∃ k, n = k + 1 := ⟨n - 1, by omega⟩
    exact ⟨w, m_nil h X, FT.rf w, X⟩
  | cons s r ih =>
    intro cd n w h g hh hn hl X
    obtain ⟨n, rfl⟩ : ∃ k, n = k + 1 := ⟨n - 1, by omega⟩
    rw [List.length_cons] at hn hl
    obtain ⟨y, z⟩ := m_s1 (n := n) (t := t) h (by omega) g.1 (by omega) X
    have s9 : ¬ s = 9 := hh
    have g1 := g.1
    have rk : (s ≠ 10 ∧ t ≤ rkM s) ↔ (s ≤ 8 ∧ t ≤ rkS s) := by
      unfold rkM
      constructor
      · intro q
        have s8 : s ≤ 8 := by have := q.1; omega
        rw [if_pos s8] at q
        exact ⟨s8, q.2⟩
      · intro q
        rw [if_pos q.1]
        exact ⟨by omega, q.2⟩
    rw [slS, slC]
    by_cases c : s ≤ 8 ∧ t ≤ rkS s
    · rw [if_pos c, if_pos c]
      obtain ⟨w1, a1, a2, a3⟩ := y (rk.mpr c)
      obtain ⟨w', b1, b2, b3⟩ := ih ((20000 + s) :: cd) n w1 (a2.1.lay h) g.2.2 (g.2.1 c.1).1 (by omega) (by rw [List.length_cons]; omega) a3
      exact ⟨w', by rw [a1]; exact b1, a2.tr b2, b3⟩
    · rw [if_neg c, if_neg c]
      exact ⟨w, z (fun q => c (rk.mp q)), FT.rf w, X⟩
theorem Rw_d {f row : Nat → Int32} : ∀ (l : List Nat) (i : Nat), Rw f row l → Rw f row (l.drop i) := by
  intro l
  induction l with
  | nil => intro i h; rw [List.drop_nil]; exact h
  | cons s r ih =>
    intro i h
    cases i with
    | zero => exact h
    | succ i => exact ih i h.2
theorem gd_d : ∀ (l : List Nat) (i : Nat), gd l → gd (l.drop i) := by
  intro l
  induction l with
  | nil => intro i h; rw [List.drop_nil]; exact h
  | cons s r ih =>
    intro i h
    cases i with
    | zero => exact h
    | succ i => exact ih i h.2.2
theorem m_nots {key at' : Nat} {st cd : List Nat} {w : Wd} (h : Lay w) (g : gd st) (hl : st.length ≤ 96) (X : MS w key st cd at') : f_X9_notsOpen 96 w = some (nI (cnt 9 st), w) := by
  obtain ⟨-, -, -, x21, -, xs⟩ := X
  have sx : ∀ s, s ≤ 10 → (sgM s = -10 ↔ s = 9) := by decide +kernel
  have L4 : ∀ n m k, k + m = st.length → m < n → L_X9_notsOpen_4 n 96 (nI (cnt 9 (st.drop (st.length - k)))) (nI k) w = some (nI (cnt 9 st), w) := by
    intro n
    induction n with
    | zero => intro m k _ q; omega
    | succ n ih =>
      intro m k q1 q2
      rw [show L_X9_notsOpen_4 (n + 1) 96 (nI (cnt 9 (st.drop (st.length - k)))) (nI k) w = _ from by unfold L_X9_notsOpen_4; rfl, lk_96 h, if_pos rfl, x21]
      cases m with
      | zero =>
        rw [if_pos ((nI_le' (by omega) (by omega)).mpr (by omega)), show st.length - k = 0 by omega, List.drop_zero]
      | succ m =>
        have dr : st.drop (st.length - k) = (st.drop (st.length - (k + 1))).tail := by
          rw [List.tail_drop, show st.length - (k + 1) + 1 = st.length - k by omega]
        have ln : (st.drop (st.length - (k + 1))).length = k + 1 := by rw [List.length_drop]; omega
        have rx := Rw_d st (st.length - (k + 1)) xs
        have gx := gd_d st (st.length - (k + 1)) g
        have ihk := ih m (k + 1) (by omega) (by omega)
        rw [if_neg (fun q => by have := (nI_le' (by omega) (by omega)).mp q; omega), lr_96_20 h, bd1_s, la_106 h (show k < 96 by omega), if_pos rfl, nx_nI (by omega), lb_e, nI_s1, lb_e]
        cases q : st.drop (st.length - (k + 1)) with
        | nil => rw [q] at ln; cases ln
        | cons x r =>
          rw [q] at ln dr rx gx ihk
          rw [List.length_cons] at ln
          have rl : r.length = k := by omega
          have rv : wI w 106 k = sgM x := by rw [← rl]; exact rx.1
          rw [dr, List.tail_cons, rv]
          rw [cnt] at ihk
          by_cases c : x = 9
          · rw [if_pos ((sx x gx.1).mpr c), nI_s1]
            rw [if_pos c, Nat.add_comm] at ihk
            exact ihk
          · rw [if_neg (fun t => c ((sx x gx.1).mp t)), Int32.add_zero]
            rw [if_neg c, Nat.zero_add] at ihk
            exact ihk
  have := L4 FU st.length 0 (by omega) (by unfold FU; omega)
  rw [Nat.sub_zero, List.drop_length] at this
  exact this
