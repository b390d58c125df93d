/-! TEXTS: a tape is read, by the document -/
def cls (x : Nat) : Nat := if 97 ≤ x ∧ x ≤ 122 then 2 else if 48 ≤ x ∧ x ≤ 57 then 1 else 3
def skF (b : Nat → Nat) (L : Nat) : Nat → Nat → Nat
  | 0, s => s
  | m + 1, s => if s < L ∧ b s = 32 then skF b L m (s + 1) else s
def tSk (b : Nat → Nat) (L e : Nat) : Nat := skF b L (L - e) e
theorem sk_y {b : Nat → Nat} {L e : Nat} (h1 : e < L) (h2 : b e = 32) : tSk b L e = tSk b L (e + 1) := by
  unfold tSk
  rw [show L - e = (L - (e + 1)) + 1 by omega, skF, if_pos ⟨h1, h2⟩]
theorem sk_n {b : Nat → Nat} {L e : Nat} (h : ¬ (e < L ∧ b e = 32)) : tSk b L e = e := by
  unfold tSk
  cases L - e with
  | zero => rfl
  | succ m => rw [skF, if_neg h]
theorem skF_g (b : Nat → Nat) (L : Nat) : ∀ m s, s ≤ skF b L m s ∧ (s ≤ L → skF b L m s ≤ L) := by
  intro m
  induction m with
  | zero => intro s; exact ⟨Nat.le_refl _, fun h => h⟩
  | succ m ih =>
    intro s
    rw [skF]
    by_cases c : s < L ∧ b s = 32
    · rw [if_pos c]
      have := ih (s + 1)
      exact ⟨by omega, fun _ => this.2 (by omega)⟩
    · rw [if_neg c]
      exact ⟨Nat.le_refl _, fun h => h⟩
theorem sk_ge (b : Nat → Nat) (L e : Nat) : e ≤ tSk b L e := (skF_g b L _ e).1
theorem sk_le {b : Nat → Nat} {L e : Nat} (h : e ≤ L) : tSk b L e ≤ L := (skF_g b L _ e).2 h
def rnF (b : Nat → Nat) (L c : Nat) : Nat → Nat → Nat
  | 0, s => s
  | m + 1, s => if s < L ∧ cls (b s) = c then rnF b L c m (s + 1) else s
def tRn (b : Nat → Nat) (L c e : Nat) : Nat := rnF b L c (L - e) e
theorem rn_y {b : Nat → Nat} {L c e : Nat} (h1 : e < L) (h2 : cls (b e) = c) : tRn b L c e = tRn b L c (e + 1) := by
  unfold tRn
  rw [show L - e = (L - (e + 1)) + 1 by omega, rnF, if_pos ⟨h1, h2⟩]
theorem rn_n {b : Nat → Nat} {L c e : Nat} (h : ¬ (e < L ∧ cls (b e) = c)) : tRn b L c e = e := by
  unfold tRn
  cases L - e with
  | zero => rfl
  | succ m => rw [rnF, if_neg h]
theorem rnF_g (b : Nat → Nat) (L c : Nat) : ∀ m s, s ≤ rnF b L c m s ∧ (s ≤ L → rnF b L c m s ≤ L) ∧ ∀ k, s ≤ k → k < rnF b L c m s → cls (b k) = c := by
  intro m
  induction m with
  | zero => intro s; exact ⟨Nat.le_refl _, fun h => h, fun k k1 k2 => by rw [rnF] at k2; omega⟩
  | succ m ih =>
    intro s
    rw [rnF]
    by_cases z : s < L ∧ cls (b s) = c
    · rw [if_pos z]
      obtain ⟨i1, i2, i3⟩ := ih (s + 1)
      refine ⟨by omega, fun _ => i2 (by omega), fun k k1 k2 => ?_⟩
      by_cases e : k = s
      · subst e; exact z.2
      · exact i3 k (by omega) k2
    · rw [if_neg z]
      exact ⟨Nat.le_refl _, fun h => h, fun k k1 k2 => by omega⟩
theorem rn_ge (b : Nat → Nat) (L c e : Nat) : e ≤ tRn b L c e := (rnF_g b L c _ e).1
theorem rn_le {b : Nat → Nat} {L c e : Nat} (h : e ≤ L) : tRn b L c e ≤ L := (rnF_g b L c _ e).2.1 h
theorem rn_c {b : Nat → Nat} {L c e k : Nat} (h1 : e ≤ k) (h2 : k < tRn b L c e) : cls (b k) = c := (rnF_g b L c _ e).2.2 k h1 h2
def tKd (b : Nat → Nat) (L e : Nat) (g : Bool) : Nat := if L ≤ tSk b L e then 0 else if cls (b (tSk b L e)) = 3 then 3 else if g = true ∧ tSk b L e = e then 4 else cls (b (tSk b L e))
def tTe (b : Nat → Nat) (L e : Nat) : Nat := if L ≤ tSk b L e then tSk b L e else if cls (b (tSk b L e)) = 3 then tSk b L e + 1 else tRn b L (cls (b (tSk b L e))) (tSk b L e + 1)
theorem te_b {b : Nat → Nat} {L e : Nat} (h : e ≤ L) : tSk b L e ≤ tTe b L e ∧ tTe b L e ≤ L ∧ (tSk b L e < L → tSk b L e < tTe b L e) := by
  have := sk_le (b := b) h
  unfold tTe
  by_cases c : L ≤ tSk b L e
  · rw [if_pos c]; exact ⟨Nat.le_refl _, this, fun q => by omega⟩
  · rw [if_neg c]
    by_cases c3 : cls (b (tSk b L e)) = 3
    · rw [if_pos c3]; exact ⟨by omega, by omega, fun _ => by omega⟩
    · rw [if_neg c3]
      have h1 := rn_ge b L (cls (b (tSk b L e))) (tSk b L e + 1)
      have h2 := rn_le (b := b) (c := cls (b (tSk b L e))) (show tSk b L e + 1 ≤ L by omega)
      exact ⟨by omega, h2, fun _ => by omega⟩
/-- rows of signs and of steps, the last ahead -/
def rkS : Nat → Nat
  | 0 => 1
  | 1 => 2
  | 2 => 3
  | 3 => 3
  | 4 => 3
  | 5 => 4
  | 6 => 4
  | 7 => 5
  | 8 => 5
  | _ => 0
def hdN : List Nat → Nat
  | [] => 10
  | q :: _ => q
def cnt (x : Nat) : List Nat → Nat
  | [] => 0
  | s :: r => (if s = x then 1 else 0) + cnt x r
def nb : List Nat → Nat
  | [] => 0
  | s :: r => (if s ≤ 8 then 1 else 0) + nb r
def gd : List Nat → Prop
  | [] => True
  | s :: r => s ≤ 10 ∧ (s ≤ 8 → hdN r ≠ 9 ∧ (hdN r ≤ 8 → rkS (hdN r) < rkS s)) ∧ gd r
def pnS : List Nat → List Nat
  | [] => []
  | s :: r => if s = 9 then pnS r else s :: r
def pnC : List Nat → List Nat → List Nat
  | [], cd => cd
  | s :: r, cd => if s = 9 then pnC r (20009 :: cd) else cd
def slS (t : Nat) : List Nat → List Nat
  | [] => []
  | s :: r => if s ≤ 8 ∧ t ≤ rkS s then slS t r else s :: r
def slC (t : Nat) : List Nat → List Nat → List Nat
  | [], cd => cd
  | s :: r, cd => if s ≤ 8 ∧ t ≤ rkS s then slC t r ((20000 + s) :: cd) else cd
def dL : List Nat → Nat
  | [] => 0
  | x :: r => if x < 20000 then dL r + 1 else if x = 20009 then dL r else dL r - 1
def okL (nm at' : Nat) : List Nat → Prop
  | [] => True
  | x :: r => ((x < 10000 + nm ∨ (20000 ≤ x ∧ x < 20010)) ∧ (x = 20009 → 1 ≤ dL r) ∧ (20000 ≤ x → x < 20009 → 2 ≤ dL r)) ∧ dL (x :: r) ≤ at' ∧ okL nm at' r
theorem okL_m {nm a a' : Nat} (h : a ≤ a') : ∀ l, okL nm a l → okL nm a' l := by
  intro l
  induction l with
  | nil => intro _; trivial
  | cons x r ih => intro q; exact ⟨q.1, Nat.le_trans q.2.1 h, ih q.2.2⟩
theorem okL_d {nm a : Nat} : ∀ l, okL nm a l → dL l ≤ a := by
  intro l
  cases l with
  | nil => intro _; exact Nat.zero_le _
  | cons x r => intro q; exact q.2.1
theorem pn_p {nm a : Nat} : ∀ st cd, gd st → 1 ≤ dL cd → okL nm a cd → gd (pnS st) ∧ hdN (pnS st) ≠ 9 ∧ nb (pnS st) = nb st ∧ cnt 10 (pnS st) = cnt 10 st ∧ dL (pnC st cd) = dL cd ∧ okL nm a (pnC st cd) ∧ (pnS st).length + (pnC st cd).length = st.length + cd.length ∧ cd.length ≤ (pnC st cd).length := by
  intro st
  induction st with
  | nil => intro cd g d o; exact ⟨trivial, by decide, rfl, rfl, rfl, o, rfl, Nat.le_refl _⟩
  | cons s r ih =>
    intro cd g d o
    rw [pnS, pnC]
    by_cases c : s = 9
    · rw [if_pos c, if_pos c]
      subst c
      have d9 : dL (20009 :: cd) = dL cd := by rw [dL, if_neg (by decide), if_pos rfl]
      obtain ⟨h1, h2, h3, h4, h5, h6, h7, h8⟩ := ih (20009 :: cd) g.2.2 (by rw [d9]; exact d) ⟨⟨Or.inr ⟨by decide, by decide⟩, fun _ => d, fun _ q => by omega⟩, by rw [d9]; exact okL_d _ o, o⟩
      rw [d9] at h5
      refine ⟨h1, h2, by rw [h3, nb, if_neg (by decide)]; omega, by rw [h4, cnt, if_neg (by decide)]; omega, h5, h6, ?_, ?_⟩
      · rw [h7, List.length_cons, List.length_cons]; omega
      · rw [List.length_cons] at h8; omega
    · rw [if_neg c, if_neg c]
      exact ⟨g, c, rfl, rfl, rfl, o, rfl, Nat.le_refl _⟩
theorem sl_p {nm a t : Nat} : ∀ st cd, gd st → hdN st ≠ 9 → dL cd = nb st + 1 → okL nm a cd → gd (slS t st) ∧ hdN (slS t st) ≠ 9 ∧ (hdN (slS t st) ≤ 8 → rkS (hdN (slS t st)) < t) ∧ cnt 10 (slS t st) = cnt 10 st ∧ cnt 9 (slS t st) = cnt 9 st ∧ dL (slC t st cd) = nb (slS t st) + 1 ∧ okL nm a (slC t st cd) ∧ (slS t st).length + (slC t st cd).length = st.length + cd.length ∧ cd.length ≤ (slC t st cd).length := by
  intro st
  induction st with
  | nil => intro cd g hn d o; exact ⟨trivial, (show (10 : Nat) ≠ 9 by decide), fun q => absurd (show (10 : Nat) ≤ 8 from q) (by decide), rfl, rfl, d, o, rfl, Nat.le_refl _⟩
  | cons s r ih =>
    intro cd g hn d o
    rw [slS, slC]
    by_cases c : s ≤ 8 ∧ t ≤ rkS s
    · rw [if_pos c, if_pos c]
      have dn : nb (s :: r) = nb r + 1 := by rw [nb, if_pos c.1]; omega
      have dd : dL ((20000 + s) :: cd) = nb r + 1 := by rw [dL, if_neg (by omega), if_neg (by omega)]; omega
      have dm := okL_d _ o
      obtain ⟨h1, h2, h3, h4, h5, h6, h7, h8, h9⟩ := ih ((20000 + s) :: cd) g.2.2 (g.2.1 c.1).1 dd ⟨⟨Or.inr ⟨by omega, by omega⟩, fun q => by omega, fun _ _ => by omega⟩, by rw [dd]; omega, o⟩
      have n10 : ¬ s = 10 := by omega
      have n9 : ¬ s = 9 := by omega
      refine ⟨h1, h2, h3, by rw [h4, cnt, if_neg n10]; omega, by rw [h5, cnt, if_neg n9]; omega, h6, h7, ?_, ?_⟩
      · rw [h8, List.length_cons, List.length_cons]; omega
      · rw [List.length_cons] at h9; omega
    · rw [if_neg c, if_neg c]
      refine ⟨g, hn, fun q => ?_, rfl, rfl, d, o, rfl, Nat.le_refl _⟩
      have q' : s ≤ 8 := q
      show rkS s < t
      by_cases z : t ≤ rkS s
      · exact absurd ⟨q', z⟩ c
      · omega
theorem sl_34 : ∀ st cd, slS 3 (slS 4 st) = slS 3 st ∧ slC 3 (slS 4 st) (slC 4 st cd) = slC 3 st cd := by
  intro st
  induction st with
  | nil => intro cd; exact ⟨rfl, rfl⟩
  | cons s r ih =>
    intro cd
    by_cases c : s ≤ 8 ∧ 4 ≤ rkS s
    · rw [show slS 4 (s :: r) = slS 4 r by rw [slS, if_pos c], show slC 4 (s :: r) cd = slC 4 r ((20000 + s) :: cd) by rw [slC, if_pos c], show slS 3 (s :: r) = slS 3 r by rw [slS, if_pos ⟨c.1, by omega⟩], show slC 3 (s :: r) cd = slC 3 r ((20000 + s) :: cd) by rw [slC, if_pos ⟨c.1, by omega⟩]]
      exact ih _
    · rw [show slS 4 (s :: r) = s :: r by rw [slS, if_neg c], show slC 4 (s :: r) cd = cd by rw [slC, if_neg c]]
      exact ⟨rfl, rfl⟩
theorem sl_10 {st : List Nat} (g : gd (slS 1 st)) (h : hdN (slS 1 st) ≠ 9) (h8 : hdN (slS 1 st) ≤ 8 → rkS (hdN (slS 1 st)) < 1) (hc : 0 < cnt 10 (slS 1 st)) : slS 1 st = 10 :: (slS 1 st).tail := by
  cases e : slS 1 st with
  | nil => rw [e] at hc; exact absurd hc (by decide)
  | cons s r =>
    rw [e] at g h h8
    have g1 := g.1
    have : ∀ x, x ≤ 8 → 1 ≤ rkS x := by decide
    rcases (show s ≤ 8 ∨ s = 9 ∨ s = 10 by omega) with q | q | q
    · have := this s q
      have : rkS s < 1 := h8 q
      omega
    · exact absurd q h
    · rw [q]; rfl
theorem sl_0 {st : List Nat} (g : gd (slS 0 st)) (h : hdN (slS 0 st) ≠ 9) (h8 : hdN (slS 0 st) ≤ 8 → rkS (hdN (slS 0 st)) < 0) (hc : cnt 10 (slS 0 st) = 0) : slS 0 st = [] := by
  cases e : slS 0 st with
  | nil => rfl
  | cons s r =>
    rw [e] at g h h8 hc
    have g1 := g.1
    rcases (show s ≤ 8 ∨ s = 9 ∨ s = 10 by omega) with q | q | q
    · exact absurd (h8 q) (Nat.not_lt_zero _)
    · exact absurd q h
    · rw [cnt, if_pos q] at hc; omega
/-- one step -/
def vlN (b : Nat → Nat) : Nat → Nat → Nat → Nat
  | 0, _, a => a
  | m + 1, s, a => vlN b m (s + 1) (a * 10 + b s - 48)
def nmI (key x : Nat) : Nat := if key = 0 then (if x = 112 then 0 else if x = 99 then 1 else if x = 115 then 2 else 9) else if key = 1 then (if x = 116 then 0 else if x = 109 then 1 else 9) else (if x = 112 then 0 else if x = 115 then 1 else 9)
def sgI (x : Nat) : Nat := if x = 124 then 0 else if x = 38 then 1 else if x = 60 then 2 else if x = 61 then 3 else if x = 62 then 4 else if x = 43 then 5 else if x = 45 then 6 else if x = 42 then 7 else if x = 47 then 8 else 11
def hd3 (l : List Nat) : Bool := decide (hdN l ≤ 8) && decide (rkS (hdN l) = 3)
def St : Type := Bool × List Nat × List Nat × Nat
def SP (b : Nat → Nat) (key k s e : Nat) (wn : Bool) (st cd : List Nat) (at' : Nat) : Option St :=
  if wn = true then
    if k = 1 then (if e - s ≤ 4 then some (false, pnS st, pnC st (vlN b (e - s) s 0 :: cd), at' + 1) else none)
    else if k = 2 then (if e - s = 1 ∧ nmI key (b s) < 3 then some (false, pnS st, pnC st ((10000 + nmI key (b s)) :: cd), at' + 1) else none)
    else if k = 3 then (if b s = 40 ∧ cnt 10 st < 8 then some (true, 10 :: st, cd, at') else if b s = 33 ∧ cnt 9 st < 8 then some (true, 9 :: st, cd, at') else none)
    else none
  else if k = 3 then
    if b s = 41 then (if cnt 10 st = 0 then none else some (false, pnS (slS 1 st).tail, pnC (slS 1 st).tail (slC 1 st cd), at'))
    else if sgI (b s) < 9 then (if rkS (sgI (b s)) = 3 ∧ hd3 (slS 4 st) = true then none else some (true, sgI (b s) :: slS (rkS (sgI (b s))) st, slC (rkS (sgI (b s))) st cd, at'))
    else none
  else none
def nmA (key : Nat) : Nat := if key = 0 then 3 else 2
theorem nmI_lt {key x : Nat} (h : nmI key x < 3) : nmI key x < nmA key := by
  unfold nmI nmA at *
  by_cases k0 : key = 0
  · rw [if_pos k0] at h ⊢; rw [if_pos k0]; exact h
  · rw [if_neg k0] at h ⊢
    rw [if_neg k0]
    by_cases k1 : key = 1
    · rw [if_pos k1] at h ⊢
      by_cases x1 : x = 116
      · rw [if_pos x1]; decide
      · rw [if_neg x1] at h ⊢
        by_cases x2 : x = 109
        · rw [if_pos x2]; decide
        · rw [if_neg x2] at h; omega
    · rw [if_neg k1] at h ⊢
      by_cases x1 : x = 112
      · rw [if_pos x1]; decide
      · rw [if_neg x1] at h ⊢
        by_cases x2 : x = 115
        · rw [if_pos x2]; decide
        · rw [if_neg x2] at h; omega
theorem vl_lt {b : Nat → Nat} : ∀ m s a, (∀ k, s ≤ k → k < s + m → b k ≤ 57) → vlN b m s a + 1 ≤ (a + 1) * 10 ^ m := by
  intro m
  induction m with
  | zero => intro s a _; rw [vlN]; omega
  | succ m ih =>
    intro s a h
    have h1 := ih (s + 1) (a * 10 + b s - 48) (fun k k1 k2 => h k (by omega) (by omega))
    have h2 := h s (Nat.le_refl _) (by omega)
    rw [vlN]
    refine Nat.le_trans h1 ?_
    rw [Nat.pow_succ, Nat.mul_comm (10 ^ m) 10, ← Nat.mul_assoc]
    exact Nat.mul_le_mul_right _ (by omega)
/-- what holds between two steps -/
def IS (nm : Nat) (wn : Bool) (st cd : List Nat) (at' : Nat) : Prop := gd st ∧ (wn = false → hdN st ≠ 9) ∧ dL cd = nb st + (if wn = true then 0 else 1) ∧ okL nm at' cd ∧ cnt 10 st ≤ 8 ∧ at' ≤ cd.length
theorem SP_i {b : Nat → Nat} {key k s e at' : Nat} {wn : Bool} {st cd : List Nat} (I : IS (nmA key) wn st cd at') (hd : k = 1 → ∀ j, s ≤ j → j < e → b j ≤ 57) {x : St} (h : SP b key k s e wn st cd at' = some x) : IS (nmA key) x.1 x.2.1 x.2.2.1 x.2.2.2 ∧ x.2.1.length + x.2.2.1.length ≤ st.length + cd.length + 1 := by
  obtain ⟨i1, i2, i3, i4, i5, i6⟩ := I
  have thing : ∀ v, v < 10000 + nmA key → wn = true → IS (nmA key) false (pnS st) (pnC st (v :: cd)) (at' + 1) ∧ (pnS st).length + (pnC st (v :: cd)).length ≤ st.length + cd.length + 1 := fun v hv hw => by
    rw [if_pos hw, Nat.add_zero] at i3
    have nk : nmA key ≤ 3 := by unfold nmA; split <;> omega
    have d1 : dL (v :: cd) = dL cd + 1 := by rw [dL, if_pos (by omega)]
    have dm := okL_d _ i4
    obtain ⟨h1, h2, h3, h4, h5, h6, h7, h8⟩ := pn_p (nm := nmA key) (a := at' + 1) st (v :: cd) i1 (by omega) ⟨⟨Or.inl hv, fun q => by omega, fun q => by omega⟩, by omega, okL_m (by omega) _ i4⟩
    rw [List.length_cons] at h7 h8
    refine ⟨⟨h1, fun _ => h2, ?_, h6, by omega, by omega⟩, by omega⟩
    rw [h5, h3, d1, i3]
    rfl
  unfold SP at h
  by_cases w : wn = true
  · rw [if_pos w] at h
    by_cases k1 : k = 1
    · rw [if_pos k1] at h
      by_cases c : e - s ≤ 4
      · rw [if_pos c] at h
        cases h
        have := vl_lt (b := b) (e - s) s 0 (fun j j1 j2 => hd k1 j j1 (by omega))
        have p4 : 10 ^ (e - s) ≤ 10 ^ 4 := Nat.pow_le_pow_right (by decide) c
        exact thing _ (by omega) w
      · rw [if_neg c] at h; cases h
    · rw [if_neg k1] at h
      by_cases k2 : k = 2
      · rw [if_pos k2] at h
        by_cases c : e - s = 1 ∧ nmI key (b s) < 3
        · rw [if_pos c] at h
          cases h
          have := nmI_lt c.2
          exact thing _ (by omega) w
        · rw [if_neg c] at h; cases h
      · rw [if_neg k2] at h
        by_cases k3 : k = 3
        · rw [if_pos k3] at h
          by_cases c : b s = 40 ∧ cnt 10 st < 8
          · rw [if_pos c] at h
            cases h
            refine ⟨⟨⟨by decide, fun q => by omega, i1⟩, fun q => (by cases q), ?_, i4, ?_, i6⟩, ?_⟩
            · rw [if_pos w] at i3
              show dL cd = nb (10 :: st) + 0
              rw [nb, if_neg (by decide)]; omega
            · show cnt 10 (10 :: st) ≤ 8
              rw [cnt, if_pos rfl]; omega
            · show (10 :: st).length + cd.length ≤ _
              rw [List.length_cons]; omega
          · rw [if_neg c] at h
            by_cases c' : b s = 33 ∧ cnt 9 st < 8
            · rw [if_pos c'] at h
              cases h
              refine ⟨⟨⟨by decide, fun q => by omega, i1⟩, fun q => (by cases q), ?_, i4, ?_, i6⟩, ?_⟩
              · rw [if_pos w] at i3
                show dL cd = nb (9 :: st) + 0
                rw [nb, if_neg (by decide)]; omega
              · show cnt 10 (9 :: st) ≤ 8
                rw [cnt, if_neg (by decide)]; omega
              · show (9 :: st).length + cd.length ≤ _
                rw [List.length_cons]; omega
            · rw [if_neg c'] at h; cases h
        · rw [if_neg k3] at h; cases h
  · rw [if_neg w] at h
    have wf : wn = false := by simpa using w
    have i2' := i2 wf
    rw [if_neg w] at i3
    by_cases k3 : k = 3
    · rw [if_pos k3] at h
      by_cases c : b s = 41
      · rw [if_pos c] at h
        by_cases z : cnt 10 st = 0
        · rw [if_pos z] at h; cases h
        · rw [if_neg z] at h
          cases h
          obtain ⟨h1, h2, h3, h4, h5, h6, h7, h8, h9⟩ := sl_p (t := 1) st cd i1 i2' i3 i4
          have e1 := sl_10 h1 h2 h3 (by omega)
          obtain ⟨r, er⟩ : ∃ r, r = (slS 1 st).tail := ⟨_, rfl⟩
          rw [← er] at e1
          rw [e1] at h1 h4 h6 h8
          rw [cnt, if_pos rfl] at h4
          rw [nb, if_neg (by decide), Nat.zero_add] at h6
          rw [List.length_cons] at h8
          obtain ⟨g1, g2, g3, g4, g5, g6, g7, g8⟩ := pn_p (nm := nmA key) (a := at') r (slC 1 st cd) h1.2.2 (by omega) h7
          show IS (nmA key) false (pnS (slS 1 st).tail) (pnC (slS 1 st).tail (slC 1 st cd)) at' ∧ (pnS (slS 1 st).tail).length + (pnC (slS 1 st).tail (slC 1 st cd)).length ≤ _
          rw [← er]
          refine ⟨⟨g1, fun _ => g2, ?_, g6, by omega, by omega⟩, by omega⟩
          rw [g5, h6, g3]; rfl
      · rw [if_neg c] at h
        by_cases z : sgI (b s) < 9
        · rw [if_pos z] at h
          by_cases y : rkS (sgI (b s)) = 3 ∧ hd3 (slS 4 st) = true
          · rw [if_pos y] at h; cases h
          · rw [if_neg y] at h
            cases h
            obtain ⟨h1, h2, h3, h4, h5, h6, h7, h8, h9⟩ := sl_p (t := rkS (sgI (b s))) st cd i1 i2' i3 i4
            refine ⟨⟨⟨by omega, fun _ => ⟨h2, h3⟩, h1⟩, fun q => (by cases q), ?_, h7, ?_, ?_⟩, ?_⟩
            · show dL (slC _ st cd) = nb (sgI (b s) :: slS _ st) + 0
              rw [nb, if_pos (by omega), h6]; omega
            · show cnt 10 (sgI (b s) :: slS _ st) ≤ 8
              rw [cnt, if_neg (by omega)]; omega
            · show at' ≤ (slC _ st cd).length
              omega
            · show (sgI (b s) :: slS _ st).length + (slC _ st cd).length ≤ _
              rw [List.length_cons]; omega
        · rw [if_neg z] at h; cases h
    · rw [if_neg k3] at h; cases h
/-- all steps -/
def PF (b : Nat → Nat) (L key : Nat) : Nat → Nat → Bool → Bool → List Nat → List Nat → Nat → Option (List Nat × Nat) × Nat
  | 0, _, _, _, _, _, _ => (none, 0)
  | m + 1, e, g, wn, st, cd, at' =>
    if L ≤ tSk b L e then (if wn = true ∨ 0 < cnt 10 st then none else some (slC 0 st cd, at'), L)
    else match SP b key (tKd b L e g) (tSk b L e) (tTe b L e) wn st cd at' with
      | none => (none, tSk b L e)
      | some x => PF b L key m (tTe b L e) (decide (tKd b L e g = 1 ∨ tKd b L e g = 2)) x.1 x.2.1 x.2.2.1 x.2.2.2
theorem kd_1 {b : Nat → Nat} {L e : Nat} {g : Bool} (h : tKd b L e g = 1) : ∀ j, tSk b L e ≤ j → j < tTe b L e → b j ≤ 57 := by
  intro j j1 j2
  unfold tKd at h
  by_cases c : L ≤ tSk b L e
  · rw [if_pos c] at h; cases h
  · rw [if_neg c] at h
    by_cases c3 : cls (b (tSk b L e)) = 3
    · rw [if_pos c3] at h; cases h
    · rw [if_neg c3] at h
      by_cases c4 : g = true ∧ tSk b L e = e
      · rw [if_pos c4] at h; cases h
      · rw [if_neg c4] at h
        unfold tTe at j2
        rw [if_neg c, if_neg c3, h] at j2
        have cj : cls (b j) = 1 := by
          by_cases z : j = tSk b L e
          · rw [z]; exact h
          · exact rn_c (by omega) j2
        unfold cls at cj
        by_cases q : 97 ≤ b j ∧ b j ≤ 122
        · rw [if_pos q] at cj; cases cj
        · rw [if_neg q] at cj
          by_cases q' : 48 ≤ b j ∧ b j ≤ 57
          · exact q'.2
          · rw [if_neg q'] at cj; cases cj
theorem PF_i {b : Nat → Nat} {L key : Nat} (hL : L ≤ 96) : ∀ m e g wn st cd at', e ≤ L → st.length + cd.length ≤ e → IS (nmA key) wn st cd at' → ∀ c a, (PF b L key m e g wn st cd at').1 = some (c, a) → okL (nmA key) a c ∧ dL c = 1 ∧ c.length ≤ 96 ∧ a ≤ 96 := by
  intro m
  induction m with
  | zero => intro e g wn st cd at' _ _ _ c a h; cases h
  | succ m ih =>
    intro e g wn st cd at' he hl I c a h
    rw [PF] at h
    by_cases z : L ≤ tSk b L e
    · rw [if_pos z] at h
      by_cases y : wn = true ∨ 0 < cnt 10 st
      · rw [if_pos y] at h; cases h
      · rw [if_neg y] at h
        cases h
        have w : ¬ wn = true := fun q => y (Or.inl q)
        have wf : wn = false := by simpa using w
        obtain ⟨i1, i2, i3, i4, i5, i6⟩ := I
        rw [if_neg w] at i3
        obtain ⟨h1, h2, h3, h4, h5, h6, h7, h8, h9⟩ := sl_p (t := 0) st cd i1 (i2 wf) i3 i4
        have e0 := sl_0 h1 h2 h3 (by omega)
        rw [e0] at h6 h8
        exact ⟨h7, h6, by rw [List.length_nil] at h8; omega, by rw [List.length_nil] at h8; omega⟩
    · rw [if_neg z] at h
      obtain ⟨t1, t2, t3⟩ := te_b (b := b) he
      have sg := sk_ge b L e
      cases q : SP b key (tKd b L e g) (tSk b L e) (tTe b L e) wn st cd at' with
      | none => rw [q] at h; cases h
      | some x =>
        rw [q] at h
        obtain ⟨I', l'⟩ := SP_i I (fun k1 => kd_1 k1) q
        exact ih _ _ _ _ _ _ t2 (by have := t3 (by omega); omega) I' c a h
