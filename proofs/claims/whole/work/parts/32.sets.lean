/-! SETS OF PLACES: spec, the reference, the class -/
def ps (p : Nat) : Int32 := (1 : Int32) <<< (nI p &&& 31)
def nxt (n p : Nat) : Nat := if p + 1 < n then p + 1 else 0
def c_ (σ : Nat → Int32) : Nat := nx (σ 1)
def n_ (σ : Nat → Int32) : Nat := nx (σ 2)
/-- field j of sitter i -/
def sv (σ : Nat → Int32) (i j : Nat) : Int32 := σ (24 + 4 * i + j)
def so (σ : Nat → Int32) (i : Nat) : Int32 := if sv σ i 1 < 0 then 0 else if sv σ i 0 = 1 ∨ sv σ i 0 = 3 then ps (nx (sv σ i 1)) ||| ps (nxt (n_ σ) (nx (sv σ i 1))) else ps (nx (sv σ i 1))
def oU (f : Nat → Int32) : Nat → Int32
  | 0 => 0
  | n + 1 => oU f n ||| f n
def tk (σ : Nat → Int32) : Int32 := oU (so σ) (c_ σ)
def tf (σ : Nat → Int32) : Int32 := oU (fun i => if sv σ i 0 = 2 ∨ sv σ i 0 = 4 then so σ i else 0) (c_ σ)
def sg (σ : Nat → Int32) : Int32 := oU (fun i => if sv σ i 1 < 0 then ps i else 0) (c_ σ)
def Sv (σ : Nat → Int32) : Prop := (σ 1 = nI (c_ σ) ∧ c_ σ ≤ 12) ∧ (σ 2 = nI (n_ σ) ∧ 1 ≤ n_ σ ∧ n_ σ ≤ 12) ∧ (σ 3 = 0 ∨ σ 3 = 1) ∧ (σ 4 = 0 ∨ σ 4 = 1) ∧ ∀ i, i < c_ σ → (∃ k, k < 6 ∧ sv σ i 0 = nI k) ∧ (sv σ i 1 = -1 ∨ ∃ p, p < n_ σ ∧ sv σ i 1 = nI p ∧ ((sv σ i 0 = 1 ∨ sv σ i 0 = 3) → p + 1 < n_ σ ∨ (σ 3 = 1 ∧ 2 ≤ n_ σ)))
/-- the sitters and the bench of an Inn at b are those of a row -/
def RS (w : Wd) (b : Nat) (σ : Nat → Int32) : Prop := wI w b 2 = σ 1 ∧ (wI w (b + 1) 0 = σ 2 ∧ wI w (b + 1) 1 = σ 3 ∧ wI w (b + 1) 2 = σ 4 ∧ wI w (b + 1) 3 = ps (n_ σ) - 1) ∧ ∀ i, i < c_ σ → ∀ j, j < 4 → wI w (b + 7 + i) j = sv σ i j
theorem ps_b {p : Nat} (hp : p < 32) {i : Nat} (hi : i < 32) : bt (ps p) i = decide (i = p) := b_one p hp i hi
theorem oU_b (f : Nat → Int32) (i : Nat) : ∀ n, bt (oU f n) i = true ↔ ∃ k, k < n ∧ bt (f k) i = true := by
  intro n
  induction n with
  | zero => simp [oU, b_0]
  | succ n ih =>
    rw [oU, b_or, Bool.or_eq_true, ih]
    constructor
    · rintro (⟨k, h1, h2⟩ | h)
      · exact ⟨k, by omega, h2⟩
      · exact ⟨n, by omega, h⟩
    · rintro ⟨k, h1, h2⟩
      by_cases e : k = n
      · subst e; exact Or.inr h2
      · exact Or.inl ⟨k, by omega, h2⟩
theorem m1_lt : (-1 : Int32) < 0 := by decide
theorem nI_nlt0 {p : Nat} (h : p < 2 ^ 31) : ¬ nI p < 0 := nI_pos h
theorem Sv.c {σ : Nat → Int32} (h : Sv σ) : σ 1 = nI (c_ σ) := h.1.1
theorem Sv.c12 {σ : Nat → Int32} (h : Sv σ) : c_ σ ≤ 12 := h.1.2
theorem Sv.n {σ : Nat → Int32} (h : Sv σ) : σ 2 = nI (n_ σ) := h.2.1.1
theorem Sv.n1 {σ : Nat → Int32} (h : Sv σ) : 1 ≤ n_ σ := h.2.1.2.1
theorem Sv.n12 {σ : Nat → Int32} (h : Sv σ) : n_ σ ≤ 12 := h.2.1.2.2
/-! the reference -/
theorem m_of {w : Wd} (h : Lay w) {s k : Nat} (hs : s < 12) (hk : k < 4) : f_X9_of 96 (nI s) (nI k) w = some (sv (wI w 97) s k, w) := by
  have e : (24 : Int32) + 4 * nI s + nI k = nI (24 + 4 * s + k) := by rw [show (24 : Int32) = nI 24 from rfl, show (4 : Int32) = nI 4 from rfl, nI_mul, nI_add, nI_add]
  have hi : 24 + 4 * s + k < 1444 := by omega
  simp only [f_X9_of, lk_96 h, lr_96_0 h, bd1_s, e, la_97 h hi, ↓reduceIte, nx_nI (show 24 + 4 * s + k < 2 ^ 31 by omega), sv]
theorem m_of0 {w : Wd} (h : Lay w) {s : Nat} (hs : s < 12) : f_X9_of 96 (nI s) 0 w = some (sv (wI w 97) s 0, w) := m_of h (k := 0) hs (by decide)
theorem m_of1 {w : Wd} (h : Lay w) {s : Nat} (hs : s < 12) : f_X9_of 96 (nI s) 1 w = some (sv (wI w 97) s 1, w) := m_of h (k := 1) hs (by decide)
theorem m_of2 {w : Wd} (h : Lay w) {s : Nat} (hs : s < 12) : f_X9_of 96 (nI s) 2 w = some (sv (wI w 97) s 2, w) := m_of h (k := 2) hs (by decide)
theorem m_of3 {w : Wd} (h : Lay w) {s : Nat} (hs : s < 12) : f_X9_of 96 (nI s) 3 w = some (sv (wI w 97) s 3, w) := m_of h (k := 3) hs (by decide)
theorem m_now {w : Wd} (h : Lay w) {j : Nat} (hj : j < 1444) : aK 11 w 97 (nI j) = true := la_97 h hj
theorem m_isBroad (k : Int32) (w : Wd) : f_X9_isBroad k w = some (if k = 1 ∨ k = 3 then 1 else 0, w) := by
  simp only [f_X9_isBroad]
  by_cases h1 : k = 1
  · subst h1; rfl
  · by_cases h3 : k = 3
    · subst h3; rfl
    · simp [h1, h3]
theorem m_isFriend (k : Int32) (w : Wd) : f_X9_isFriend k w = some (if k = 2 ∨ k = 4 then 1 else 0, w) := by
  simp only [f_X9_isFriend]
  by_cases h1 : k = 2
  · subst h1; rfl
  · by_cases h3 : k = 4
    · subst h3; rfl
    · simp [h1, h3]
theorem irem_nI {a b : Nat} (ha : a < 2 ^ 31) (hb : b < 2 ^ 31) (h0 : 0 < b) : irem (nI a) (nI b) = nI (a % b) := by
  unfold irem
  have hd : nI a / nI b = nI (a / b) := by
    apply eq_I
    have hq : a / b ≤ a := Nat.div_le_self a b
    rw [Int32.toInt_div, nI_toInt ha, nI_toInt hb, nI_toInt (by omega), Int.tdiv_eq_ediv_of_nonneg (by omega)]
    rw [show (a : Int) / (b : Int) = ((a / b : Nat) : Int) by simp]
    generalize a / b = q at hq
    exact Int.bmod_eq_of_le (by omega) (by omega)
  rw [hd, nI_mul, nI_sub (Nat.div_mul_le_self a b)]
  congr 1
  have := Nat.div_add_mod a b
  rw [Nat.mul_comm] at this
  omega
theorem ad_c (a b : Int32) : a + b = b + a := Int32.add_comm a b
theorem nI_s1 (k : Nat) : nI k + 1 = nI (k + 1) := (nI_succ k).symm
theorem nI_s2 (k : Nat) : nI k + 2 = nI (k + 2) := by rw [show (2 : Int32) = nI 2 from rfl, nI_add]
theorem nI_le' {a b : Nat} (hb : b < 2 ^ 31) (ha : a < 2 ^ 31) : nI a ≤ nI b ↔ a ≤ b := by
  rw [le_I, nI_toInt ha, nI_toInt hb]; omega
theorem nI_lt' {a b : Nat} (hb : b < 2 ^ 31) (ha : a < 2 ^ 31) : nI a < nI b ↔ a < b := by
  rw [lt_I, nI_toInt ha, nI_toInt hb]; omega
theorem nI_eq' {a b : Nat} (hb : b < 2 ^ 31) (ha : a < 2 ^ 31) : nI a = nI b ↔ a = b := ⟨nI_inj ha hb, fun e => by rw [e]⟩
/-- setAt of a kind at a place, where it is there -/
def sat_ (σ : Nat → Int32) (k : Int32) (p : Nat) : Int32 := if k = 1 ∨ k = 3 then ps p ||| ps (nxt (n_ σ) p) else ps p
/-- whether one of a kind has its places at p -/
def fit_ (σ : Nat → Int32) (k : Int32) (p : Nat) : Prop := (k = 1 ∨ k = 3) → p + 1 < n_ σ ∨ (σ 3 = 1 ∧ 2 ≤ n_ σ)
theorem m_setAt {w : Wd} {σ : Nat → Int32} (h : Lay w) (hσ : wI w 97 = σ) (hS : Sv σ) (k : Int32) {p : Nat} (hp : p < n_ σ) : (fit_ σ k p → f_X9_setAt 96 k (nI p) w = some (sat_ σ k p, w)) ∧ (¬ fit_ σ k p → f_X9_setAt 96 k (nI p) w = some (-1, w)) := by
  subst hσ
  have hn := hS.n
  have h12 := hS.n12
  by_cases hk : k = 1 ∨ k = 3
  · have e1 : f_X9_setAt 96 k (nI p) w = if wI w 97 3 = 1 then j_X9_setAt_37 96 (nI p) (nI ((p + 1) % n_ (wI w 97))) w else j_X9_setAt_37 96 (nI p) (nI (p + 1)) w := by
      simp only [f_X9_setAt, m_isBroad, bd2_s, hk, ↓reduceIte, lk_96 h, lr_96_0 h, bd1_s, show (3 : Int32) = nI 3 from rfl, show (2 : Int32) = nI 2 from rfl, la_97 h (show 3 < 1444 by decide), la_97 h (show 2 < 1444 by decide), nx_nI (show 3 < 2 ^ 31 by decide), nx_nI (show 2 < 2 ^ 31 by decide), hn, nI_s1, show (k = 1 ∨ k = nI 3) from hk]
      rw [if_neg (by decide)]
      split
      · rw [if_pos (nI_ne0 (by omega) (by omega)), irem_nI (by omega) (by omega) (by omega)]
      · rfl
    have e2 : ∀ q, q < 2 ^ 31 → j_X9_setAt_37 96 (nI p) (nI q) w = some (if q = n_ (wI w 97) then -1 else if q = p then -1 else ps p ||| ps q, w) := by
      intro q hq
      simp only [j_X9_setAt_37, lk_96 h, lr_96_0 h, bd1_s, ↓reduceIte, show (2 : Int32) = nI 2 from rfl, la_97 h (show 2 < 1444 by decide), nx_nI (show 2 < 2 ^ 31 by decide), hn, nI_eq' (show n_ (wI w 97) < 2 ^ 31 by omega) hq, nI_eq' (show p < 2 ^ 31 by omega) hq]
      rfl
    have e3 : sat_ (wI w 97) k p = ps p ||| ps (nxt (n_ (wI w 97)) p) := by unfold sat_; rw [if_pos hk]
    rw [e1]
    by_cases hr : wI w 97 3 = 1
    · rw [if_pos hr, e2 _ (by have := Nat.mod_lt (p + 1) (show 0 < n_ (wI w 97) by omega); omega)]
      have e4 : (p + 1) % n_ (wI w 97) = nxt (n_ (wI w 97)) p := by
        unfold nxt
        by_cases q : p + 1 < n_ (wI w 97)
        · rw [if_pos q, Nat.mod_eq_of_lt q]
        · rw [if_neg q, show p + 1 = n_ (wI w 97) by omega, Nat.mod_self]
      rw [e4, e3]
      have e5 : nxt (n_ (wI w 97)) p ≠ n_ (wI w 97) := by unfold nxt; split <;> omega
      rw [if_neg e5]
      refine ⟨fun f => ?_, fun f => ?_⟩
      · have := f hk
        rw [if_neg (by unfold nxt; split <;> omega)]
      · have e6 : n_ (wI w 97) = 1 := by
          by_cases q : n_ (wI w 97) = 1
          · exact q
          · exact absurd (fun _ => Or.inr ⟨hr, by omega⟩) f
        rw [if_pos (by unfold nxt; split <;> omega)]
    · rw [if_neg hr, e2 _ (by omega)]
      refine ⟨fun f => ?_, fun f => ?_⟩
      · have := f hk
        have q : p + 1 < n_ (wI w 97) := by
          rcases this with q | q
          · exact q
          · exact absurd q.1 hr
        rw [if_neg (by omega), if_neg (by omega), e3]
        unfold nxt
        rw [if_pos q]
      · have q : ¬ p + 1 < n_ (wI w 97) := fun q => f (fun _ => Or.inl q)
        rw [if_pos (by omega)]
  · have e1 : f_X9_setAt 96 k (nI p) w = some (ps p, w) := by
      simp only [f_X9_setAt, m_isBroad, bd2_s, hk, ↓reduceIte]
      rfl
    have e3 : sat_ (wI w 97) k p = ps p := by unfold sat_; rw [if_neg hk]
    rw [e1, e3]
    exact ⟨fun _ => rfl, fun f => absurd (fun q => absurd q hk) f⟩
theorem m_setOf {w : Wd} {σ : Nat → Int32} (h : Lay w) (hσ : wI w 97 = σ) (hS : Sv σ) {i : Nat} (hi : i < c_ σ) : f_X9_setOf 96 (nI i) w = some (so σ i, w) := by
  have hc := hS.c12
  have hi12 : i < 12 := by omega
  have hA := hS.2.2.2.2 i hi
  have hM := @m_setAt w σ h hσ hS
  subst hσ
  simp only [f_X9_setOf, lk_96 h, ↓reduceIte, m_of0 h hi12, m_of1 h hi12, bd2_s]
  unfold so
  rcases hA.2 with e | ⟨p, hp, e, hf⟩
  · rw [e, if_neg (by decide), if_pos m1_lt]
  · rw [e, if_pos (nI_pos' (by have := hS.n12; omega)), if_neg (nI_nlt0 (by have := hS.n12; omega)), (hM _ hp).1 hf, bd2_s, nx_nI (by have := hS.n12; omega)]
    rfl
