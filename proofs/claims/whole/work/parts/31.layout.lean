/-! THE LAYOUT of the cells that the constructors make, and the world behind them -/
def tK_l : List Nat := [8, 1, 0, 14, 11, 11, 16, 11, 4, 4, 4, 4, 4, 4, 4, 4, 4, 4, 4, 4, 1, 0, 14, 11, 11, 16, 11, 4, 4, 4, 4, 4, 4, 4, 4, 4, 4, 4, 4, 1, 0, 14, 11, 11, 16, 11, 4, 4, 4, 4, 4, 4, 4, 4, 4, 4, 4, 4, 2, 11, 11, 6, 11, 11, 11, 13, 15, 11, 3, 11, 3, 11, 3, 11, 3, 11, 5, 4, 3, 11, 5, 4, 3, 11, 5, 4, 3, 11, 5, 4, 3, 11, 5, 4, 3, 11, 9, 11, 11, 11, 11, 11, 11, 10, 11, 11, 11, 12, 11, 11, 11, 11, 11, 11, 11, 11, 11, 11, 11]
def tL_l : List Nat := [10, 11, 4, 12, 12, 4, 14, 3, 4, 4, 4, 4, 4, 4, 4, 4, 4, 4, 4, 4, 11, 4, 12, 12, 4, 14, 3, 4, 4, 4, 4, 4, 4, 4, 4, 4, 4, 4, 4, 11, 4, 12, 12, 4, 14, 3, 4, 4, 4, 4, 4, 4, 4, 4, 4, 4, 4, 4, 4, 4096, 12, 14, 96, 96, 96, 4, 5, 60, 3, 24, 3, 24, 3, 24, 3, 24, 4, 4, 3, 24, 4, 4, 3, 24, 4, 4, 3, 24, 4, 4, 3, 24, 4, 4, 3, 24, 35, 1444, 1444, 1444, 4096, 72, 96, 11, 4, 96, 96, 10, 96, 4, 4, 4, 96, 5, 5, 5, 120, 24, 60]
def tR_l : List (List (Option Nat)) := [[some 1, some 20, some 39, none, some 58, some 61, some 65, some 66, some 67], [some 2, some 3, none, some 4, some 5, none, none, none, some 6, none, some 7], [], [some 8, some 9, some 10, some 11, some 12, some 13, some 14, some 15, some 16, some 17, some 18, some 19], [], [], [], [], [], [], [], [], [], [], [], [], [], [], [], [], [some 21, some 22, none, some 23, some 24, none, none, none, some 25, none, some 26], [], [some 27, some 28, some 29, some 30, some 31, some 32, some 33, some 34, some 35, some 36, some 37, some 38], [], [], [], [], [], [], [], [], [], [], [], [], [], [], [], [], [some 40, some 41, none, some 42, some 43, none, none, none, some 44, none, some 45], [], [some 46, some 47, some 48, some 49, some 50, some 51, some 52, some 53, some 54, some 55, some 56, some 57], [], [], [], [], [], [], [], [], [], [], [], [], [], [], [], [], [some 59, some 60], [], [], [some 62, none, none, none, none, none, none, some 63, none, none, some 64], [], [], [], [some 68, some 70, some 72, some 74], [some 76, some 80, some 84, some 88, some 92], [], [none, none, some 69], [], [none, none, some 71], [], [none, none, some 73], [], [none, none, some 75], [], [none, some 77, some 78], [], [none, none, some 79], [], [none, some 81, some 82], [], [none, none, some 83], [], [none, some 85, some 86], [], [none, none, some 87], [], [none, some 89, some 90], [], [none, none, some 91], [], [none, some 93, some 94], [], [none, none, some 95], [], [some 97, some 98, some 99, none, none, some 100, some 101, some 102, none, none, none, none, none, none, none, some 103, some 104, some 105, none, none, some 106, none, some 107, some 108, some 109, some 110, some 111, some 112, some 113, some 114, some 115, some 116, some 117, some 118], [], [], [], [], [], [], [], [], [], [], [], [], [], [], [], [], [], [], [], [], [], []]
def tK (a : Nat) : Nat := tK_l.getD a 99
def tL (a : Nat) : Nat := tL_l.getD a 0
def tRr (a j : Nat) : Option Nat := (tR_l.getD a []).getD j none
def Lay (w : Wd) : Prop := 119 ≤ wN w ∧ wN w % 3 = 2 ∧ ∀ a, a < 119 → wK w a = tK a ∧ wL w a = tL a ∧ (tK a ≠ 16 → ∀ j, j < 40 → wR w a j = tRr a j)
def chk_ (w : Wd) : Bool := decide (wN w = 119) && (List.range 119).all (fun a => decide (wK w a = tK a) && (decide (wL w a = tL a) && (decide (tK a = 16) || (List.range 40).all (fun j => decide (wR w a j = tRr a j)))))
def w_1 : Option (Unit × Wd) := f_X8_init 0 (nC w_e 8 10)
def w_2 : Option (Unit × Wd) := match w_1 with
  | none => none
  | some (_, w) => if wN w = 96 then f_X9_init 96 (nC w 9 35) else none
set_option maxRecDepth 100000 in
theorem w_2_ok : w_2.isSome = true := by decide +kernel
def w_0 : Wd := (w_2.get w_2_ok).2
set_option maxRecDepth 100000 in
theorem chk_0 : chk_ w_0 = true := by decide +kernel
theorem Lay_0 : Lay w_0 := by
  have h := chk_0
  simp only [chk_, Bool.and_eq_true, decide_eq_true_eq, List.all_eq_true, List.mem_range, Bool.or_eq_true] at h
  obtain ⟨h1, h2⟩ := h
  refine ⟨by omega, by omega, fun a ha => ⟨(h2 a ha).1, (h2 a ha).2.1, fun h3 j hj => ?_⟩⟩
  rcases (h2 a ha).2.2 with q | q
  · exact absurd q h3
  · exact q j hj
theorem law_0 (xs : Nat → Int32) (L : Nat) : f_L_law xs L w_e = L_L_law_18 xs L FU 0 96 0 w_0 := by
  have h2 : w_2 = some ((), w_0) := by
    have := Option.some_get w_2_ok
    rw [← this]; rfl
  have h1 : ∃ w, w_1 = some ((), w) ∧ wN w = 96 ∧ f_X9_init 96 (nC w 9 35) = some ((), w_0) := by
    unfold w_2 at h2
    cases e : w_1 with
    | none => rw [e] at h2; cases h2
    | some q =>
      obtain ⟨u, w⟩ := q
      rw [e] at h2
      by_cases c : wN w = 96
      · refine ⟨w, rfl, c, ?_⟩
        simp only [c, if_true] at h2
        exact h2
      · simp only [c, if_false] at h2
        cases h2
  obtain ⟨w, e1, e2, e3⟩ := h1
  unfold f_L_law
  rw [lb_e, lb_e, show wN w_e = 0 from rfl, show f_X8_init 0 (nC w_e 8 10) = some ((), w) from e1, bd2_s, lb_e, lb_e, e2, e3, bd2_s]
theorem Lay.k {w : Wd} (h : Lay w) (a : Nat) {k : Nat} (ha : a < 119) (e : tK a = k) : wK w a = k := by rw [(h.2.2 a ha).1, e]
theorem Lay.l {w : Wd} (h : Lay w) (a : Nat) {k : Nat} (ha : a < 119) (e : tL a = k) : wL w a = k := by rw [(h.2.2 a ha).2.1, e]
theorem Lay.r {w : Wd} (h : Lay w) (a j : Nat) {o : Option Nat} (ha : a < 119) (h6 : tK a ≠ 16) (hj : j < 40) (e : tRr a j = o) : wR w a j = o := by rw [(h.2.2 a ha).2.2 h6 j hj, e]
theorem Lay.same {w w' : Wd} (h : Lay w) (h1 : wN w' = wN w) (h2 : wK w' = wK w) (h3 : wL w' = wL w) (h4 : wR w' = wR w) : Lay w' := by
  unfold Lay
  rw [h1, h2, h3, h4]
  exact h
theorem Lay.sI {w : Wd} (h : Lay w) (a j : Nat) (v : Int32) : Lay (sI w a j v) := h
theorem Lay.cp {w : Wd} (h : Lay w) (a b : Nat) (sp dp n : Int32) : Lay (cp_W w a sp b dp n) := h
theorem lk_0 {w : Wd} (h : Lay w) : wK w 0 = 8 := h.k 0 (by decide) rfl
theorem lr_0_0 {w : Wd} (h : Lay w) : wR w 0 0 = some 1 := h.r 0 0 (by decide) (by decide) (by decide) rfl
theorem lr_0_1 {w : Wd} (h : Lay w) : wR w 0 1 = some 20 := h.r 0 1 (by decide) (by decide) (by decide) rfl
theorem lr_0_2 {w : Wd} (h : Lay w) : wR w 0 2 = some 39 := h.r 0 2 (by decide) (by decide) (by decide) rfl
theorem lr_0_4 {w : Wd} (h : Lay w) : wR w 0 4 = some 58 := h.r 0 4 (by decide) (by decide) (by decide) rfl
theorem lr_0_5 {w : Wd} (h : Lay w) : wR w 0 5 = some 61 := h.r 0 5 (by decide) (by decide) (by decide) rfl
theorem lr_0_6 {w : Wd} (h : Lay w) : wR w 0 6 = some 65 := h.r 0 6 (by decide) (by decide) (by decide) rfl
theorem lr_0_7 {w : Wd} (h : Lay w) : wR w 0 7 = some 66 := h.r 0 7 (by decide) (by decide) (by decide) rfl
theorem lr_0_8 {w : Wd} (h : Lay w) : wR w 0 8 = some 67 := h.r 0 8 (by decide) (by decide) (by decide) rfl
theorem lk_58 {w : Wd} (h : Lay w) : wK w 58 = 2 := h.k 58 (by decide) rfl
theorem lr_58_0 {w : Wd} (h : Lay w) : wR w 58 0 = some 59 := h.r 58 0 (by decide) (by decide) (by decide) rfl
theorem lr_58_1 {w : Wd} (h : Lay w) : wR w 58 1 = some 60 := h.r 58 1 (by decide) (by decide) (by decide) rfl
theorem lk_59 {w : Wd} (h : Lay w) : wK w 59 = 11 := h.k 59 (by decide) rfl
theorem ll_59 {w : Wd} (h : Lay w) : wL w 59 = 4096 := h.l 59 (by decide) rfl
theorem la_59 {w : Wd} (h : Lay w) {i : Nat} (hi : i < 4096) : aK 11 w 59 (nI i) = true := aK_k (lk_59 h) (ll_59 h) hi (by decide)
theorem lk_60 {w : Wd} (h : Lay w) : wK w 60 = 11 := h.k 60 (by decide) rfl
theorem ll_60 {w : Wd} (h : Lay w) : wL w 60 = 12 := h.l 60 (by decide) rfl
theorem la_60 {w : Wd} (h : Lay w) {i : Nat} (hi : i < 12) : aK 11 w 60 (nI i) = true := aK_k (lk_60 h) (ll_60 h) hi (by decide)
theorem lk_61 {w : Wd} (h : Lay w) : wK w 61 = 6 := h.k 61 (by decide) rfl
theorem lr_61_0 {w : Wd} (h : Lay w) : wR w 61 0 = some 62 := h.r 61 0 (by decide) (by decide) (by decide) rfl
theorem lr_61_7 {w : Wd} (h : Lay w) : wR w 61 7 = some 63 := h.r 61 7 (by decide) (by decide) (by decide) rfl
theorem lr_61_10 {w : Wd} (h : Lay w) : wR w 61 10 = some 64 := h.r 61 10 (by decide) (by decide) (by decide) rfl
theorem lk_62 {w : Wd} (h : Lay w) : wK w 62 = 11 := h.k 62 (by decide) rfl
theorem ll_62 {w : Wd} (h : Lay w) : wL w 62 = 96 := h.l 62 (by decide) rfl
theorem la_62 {w : Wd} (h : Lay w) {i : Nat} (hi : i < 96) : aK 11 w 62 (nI i) = true := aK_k (lk_62 h) (ll_62 h) hi (by decide)
theorem lk_63 {w : Wd} (h : Lay w) : wK w 63 = 11 := h.k 63 (by decide) rfl
theorem ll_63 {w : Wd} (h : Lay w) : wL w 63 = 96 := h.l 63 (by decide) rfl
theorem la_63 {w : Wd} (h : Lay w) {i : Nat} (hi : i < 96) : aK 11 w 63 (nI i) = true := aK_k (lk_63 h) (ll_63 h) hi (by decide)
theorem lk_64 {w : Wd} (h : Lay w) : wK w 64 = 11 := h.k 64 (by decide) rfl
theorem ll_64 {w : Wd} (h : Lay w) : wL w 64 = 96 := h.l 64 (by decide) rfl
theorem la_64 {w : Wd} (h : Lay w) {i : Nat} (hi : i < 96) : aK 11 w 64 (nI i) = true := aK_k (lk_64 h) (ll_64 h) hi (by decide)
theorem lk_65 {w : Wd} (h : Lay w) : wK w 65 = 13 := h.k 65 (by decide) rfl
theorem ll_65 {w : Wd} (h : Lay w) : wL w 65 = 4 := h.l 65 (by decide) rfl
theorem lk_66 {w : Wd} (h : Lay w) : wK w 66 = 15 := h.k 66 (by decide) rfl
theorem ll_66 {w : Wd} (h : Lay w) : wL w 66 = 5 := h.l 66 (by decide) rfl
theorem lk_67 {w : Wd} (h : Lay w) : wK w 67 = 11 := h.k 67 (by decide) rfl
theorem ll_67 {w : Wd} (h : Lay w) : wL w 67 = 60 := h.l 67 (by decide) rfl
theorem la_67 {w : Wd} (h : Lay w) {i : Nat} (hi : i < 60) : aK 11 w 67 (nI i) = true := aK_k (lk_67 h) (ll_67 h) hi (by decide)
theorem lk_68 {w : Wd} (h : Lay w) : wK w 68 = 3 := h.k 68 (by decide) rfl
theorem lr_68_2 {w : Wd} (h : Lay w) : wR w 68 2 = some 69 := h.r 68 2 (by decide) (by decide) (by decide) rfl
theorem lk_69 {w : Wd} (h : Lay w) : wK w 69 = 11 := h.k 69 (by decide) rfl
theorem ll_69 {w : Wd} (h : Lay w) : wL w 69 = 24 := h.l 69 (by decide) rfl
theorem la_69 {w : Wd} (h : Lay w) {i : Nat} (hi : i < 24) : aK 11 w 69 (nI i) = true := aK_k (lk_69 h) (ll_69 h) hi (by decide)
theorem lk_70 {w : Wd} (h : Lay w) : wK w 70 = 3 := h.k 70 (by decide) rfl
theorem lr_70_2 {w : Wd} (h : Lay w) : wR w 70 2 = some 71 := h.r 70 2 (by decide) (by decide) (by decide) rfl
theorem lk_71 {w : Wd} (h : Lay w) : wK w 71 = 11 := h.k 71 (by decide) rfl
theorem ll_71 {w : Wd} (h : Lay w) : wL w 71 = 24 := h.l 71 (by decide) rfl
theorem la_71 {w : Wd} (h : Lay w) {i : Nat} (hi : i < 24) : aK 11 w 71 (nI i) = true := aK_k (lk_71 h) (ll_71 h) hi (by decide)
theorem lk_72 {w : Wd} (h : Lay w) : wK w 72 = 3 := h.k 72 (by decide) rfl
theorem lr_72_2 {w : Wd} (h : Lay w) : wR w 72 2 = some 73 := h.r 72 2 (by decide) (by decide) (by decide) rfl
theorem lk_73 {w : Wd} (h : Lay w) : wK w 73 = 11 := h.k 73 (by decide) rfl
theorem ll_73 {w : Wd} (h : Lay w) : wL w 73 = 24 := h.l 73 (by decide) rfl
theorem la_73 {w : Wd} (h : Lay w) {i : Nat} (hi : i < 24) : aK 11 w 73 (nI i) = true := aK_k (lk_73 h) (ll_73 h) hi (by decide)
theorem lk_74 {w : Wd} (h : Lay w) : wK w 74 = 3 := h.k 74 (by decide) rfl
theorem lr_74_2 {w : Wd} (h : Lay w) : wR w 74 2 = some 75 := h.r 74 2 (by decide) (by decide) (by decide) rfl
theorem lk_75 {w : Wd} (h : Lay w) : wK w 75 = 11 := h.k 75 (by decide) rfl
theorem ll_75 {w : Wd} (h : Lay w) : wL w 75 = 24 := h.l 75 (by decide) rfl
theorem la_75 {w : Wd} (h : Lay w) {i : Nat} (hi : i < 24) : aK 11 w 75 (nI i) = true := aK_k (lk_75 h) (ll_75 h) hi (by decide)
theorem lk_76 {w : Wd} (h : Lay w) : wK w 76 = 5 := h.k 76 (by decide) rfl
theorem lr_76_1 {w : Wd} (h : Lay w) : wR w 76 1 = some 77 := h.r 76 1 (by decide) (by decide) (by decide) rfl
theorem lr_76_2 {w : Wd} (h : Lay w) : wR w 76 2 = some 78 := h.r 76 2 (by decide) (by decide) (by decide) rfl
theorem lk_77 {w : Wd} (h : Lay w) : wK w 77 = 4 := h.k 77 (by decide) rfl
theorem lk_78 {w : Wd} (h : Lay w) : wK w 78 = 3 := h.k 78 (by decide) rfl
theorem lr_78_2 {w : Wd} (h : Lay w) : wR w 78 2 = some 79 := h.r 78 2 (by decide) (by decide) (by decide) rfl
theorem lk_79 {w : Wd} (h : Lay w) : wK w 79 = 11 := h.k 79 (by decide) rfl
theorem ll_79 {w : Wd} (h : Lay w) : wL w 79 = 24 := h.l 79 (by decide) rfl
theorem la_79 {w : Wd} (h : Lay w) {i : Nat} (hi : i < 24) : aK 11 w 79 (nI i) = true := aK_k (lk_79 h) (ll_79 h) hi (by decide)
theorem lk_80 {w : Wd} (h : Lay w) : wK w 80 = 5 := h.k 80 (by decide) rfl
theorem lr_80_1 {w : Wd} (h : Lay w) : wR w 80 1 = some 81 := h.r 80 1 (by decide) (by decide) (by decide) rfl
theorem lr_80_2 {w : Wd} (h : Lay w) : wR w 80 2 = some 82 := h.r 80 2 (by decide) (by decide) (by decide) rfl
theorem lk_81 {w : Wd} (h : Lay w) : wK w 81 = 4 := h.k 81 (by decide) rfl
theorem lk_82 {w : Wd} (h : Lay w) : wK w 82 = 3 := h.k 82 (by decide) rfl
theorem lr_82_2 {w : Wd} (h : Lay w) : wR w 82 2 = some 83 := h.r 82 2 (by decide) (by decide) (by decide) rfl
theorem lk_83 {w : Wd} (h : Lay w) : wK w 83 = 11 := h.k 83 (by decide) rfl
theorem ll_83 {w : Wd} (h : Lay w) : wL w 83 = 24 := h.l 83 (by decide) rfl
theorem la_83 {w : Wd} (h : Lay w) {i : Nat} (hi : i < 24) : aK 11 w 83 (nI i) = true := aK_k (lk_83 h) (ll_83 h) hi (by decide)
theorem lk_84 {w : Wd} (h : Lay w) : wK w 84 = 5 := h.k 84 (by decide) rfl
theorem lr_84_1 {w : Wd} (h : Lay w) : wR w 84 1 = some 85 := h.r 84 1 (by decide) (by decide) (by decide) rfl
theorem lr_84_2 {w : Wd} (h : Lay w) : wR w 84 2 = some 86 := h.r 84 2 (by decide) (by decide) (by decide) rfl
theorem lk_85 {w : Wd} (h : Lay w) : wK w 85 = 4 := h.k 85 (by decide) rfl
theorem lk_86 {w : Wd} (h : Lay w) : wK w 86 = 3 := h.k 86 (by decide) rfl
theorem lr_86_2 {w : Wd} (h : Lay w) : wR w 86 2 = some 87 := h.r 86 2 (by decide) (by decide) (by decide) rfl
theorem lk_87 {w : Wd} (h : Lay w) : wK w 87 = 11 := h.k 87 (by decide) rfl
theorem ll_87 {w : Wd} (h : Lay w) : wL w 87 = 24 := h.l 87 (by decide) rfl
theorem la_87 {w : Wd} (h : Lay w) {i : Nat} (hi : i < 24) : aK 11 w 87 (nI i) = true := aK_k (lk_87 h) (ll_87 h) hi (by decide)
theorem lk_88 {w : Wd} (h : Lay w) : wK w 88 = 5 := h.k 88 (by decide) rfl
theorem lr_88_1 {w : Wd} (h : Lay w) : wR w 88 1 = some 89 := h.r 88 1 (by decide) (by decide) (by decide) rfl
theorem lr_88_2 {w : Wd} (h : Lay w) : wR w 88 2 = some 90 := h.r 88 2 (by decide) (by decide) (by decide) rfl
theorem lk_89 {w : Wd} (h : Lay w) : wK w 89 = 4 := h.k 89 (by decide) rfl
theorem lk_90 {w : Wd} (h : Lay w) : wK w 90 = 3 := h.k 90 (by decide) rfl
theorem lr_90_2 {w : Wd} (h : Lay w) : wR w 90 2 = some 91 := h.r 90 2 (by decide) (by decide) (by decide) rfl
theorem lk_91 {w : Wd} (h : Lay w) : wK w 91 = 11 := h.k 91 (by decide) rfl
theorem ll_91 {w : Wd} (h : Lay w) : wL w 91 = 24 := h.l 91 (by decide) rfl
theorem la_91 {w : Wd} (h : Lay w) {i : Nat} (hi : i < 24) : aK 11 w 91 (nI i) = true := aK_k (lk_91 h) (ll_91 h) hi (by decide)
theorem lk_92 {w : Wd} (h : Lay w) : wK w 92 = 5 := h.k 92 (by decide) rfl
theorem lr_92_1 {w : Wd} (h : Lay w) : wR w 92 1 = some 93 := h.r 92 1 (by decide) (by decide) (by decide) rfl
theorem lr_92_2 {w : Wd} (h : Lay w) : wR w 92 2 = some 94 := h.r 92 2 (by decide) (by decide) (by decide) rfl
theorem lk_93 {w : Wd} (h : Lay w) : wK w 93 = 4 := h.k 93 (by decide) rfl
theorem lk_94 {w : Wd} (h : Lay w) : wK w 94 = 3 := h.k 94 (by decide) rfl
theorem lr_94_2 {w : Wd} (h : Lay w) : wR w 94 2 = some 95 := h.r 94 2 (by decide) (by decide) (by decide) rfl
theorem lk_95 {w : Wd} (h : Lay w) : wK w 95 = 11 := h.k 95 (by decide) rfl
theorem ll_95 {w : Wd} (h : Lay w) : wL w 95 = 24 := h.l 95 (by decide) rfl
theorem la_95 {w : Wd} (h : Lay w) {i : Nat} (hi : i < 24) : aK 11 w 95 (nI i) = true := aK_k (lk_95 h) (ll_95 h) hi (by decide)
theorem lk_96 {w : Wd} (h : Lay w) : wK w 96 = 9 := h.k 96 (by decide) rfl
theorem lr_96_0 {w : Wd} (h : Lay w) : wR w 96 0 = some 97 := h.r 96 0 (by decide) (by decide) (by decide) rfl
theorem lr_96_1 {w : Wd} (h : Lay w) : wR w 96 1 = some 98 := h.r 96 1 (by decide) (by decide) (by decide) rfl
theorem lr_96_2 {w : Wd} (h : Lay w) : wR w 96 2 = some 99 := h.r 96 2 (by decide) (by decide) (by decide) rfl
theorem lr_96_5 {w : Wd} (h : Lay w) : wR w 96 5 = some 100 := h.r 96 5 (by decide) (by decide) (by decide) rfl
theorem lr_96_6 {w : Wd} (h : Lay w) : wR w 96 6 = some 101 := h.r 96 6 (by decide) (by decide) (by decide) rfl
theorem lr_96_7 {w : Wd} (h : Lay w) : wR w 96 7 = some 102 := h.r 96 7 (by decide) (by decide) (by decide) rfl
theorem lr_96_15 {w : Wd} (h : Lay w) : wR w 96 15 = some 103 := h.r 96 15 (by decide) (by decide) (by decide) rfl
theorem lr_96_16 {w : Wd} (h : Lay w) : wR w 96 16 = some 104 := h.r 96 16 (by decide) (by decide) (by decide) rfl
theorem lr_96_17 {w : Wd} (h : Lay w) : wR w 96 17 = some 105 := h.r 96 17 (by decide) (by decide) (by decide) rfl
theorem lr_96_20 {w : Wd} (h : Lay w) : wR w 96 20 = some 106 := h.r 96 20 (by decide) (by decide) (by decide) rfl
theorem lr_96_22 {w : Wd} (h : Lay w) : wR w 96 22 = some 107 := h.r 96 22 (by decide) (by decide) (by decide) rfl
theorem lr_96_23 {w : Wd} (h : Lay w) : wR w 96 23 = some 108 := h.r 96 23 (by decide) (by decide) (by decide) rfl
theorem lr_96_24 {w : Wd} (h : Lay w) : wR w 96 24 = some 109 := h.r 96 24 (by decide) (by decide) (by decide) rfl
theorem lr_96_25 {w : Wd} (h : Lay w) : wR w 96 25 = some 110 := h.r 96 25 (by decide) (by decide) (by decide) rfl
theorem lr_96_26 {w : Wd} (h : Lay w) : wR w 96 26 = some 111 := h.r 96 26 (by decide) (by decide) (by decide) rfl
theorem lr_96_27 {w : Wd} (h : Lay w) : wR w 96 27 = some 112 := h.r 96 27 (by decide) (by decide) (by decide) rfl
theorem lr_96_28 {w : Wd} (h : Lay w) : wR w 96 28 = some 113 := h.r 96 28 (by decide) (by decide) (by decide) rfl
theorem lr_96_29 {w : Wd} (h : Lay w) : wR w 96 29 = some 114 := h.r 96 29 (by decide) (by decide) (by decide) rfl
theorem lr_96_30 {w : Wd} (h : Lay w) : wR w 96 30 = some 115 := h.r 96 30 (by decide) (by decide) (by decide) rfl
theorem lr_96_31 {w : Wd} (h : Lay w) : wR w 96 31 = some 116 := h.r 96 31 (by decide) (by decide) (by decide) rfl
theorem lr_96_32 {w : Wd} (h : Lay w) : wR w 96 32 = some 117 := h.r 96 32 (by decide) (by decide) (by decide) rfl
theorem lr_96_33 {w : Wd} (h : Lay w) : wR w 96 33 = some 118 := h.r 96 33 (by decide) (by decide) (by decide) rfl
theorem lk_97 {w : Wd} (h : Lay w) : wK w 97 = 11 := h.k 97 (by decide) rfl
theorem ll_97 {w : Wd} (h : Lay w) : wL w 97 = 1444 := h.l 97 (by decide) rfl
theorem la_97 {w : Wd} (h : Lay w) {i : Nat} (hi : i < 1444) : aK 11 w 97 (nI i) = true := aK_k (lk_97 h) (ll_97 h) hi (by decide)
theorem lk_98 {w : Wd} (h : Lay w) : wK w 98 = 11 := h.k 98 (by decide) rfl
theorem ll_98 {w : Wd} (h : Lay w) : wL w 98 = 1444 := h.l 98 (by decide) rfl
theorem la_98 {w : Wd} (h : Lay w) {i : Nat} (hi : i < 1444) : aK 11 w 98 (nI i) = true := aK_k (lk_98 h) (ll_98 h) hi (by decide)
theorem lk_99 {w : Wd} (h : Lay w) : wK w 99 = 11 := h.k 99 (by decide) rfl
theorem ll_99 {w : Wd} (h : Lay w) : wL w 99 = 1444 := h.l 99 (by decide) rfl
theorem la_99 {w : Wd} (h : Lay w) {i : Nat} (hi : i < 1444) : aK 11 w 99 (nI i) = true := aK_k (lk_99 h) (ll_99 h) hi (by decide)
theorem lk_100 {w : Wd} (h : Lay w) : wK w 100 = 11 := h.k 100 (by decide) rfl
theorem ll_100 {w : Wd} (h : Lay w) : wL w 100 = 4096 := h.l 100 (by decide) rfl
theorem la_100 {w : Wd} (h : Lay w) {i : Nat} (hi : i < 4096) : aK 11 w 100 (nI i) = true := aK_k (lk_100 h) (ll_100 h) hi (by decide)
theorem lk_101 {w : Wd} (h : Lay w) : wK w 101 = 11 := h.k 101 (by decide) rfl
theorem ll_101 {w : Wd} (h : Lay w) : wL w 101 = 72 := h.l 101 (by decide) rfl
theorem la_101 {w : Wd} (h : Lay w) {i : Nat} (hi : i < 72) : aK 11 w 101 (nI i) = true := aK_k (lk_101 h) (ll_101 h) hi (by decide)
theorem lk_102 {w : Wd} (h : Lay w) : wK w 102 = 11 := h.k 102 (by decide) rfl
theorem ll_102 {w : Wd} (h : Lay w) : wL w 102 = 96 := h.l 102 (by decide) rfl
theorem la_102 {w : Wd} (h : Lay w) {i : Nat} (hi : i < 96) : aK 11 w 102 (nI i) = true := aK_k (lk_102 h) (ll_102 h) hi (by decide)
theorem lk_103 {w : Wd} (h : Lay w) : wK w 103 = 10 := h.k 103 (by decide) rfl
theorem ll_103 {w : Wd} (h : Lay w) : wL w 103 = 11 := h.l 103 (by decide) rfl
theorem la_103 {w : Wd} (h : Lay w) {i : Nat} (hi : i < 11) : aK 10 w 103 (nI i) = true := aK_k (lk_103 h) (ll_103 h) hi (by decide)
theorem lk_104 {w : Wd} (h : Lay w) : wK w 104 = 11 := h.k 104 (by decide) rfl
theorem ll_104 {w : Wd} (h : Lay w) : wL w 104 = 4 := h.l 104 (by decide) rfl
theorem la_104 {w : Wd} (h : Lay w) {i : Nat} (hi : i < 4) : aK 11 w 104 (nI i) = true := aK_k (lk_104 h) (ll_104 h) hi (by decide)
theorem lk_105 {w : Wd} (h : Lay w) : wK w 105 = 11 := h.k 105 (by decide) rfl
theorem ll_105 {w : Wd} (h : Lay w) : wL w 105 = 96 := h.l 105 (by decide) rfl
theorem la_105 {w : Wd} (h : Lay w) {i : Nat} (hi : i < 96) : aK 11 w 105 (nI i) = true := aK_k (lk_105 h) (ll_105 h) hi (by decide)
theorem lk_106 {w : Wd} (h : Lay w) : wK w 106 = 11 := h.k 106 (by decide) rfl
theorem ll_106 {w : Wd} (h : Lay w) : wL w 106 = 96 := h.l 106 (by decide) rfl
theorem la_106 {w : Wd} (h : Lay w) {i : Nat} (hi : i < 96) : aK 11 w 106 (nI i) = true := aK_k (lk_106 h) (ll_106 h) hi (by decide)
theorem lk_107 {w : Wd} (h : Lay w) : wK w 107 = 12 := h.k 107 (by decide) rfl
theorem ll_107 {w : Wd} (h : Lay w) : wL w 107 = 10 := h.l 107 (by decide) rfl
theorem la_107 {w : Wd} (h : Lay w) {i : Nat} (hi : i < 10) : aK 12 w 107 (nI i) = true := aK_k (lk_107 h) (ll_107 h) hi (by decide)
theorem lk_108 {w : Wd} (h : Lay w) : wK w 108 = 11 := h.k 108 (by decide) rfl
theorem ll_108 {w : Wd} (h : Lay w) : wL w 108 = 96 := h.l 108 (by decide) rfl
theorem la_108 {w : Wd} (h : Lay w) {i : Nat} (hi : i < 96) : aK 11 w 108 (nI i) = true := aK_k (lk_108 h) (ll_108 h) hi (by decide)
theorem lk_109 {w : Wd} (h : Lay w) : wK w 109 = 11 := h.k 109 (by decide) rfl
theorem ll_109 {w : Wd} (h : Lay w) : wL w 109 = 4 := h.l 109 (by decide) rfl
theorem la_109 {w : Wd} (h : Lay w) {i : Nat} (hi : i < 4) : aK 11 w 109 (nI i) = true := aK_k (lk_109 h) (ll_109 h) hi (by decide)
theorem lk_110 {w : Wd} (h : Lay w) : wK w 110 = 11 := h.k 110 (by decide) rfl
theorem ll_110 {w : Wd} (h : Lay w) : wL w 110 = 4 := h.l 110 (by decide) rfl
theorem la_110 {w : Wd} (h : Lay w) {i : Nat} (hi : i < 4) : aK 11 w 110 (nI i) = true := aK_k (lk_110 h) (ll_110 h) hi (by decide)
theorem lk_111 {w : Wd} (h : Lay w) : wK w 111 = 11 := h.k 111 (by decide) rfl
theorem ll_111 {w : Wd} (h : Lay w) : wL w 111 = 4 := h.l 111 (by decide) rfl
theorem la_111 {w : Wd} (h : Lay w) {i : Nat} (hi : i < 4) : aK 11 w 111 (nI i) = true := aK_k (lk_111 h) (ll_111 h) hi (by decide)
theorem lk_112 {w : Wd} (h : Lay w) : wK w 112 = 11 := h.k 112 (by decide) rfl
theorem ll_112 {w : Wd} (h : Lay w) : wL w 112 = 96 := h.l 112 (by decide) rfl
theorem la_112 {w : Wd} (h : Lay w) {i : Nat} (hi : i < 96) : aK 11 w 112 (nI i) = true := aK_k (lk_112 h) (ll_112 h) hi (by decide)
theorem lk_113 {w : Wd} (h : Lay w) : wK w 113 = 11 := h.k 113 (by decide) rfl
theorem ll_113 {w : Wd} (h : Lay w) : wL w 113 = 5 := h.l 113 (by decide) rfl
theorem la_113 {w : Wd} (h : Lay w) {i : Nat} (hi : i < 5) : aK 11 w 113 (nI i) = true := aK_k (lk_113 h) (ll_113 h) hi (by decide)
theorem lk_114 {w : Wd} (h : Lay w) : wK w 114 = 11 := h.k 114 (by decide) rfl
theorem ll_114 {w : Wd} (h : Lay w) : wL w 114 = 5 := h.l 114 (by decide) rfl
theorem la_114 {w : Wd} (h : Lay w) {i : Nat} (hi : i < 5) : aK 11 w 114 (nI i) = true := aK_k (lk_114 h) (ll_114 h) hi (by decide)
theorem lk_115 {w : Wd} (h : Lay w) : wK w 115 = 11 := h.k 115 (by decide) rfl
theorem ll_115 {w : Wd} (h : Lay w) : wL w 115 = 5 := h.l 115 (by decide) rfl
theorem la_115 {w : Wd} (h : Lay w) {i : Nat} (hi : i < 5) : aK 11 w 115 (nI i) = true := aK_k (lk_115 h) (ll_115 h) hi (by decide)
theorem lk_116 {w : Wd} (h : Lay w) : wK w 116 = 11 := h.k 116 (by decide) rfl
theorem ll_116 {w : Wd} (h : Lay w) : wL w 116 = 120 := h.l 116 (by decide) rfl
theorem la_116 {w : Wd} (h : Lay w) {i : Nat} (hi : i < 120) : aK 11 w 116 (nI i) = true := aK_k (lk_116 h) (ll_116 h) hi (by decide)
theorem lk_117 {w : Wd} (h : Lay w) : wK w 117 = 11 := h.k 117 (by decide) rfl
theorem ll_117 {w : Wd} (h : Lay w) : wL w 117 = 24 := h.l 117 (by decide) rfl
theorem la_117 {w : Wd} (h : Lay w) {i : Nat} (hi : i < 24) : aK 11 w 117 (nI i) = true := aK_k (lk_117 h) (ll_117 h) hi (by decide)
theorem lk_118 {w : Wd} (h : Lay w) : wK w 118 = 11 := h.k 118 (by decide) rfl
theorem ll_118 {w : Wd} (h : Lay w) : wL w 118 = 60 := h.l 118 (by decide) rfl
theorem la_118 {w : Wd} (h : Lay w) {i : Nat} (hi : i < 60) : aK 11 w 118 (nI i) = true := aK_k (lk_118 h) (ll_118 h) hi (by decide)
def bI (b : Nat) : Prop := b = 1 ∨ b = 20 ∨ b = 39
/-- the cells of an Inn at b -/
theorem li_k {w : Wd} {b : Nat} (h : Lay w) (hb : bI b) : wK w b = 1 := by rcases hb with e | e | e <;> subst e <;> exact h.k _ (by decide) rfl
theorem li_r0 {w : Wd} {b : Nat} (h : Lay w) (hb : bI b) : wR w b 0 = some (b + 1) := by rcases hb with e | e | e <;> subst e <;> exact h.r _ _ (by decide) (by decide) (by decide) rfl
theorem li_r1 {w : Wd} {b : Nat} (h : Lay w) (hb : bI b) : wR w b 1 = some (b + 2) := by rcases hb with e | e | e <;> subst e <;> exact h.r _ _ (by decide) (by decide) (by decide) rfl
theorem li_r3 {w : Wd} {b : Nat} (h : Lay w) (hb : bI b) : wR w b 3 = some (b + 3) := by rcases hb with e | e | e <;> subst e <;> exact h.r _ _ (by decide) (by decide) (by decide) rfl
theorem li_r4 {w : Wd} {b : Nat} (h : Lay w) (hb : bI b) : wR w b 4 = some (b + 4) := by rcases hb with e | e | e <;> subst e <;> exact h.r _ _ (by decide) (by decide) (by decide) rfl
theorem li_r8 {w : Wd} {b : Nat} (h : Lay w) (hb : bI b) : wR w b 8 = some (b + 5) := by rcases hb with e | e | e <;> subst e <;> exact h.r _ _ (by decide) (by decide) (by decide) rfl
theorem li_r10 {w : Wd} {b : Nat} (h : Lay w) (hb : bI b) : wR w b 10 = some (b + 6) := by rcases hb with e | e | e <;> subst e <;> exact h.r _ _ (by decide) (by decide) (by decide) rfl
theorem li_k1 {w : Wd} {b : Nat} (h : Lay w) (hb : bI b) : wK w (b + 1) = 0 := by rcases hb with e | e | e <;> subst e <;> exact h.k _ (by decide) rfl
theorem li_k2 {w : Wd} {b : Nat} (h : Lay w) (hb : bI b) : wK w (b + 2) = 14 := by rcases hb with e | e | e <;> subst e <;> exact h.k _ (by decide) rfl
theorem li_l2 {w : Wd} {b : Nat} (h : Lay w) (hb : bI b) : wL w (b + 2) = 12 := by rcases hb with e | e | e <;> subst e <;> exact h.l _ (by decide) rfl
theorem li_a2 {w : Wd} {b : Nat} (h : Lay w) (hb : bI b) {i : Nat} (hi : i < 12) : aK 14 w (b + 2) (nI i) = true := aK_k (li_k2 h hb) (li_l2 h hb) hi (by decide)
theorem li_k3 {w : Wd} {b : Nat} (h : Lay w) (hb : bI b) : wK w (b + 3) = 11 := by rcases hb with e | e | e <;> subst e <;> exact h.k _ (by decide) rfl
theorem li_l3 {w : Wd} {b : Nat} (h : Lay w) (hb : bI b) : wL w (b + 3) = 12 := by rcases hb with e | e | e <;> subst e <;> exact h.l _ (by decide) rfl
theorem li_a3 {w : Wd} {b : Nat} (h : Lay w) (hb : bI b) {i : Nat} (hi : i < 12) : aK 11 w (b + 3) (nI i) = true := aK_k (li_k3 h hb) (li_l3 h hb) hi (by decide)
theorem li_k4 {w : Wd} {b : Nat} (h : Lay w) (hb : bI b) : wK w (b + 4) = 11 := by rcases hb with e | e | e <;> subst e <;> exact h.k _ (by decide) rfl
theorem li_l4 {w : Wd} {b : Nat} (h : Lay w) (hb : bI b) : wL w (b + 4) = 4 := by rcases hb with e | e | e <;> subst e <;> exact h.l _ (by decide) rfl
theorem li_a4 {w : Wd} {b : Nat} (h : Lay w) (hb : bI b) {i : Nat} (hi : i < 4) : aK 11 w (b + 4) (nI i) = true := aK_k (li_k4 h hb) (li_l4 h hb) hi (by decide)
theorem li_k5 {w : Wd} {b : Nat} (h : Lay w) (hb : bI b) : wK w (b + 5) = 16 := by rcases hb with e | e | e <;> subst e <;> exact h.k _ (by decide) rfl
theorem li_l5 {w : Wd} {b : Nat} (h : Lay w) (hb : bI b) : wL w (b + 5) = 14 := by rcases hb with e | e | e <;> subst e <;> exact h.l _ (by decide) rfl
theorem li_a5 {w : Wd} {b : Nat} (h : Lay w) (hb : bI b) {i : Nat} (hi : i < 14) : aK 16 w (b + 5) (nI i) = true := aK_k (li_k5 h hb) (li_l5 h hb) hi (by decide)
theorem li_k6 {w : Wd} {b : Nat} (h : Lay w) (hb : bI b) : wK w (b + 6) = 11 := by rcases hb with e | e | e <;> subst e <;> exact h.k _ (by decide) rfl
theorem li_l6 {w : Wd} {b : Nat} (h : Lay w) (hb : bI b) : wL w (b + 6) = 3 := by rcases hb with e | e | e <;> subst e <;> exact h.l _ (by decide) rfl
theorem li_a6 {w : Wd} {b : Nat} (h : Lay w) (hb : bI b) {i : Nat} (hi : i < 3) : aK 11 w (b + 6) (nI i) = true := aK_k (li_k6 h hb) (li_l6 h hb) hi (by decide)
theorem li_s {w : Wd} {b i : Nat} (h : Lay w) (hb : bI b) (hi : i < 12) : wR w (b + 2) i = some (b + 7 + i) := by
  have e : ∀ i, i < 12 → tRr 3 i = some (8 + i) ∧ tRr 22 i = some (27 + i) ∧ tRr 41 i = some (46 + i) := by decide
  rcases hb with q | q | q <;> subst q
  · exact h.r _ _ (by decide) (by decide) (by omega) (e i hi).1
  · exact h.r _ _ (by decide) (by decide) (by omega) (e i hi).2.1
  · exact h.r _ _ (by decide) (by decide) (by omega) (e i hi).2.2
theorem li_sk {w : Wd} {b i : Nat} (h : Lay w) (hb : bI b) (hi : i < 12) : wK w (b + 7 + i) = 4 := by
  have e : ∀ i, i < 12 → tK (8 + i) = 4 ∧ tK (27 + i) = 4 ∧ tK (46 + i) = 4 := by decide
  rcases hb with q | q | q <;> subst q
  · exact h.k _ (by omega) (e i hi).1
  · exact h.k _ (by omega) (e i hi).2.1
  · exact h.k _ (by omega) (e i hi).2.2
