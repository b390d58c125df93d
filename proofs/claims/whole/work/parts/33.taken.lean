/-! WHO TAKES WHAT: loops over the sitters -/
theorem m_taken {w : Wd} {σ : Nat → Int32} (h : Lay w) (hσ : wI w 97 = σ) (hS : Sv σ) : f_X9_taken 96 w = some (tk σ, w) := by
  have hc := hS.c12
  have L : ∀ n k, k ≤ c_ σ → c_ σ - k < n → L_X9_taken_4 n 96 (oU (so σ) k) (nI k) w = some (tk σ, w) := by
    intro n
    induction n with
    | zero => intro k _ h2; omega
    | succ n ih =>
      intro k h1 h2
      unfold L_X9_taken_4
      simp only [lk_96 h, lr_96_0 h, bd1_s, ↓reduceIte, show (1 : Int32) = nI 1 from rfl, la_97 h (show 1 < 1444 by decide), nx_nI (show 1 < 2 ^ 31 by decide), hσ, hS.c]
      by_cases e : k = c_ σ
      · rw [if_pos ((nI_le' (by omega) (by omega)).mpr (by omega)), e]; rfl
      · rw [if_neg (fun q => e (by have := (nI_le' (by omega) (by omega)).mp q; omega)), m_setOf h hσ hS (by omega), bd2_s, lb_e, lb_e, nI_add]
        exact ih (k + 1) (by omega) (by omega)
  exact L FU 0 (by omega) (by unfold FU; omega)
theorem x_isOf {w : Wd} {a j k : Nat} (hj : j < 6) (hk : k < 6) (h4 : wK w a = 4) (e : wI w a 0 = nI k) : f_X4_isOf a (nI j) w = some (if j = 0 ∨ j = k ∨ (j = 1 ∧ k = 3) ∨ (j = 2 ∧ k = 4) then 1 else 0, w) := by
  have d : ∀ j, j < 6 → ∀ k, k < 6 → (if (((kdL.getD j 0) >>> ((nI k) &&& 31)) &&& 1) = 1 then (1 : Int32) else 0) = if j = 0 ∨ j = k ∨ (j = 1 ∧ k = 3) ∨ (j = 2 ∧ k = 4) then 1 else 0 := by decide +kernel
  simp only [f_X4_isOf, ib_k hj (by decide), h4, ↓reduceIte, e, nx_nI (show j < 2 ^ 31 by omega), d j hj k hk]
theorem x_sitsNow {w : Wd} {a : Nat} (h4 : wK w a = 4) : f_X4_sitsNow a w = some (if wI w a 1 < 0 then 0 else 1, w) := by
  simp only [f_X4_sitsNow, h4, ↓reduceIte]
theorem kd_13 {k : Nat} (hk : k < 6) : (nI k = 1 ∨ nI k = 3) ↔ (k = 1 ∨ k = 3) := by
  have : ∀ k, k < 6 → ((nI k = 1 ∨ nI k = 3) ↔ (k = 1 ∨ k = 3)) := by decide +kernel
  exact this k hk
theorem kd_24 {k : Nat} (hk : k < 6) : (nI k = 2 ∨ nI k = 4) ↔ (k = 2 ∨ k = 4) := by
  have : ∀ k, k < 6 → ((nI k = 2 ∨ nI k = 4) ↔ (k = 2 ∨ k = 4)) := by decide +kernel
  exact this k hk
theorem x_placesOf {w : Wd} {b i : Nat} {σ : Nat → Int32} (h : Lay w) (hb : bI b) (hS : Sv σ) (hR : RS w b σ) (hi : i < c_ σ) : f_X1_placesOf b (b + 7 + i) w = some (so σ i, w) := by
  have hc := hS.c12
  have hn := hS.n12
  have h4 := li_sk h hb (show i < 12 by omega)
  obtain ⟨⟨k, hk, ek⟩, hat⟩ := hS.2.2.2.2 i hi
  have e0 : wI w (b + 7 + i) 0 = sv σ i 0 := hR.2.2 i hi 0 (by decide)
  have e1 : wI w (b + 7 + i) 1 = sv σ i 1 := hR.2.2 i hi 1 (by decide)
  have hO : f_X4_isOf (b + 7 + i) 1 w = _ := x_isOf (j := 1) (by decide) hk h4 (e0.trans ek)
  rcases hat with q | ⟨p, hp, q, hf⟩
  · have hs : so σ i = 0 := by unfold so; rw [q, if_pos m1_lt]
    rw [hs]
    simp only [f_X1_placesOf, h4, ↓reduceIte, x_sitsNow h4, bd2_s, e1, q, m1_lt]
  · have q0 : ¬ nI p < 0 := nI_nlt0 (by omega)
    by_cases hw : k = 1 ∨ k = 3
    · have hs : so σ i = ps p ||| ps (nxt (n_ σ) p) := by unfold so; rw [q, if_neg q0, ek, if_pos ((kd_13 hk).mpr hw), nx_nI (by omega)]
      rw [if_pos (show 1 = 0 ∨ 1 = k ∨ (1 = 1 ∧ k = 3) ∨ (1 = 2 ∧ k = 4) by omega)] at hO
      have hx : (if nI (n_ σ) ≤ nI p + 1 then (0 : Int32) else nI p + 1) = nI (nxt (n_ σ) p) := by
        rw [nI_s1]
        unfold nxt
        by_cases z : p + 1 < n_ σ
        · rw [if_pos z, if_neg (fun y => by have := (nI_le' (by omega) (by omega)).mp y; omega)]
        · rw [if_neg z, if_pos ((nI_le' (by omega) (by omega)).mpr (by omega))]; rfl
      rw [hs]
      simp only [f_X1_placesOf, h4, ↓reduceIte, x_sitsNow h4, bd2_s, e1, q, q0, lb_e, hO, li_k h hb, li_r0 h hb, li_k1 h hb, bd1_s, hR.2.1.1, hS.n, hx, show ¬ (1 : Int32) = 0 by decide]
      rfl
    · have hs : so σ i = ps p := by unfold so; rw [q, if_neg q0, ek, if_neg (fun y => hw ((kd_13 hk).mp y)), nx_nI (by omega)]
      rw [if_neg (show ¬ (1 = 0 ∨ 1 = k ∨ (1 = 1 ∧ k = 3) ∨ (1 = 2 ∧ k = 4)) by omega)] at hO
      rw [hs]
      simp only [f_X1_placesOf, h4, ↓reduceIte, x_sitsNow h4, bd2_s, e1, q, q0, lb_e, hO, show ¬ (1 : Int32) = 0 by decide]
      rfl
theorem x_taken {w : Wd} {b : Nat} {σ : Nat → Int32} (h : Lay w) (hb : bI b) (hS : Sv σ) (hR : RS w b σ) : f_X1_taken b w = some (tk σ, w) := by
  have hc := hS.c12
  have L : ∀ n k, k ≤ c_ σ → c_ σ - k < n → L_X1_taken_4 n b (oU (so σ) k) (nI k) w = some (tk σ, w) := by
    intro n
    induction n with
    | zero => intro k _ h2; omega
    | succ n ih =>
      intro k h1 h2
      unfold L_X1_taken_4
      simp only [li_k h hb, li_r1 h hb, bd1_s, ↓reduceIte, hR.1, hS.c]
      by_cases e : k = c_ σ
      · rw [if_pos ((nI_le' (by omega) (by omega)).mpr (by omega)), e]; rfl
      · rw [if_neg (fun q => e (by have := (nI_le' (by omega) (by omega)).mp q; omega)), if_pos (li_a2 h hb (by omega)), nx_nI (by omega), li_s h hb (by omega), bd1_s, x_placesOf h hb hS hR (by omega), bd2_s, lb_e, lb_e, nI_s1]
        exact ih (k + 1) (by omega) (by omega)
  exact L FU 0 (by omega) (by unfold FU; omega)
theorem x_takenF {w : Wd} {b : Nat} {σ : Nat → Int32} (h : Lay w) (hb : bI b) (hS : Sv σ) (hR : RS w b σ) : f_X1_takenByFriends b w = some (tf σ, w) := by
  have hc := hS.c12
  have L : ∀ n k, k ≤ c_ σ → c_ σ - k < n → L_X1_takenByFriends_4 n b (oU (fun i => if sv σ i 0 = 2 ∨ sv σ i 0 = 4 then so σ i else 0) k) (nI k) w = some (tf σ, w) := by
    intro n
    induction n with
    | zero => intro k _ h2; omega
    | succ n ih =>
      intro k h1 h2
      unfold L_X1_takenByFriends_4
      simp only [li_k h hb, li_r1 h hb, bd1_s, ↓reduceIte, hR.1, hS.c]
      by_cases e : k = c_ σ
      · rw [if_pos ((nI_le' (by omega) (by omega)).mpr (by omega)), e]; rfl
      · obtain ⟨⟨q, hq, eq⟩, -⟩ := hS.2.2.2.2 k (by omega)
        have h4 := li_sk h hb (show k < 12 by omega)
        have hO : f_X4_isOf (b + 7 + k) 2 w = _ := x_isOf (j := 2) (by decide) hq h4 ((hR.2.2 k (by omega) 0 (by decide)).trans eq)
        have hne : ¬ nI (c_ σ) ≤ nI k := fun q => e (by have := (nI_le' (by omega) (by omega)).mp q; omega)
        have ihk := ih (k + 1) (by omega) (by omega)
        by_cases hw : q = 2 ∨ q = 4
        · rw [if_pos (show 2 = 0 ∨ 2 = q ∨ (2 = 1 ∧ q = 3) ∨ (2 = 2 ∧ q = 4) by omega)] at hO
          rw [oU, eq, if_pos ((kd_24 hq).mpr hw)] at ihk
          simp only [hne, ↓reduceIte, li_a2 h hb (show k < 12 by omega), nx_nI (show k < 2 ^ 31 by omega), li_s h hb (show k < 12 by omega), bd1_s, h4, hO, bd2_s, x_placesOf h hb hS hR (show k < c_ σ by omega), li_k h hb, li_r1 h hb, lb_e, nI_s1, show ¬ (1 : Int32) = 0 by decide]
          exact ihk
        · rw [if_neg (show ¬ (2 = 0 ∨ 2 = q ∨ (2 = 1 ∧ q = 3) ∨ (2 = 2 ∧ q = 4)) by omega)] at hO
          rw [oU, eq, if_neg (fun y => hw ((kd_24 hq).mp y)), Int32.or_zero] at ihk
          simp only [hne, ↓reduceIte, li_a2 h hb (show k < 12 by omega), nx_nI (show k < 2 ^ 31 by omega), li_s h hb (show k < 12 by omega), bd1_s, h4, hO, bd2_s, lb_e, nI_s1]
          exact ihk
  exact L FU 0 (by omega) (by unfold FU; omega)
theorem x_standing {w : Wd} {b : Nat} {σ : Nat → Int32} (h : Lay w) (hb : bI b) (hS : Sv σ) (hR : RS w b σ) : f_X1_standing b w = some (sg σ, w) := by
  have hc := hS.c12
  have L : ∀ n k, k ≤ c_ σ → c_ σ - k < n → L_X1_standing_4 n b (oU (fun i => if sv σ i 1 < 0 then ps i else 0) k) (nI k) w = some (sg σ, w) := by
    intro n
    induction n with
    | zero => intro k _ h2; omega
    | succ n ih =>
      intro k h1 h2
      unfold L_X1_standing_4
      simp only [li_k h hb, li_r1 h hb, bd1_s, ↓reduceIte, hR.1, hS.c]
      by_cases e : k = c_ σ
      · rw [if_pos ((nI_le' (by omega) (by omega)).mpr (by omega)), e]; rfl
      · have h4 := li_sk h hb (show k < 12 by omega)
        have e1 : wI w (b + 7 + k) 1 = sv σ k 1 := hR.2.2 k (by omega) 1 (by decide)
        rw [if_neg (fun q => e (by have := (nI_le' (by omega) (by omega)).mp q; omega)), if_pos (li_a2 h hb (by omega)), nx_nI (by omega), li_s h hb (by omega), bd1_s, if_pos h4, x_sitsNow h4, bd2_s, e1]
        have ihk := ih (k + 1) (by omega) (by omega)
        by_cases hw : sv σ k 1 < 0
        · rw [if_pos hw, if_pos rfl, lb_e, lb_e, nI_s1]
          rw [oU, if_pos hw] at ihk
          exact ihk
        · rw [if_neg hw, if_neg (by decide), lb_e, nI_s1]
          rw [oU, if_neg hw, Int32.or_zero] at ihk
          exact ihk
  exact L FU 0 (by omega) (by unfold FU; omega)
