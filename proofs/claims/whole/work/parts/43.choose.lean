/-! CHOOSING OF A SET. nx_and', wb32 began as rows of kit/laws/BITS.to-paste -/
def ct (x : Int32) : Nat → Nat
  | 0 => 0
  | p + 1 => ct x p + (if bt x p then 1 else 0)
def kthF (x : Int32) (k : Nat) : Nat → Nat
  | 0 => 0
  | n + 1 => if bt x n = true ∧ ct x n = k then n else kthF x k n
def kth (x : Int32) (k : Nat) : Nat := kthF x k 12
theorem ct_le (x : Int32) : ∀ p q, ct x p ≤ ct x (p + q) := by
  intro p q
  induction q with
  | zero => exact Nat.le_refl _
  | succ q ih => rw [← Nat.add_assoc, ct]; omega
theorem ct_mono (x : Int32) {p q : Nat} (h : p ≤ q) : ct x p ≤ ct x q := by
  have := ct_le x p (q - p)
  rwa [show p + (q - p) = q by omega] at this
theorem kthF_ok (x : Int32) (k : Nat) : ∀ n, k < ct x n → kthF x k n < n ∧ bt x (kthF x k n) = true ∧ ct x (kthF x k n) = k := by
  intro n
  induction n with
  | zero => intro h; exact absurd h (by simp [ct])
  | succ n ih =>
    intro h
    rw [kthF]
    by_cases c : bt x n = true ∧ ct x n = k
    · rw [if_pos c]; exact ⟨by omega, c⟩
    · rw [if_neg c]
      have hk : k < ct x n := by
        rw [ct] at h
        by_cases b : bt x n = true
        · rw [if_pos b] at h
          by_cases e : ct x n = k
          · exact absurd ⟨b, e⟩ c
          · omega
        · rw [if_neg b] at h; omega
      have := ih hk
      exact ⟨by omega, this.2⟩
def B12 (x : Int32) : Prop := ∀ i, i < 32 → bt x i = true → i < 12
theorem Bd.b12 {σ : Nat → Int32} {x : Int32} (hS : Sv σ) (h : Bd σ x) : B12 x := fun i hi q => by have := h i hi q; have := hS.n12; omega
theorem nx_and' (a b : Nat) : nI a &&& nI b = nI (a &&& b) := by
  apply Int32.toBitVec_inj.mp
  apply BitVec.eq_of_getLsbD_eq
  intro i hi
  rw [Int32.toBitVec_and, BitVec.getLsbD_and]
  show ((BitVec.ofNat 32 a).getLsbD i && (BitVec.ofNat 32 b).getLsbD i) = (BitVec.ofNat 32 (a &&& b)).getLsbD i
  simp [BitVec.getLsbD_ofNat, hi]
theorem wb32 (x : Int32) : ∃ n, n < 2 ^ 32 ∧ x = nI n := ⟨x.toBitVec.toNat, x.toBitVec.isLt, Int32.toBitVec_inj.mp (by show _ = BitVec.ofNat 32 _; simp)⟩
theorem b_4095 : ∀ i, i < 32 → bt (4095 : Int32) i = decide (i < 12) := by decide +kernel
theorem b12_nI {x : Int32} (h : B12 x) : ∃ s, s < 4096 ∧ x = nI s := by
  obtain ⟨n, -, e⟩ := wb32 x
  have e2 : x = x &&& 4095 := by
    apply b_ext
    intro i hi
    rw [b_and, b_4095 i hi]
    cases q : bt x i
    · rfl
    · have := h i hi q; simp [this]
  refine ⟨n &&& 4095, ?_, ?_⟩
  · have := Nat.and_two_pow_sub_one_eq_mod n 12
    rw [show 2 ^ 12 - 1 = 4095 by decide] at this
    rw [this]
    exact Nat.mod_lt _ (by decide)
  · rw [e2, e, show (4095 : Int32) = nI 4095 from rfl, nx_and']
def pcnt (x : Int32) : Int32 := match f_J6_bitCount_0f7a4 x w_e with
  | some (r, _) => r
  | none => 0
def ntz (x : Int32) : Int32 := match f_J6_numberOfTrailingZeros_0f7a4 x w_e with
  | some (r, _) => r
  | none => 0
theorem j_bitCount (x : Int32) (w : Wd) : f_J6_bitCount_0f7a4 x w = some (pcnt x, w) := rfl
theorem pc_all : ∀ a, a < 64 → ∀ c, c < 64 → pcnt (nI (64 * a + c)) = nI (ct (nI (64 * a + c)) 12) := by decide +kernel
theorem j_pc {x : Int32} (h : B12 x) (w : Wd) : f_J6_bitCount_0f7a4 x w = some (nI (ct x 12), w) := by
  obtain ⟨s, hs, e⟩ := b12_nI h
  have := pc_all (s / 64) (by omega) (s % 64) (by omega)
  rw [show 64 * (s / 64) + s % 64 = s by omega] at this
  rw [j_bitCount, e, this]
theorem ct12 (x : Int32) : ct x 12 ≤ 12 := by
  have : ∀ p, ct x p ≤ p := by
    intro p
    induction p with
    | zero => simp [ct]
    | succ p ih => rw [ct]; split <;> omega
  exact this 12
theorem ct_pos {x : Int32} (h : B12 x) (h0 : ¬ x = 0) : 0 < ct x 12 := by
  obtain ⟨i, hi, q⟩ := b_some h0
  have hi12 := h i hi q
  have h1 : ct x (i + 1) = ct x i + 1 := by rw [ct, if_pos q]
  have := ct_mono x (show i + 1 ≤ 12 by omega)
  omega
theorem ct_0 : ct 0 12 = 0 := by decide
theorem j_ntz {x : Int32} (w : Wd) : f_J6_numberOfTrailingZeros_0f7a4 x w = some (ntz x, w) := by
  have h74 : ∀ v0 v1 : Int32, ∃ r, ∀ w, j_J6_numberOfTrailingZeros_0f7a4_74 v0 v1 w = some (r, w) := fun v0 v1 => ⟨_, fun w => rfl⟩
  have h62 : ∀ v0 v1 : Int32, ∃ r, ∀ w, j_J6_numberOfTrailingZeros_0f7a4_62 v0 v1 w = some (r, w) := by
    intro v0 v1
    unfold j_J6_numberOfTrailingZeros_0f7a4_62
    by_cases c : v0 ≤ 4
    · obtain ⟨r, hr⟩ := h74 v0 v1
      exact ⟨r, fun w => by rw [if_pos c, hr]⟩
    · obtain ⟨r, hr⟩ := h74 (ushr v0 2) (v1 + 2)
      exact ⟨r, fun w => by rw [if_neg c, lb_e, lb_e, hr]⟩
  have h49 : ∀ v0 v1 : Int32, ∃ r, ∀ w, j_J6_numberOfTrailingZeros_0f7a4_49 v0 v1 w = some (r, w) := by
    intro v0 v1
    unfold j_J6_numberOfTrailingZeros_0f7a4_49
    by_cases c : v0 ≤ 16
    · obtain ⟨r, hr⟩ := h62 v0 v1
      exact ⟨r, fun w => by rw [if_pos c, hr]⟩
    · obtain ⟨r, hr⟩ := h62 (ushr v0 4) (v1 + 4)
      exact ⟨r, fun w => by rw [if_neg c, lb_e, lb_e, hr]⟩
  have h34 : ∀ v0 v1 : Int32, ∃ r, ∀ w, j_J6_numberOfTrailingZeros_0f7a4_34 v0 v1 w = some (r, w) := by
    intro v0 v1
    unfold j_J6_numberOfTrailingZeros_0f7a4_34
    by_cases c : v0 ≤ 256
    · obtain ⟨r, hr⟩ := h49 v0 v1
      exact ⟨r, fun w => by rw [if_pos c, hr]⟩
    · obtain ⟨r, hr⟩ := h49 (ushr v0 8) (v1 + 8)
      exact ⟨r, fun w => by rw [if_neg c, lb_e, lb_e, hr]⟩
  have h0 : ∃ r, ∀ w, f_J6_numberOfTrailingZeros_0f7a4 x w = some (r, w) := by
    unfold f_J6_numberOfTrailingZeros_0f7a4
    simp only [lb_e]
    by_cases c : 0 < (x ^^^ (-1)) &&& (x - 1)
    · by_cases c2 : (x ^^^ (-1)) &&& (x - 1) ≤ 65536
      · obtain ⟨r, hr⟩ := h34 ((x ^^^ (-1)) &&& (x - 1)) 1
        exact ⟨r, fun w => by rw [if_pos c, if_pos c2, hr]⟩
      · obtain ⟨r, hr⟩ := h34 (ushr ((x ^^^ (-1)) &&& (x - 1)) 16) 17
        exact ⟨r, fun w => by rw [if_pos c, if_neg c2, hr]⟩
    · exact ⟨((x ^^^ (-1)) &&& (x - 1)) &&& 32, fun w => by rw [if_neg c]⟩
  obtain ⟨r, hr⟩ := h0
  unfold ntz
  rw [hr w_e, hr w]
theorem nt_all : ∀ a, a < 64 → ∀ c, c < 64 → ¬ (64 * a + c = 0) → ntz (nI (64 * a + c)) = nI (kth (nI (64 * a + c)) 0) := by decide +kernel
theorem j_nz {x : Int32} (h : B12 x) (h0 : ¬ x = 0) (w : Wd) : f_J6_numberOfTrailingZeros_0f7a4 x w = some (nI (kth x 0), w) := by
  obtain ⟨s, hs, e⟩ := b12_nI h
  have := nt_all (s / 64) (by omega) (s % 64) (by omega) (fun q => h0 (by rw [e, show s = 0 by omega]; rfl))
  rw [show 64 * (s / 64) + s % 64 = s by omega] at this
  rw [j_ntz, e, this]
/-! the reference's loops -/
theorem m_bits (x : Int32) (w : Wd) : f_X9_bits x w = some (nI (ct x 12), w) := by
  have L : ∀ n k, k ≤ 12 → 12 - k < n → L_X9_bits_4 n x (nI (ct x k)) (nI k) w = some (nI (ct x 12), w) := by
    intro n
    induction n with
    | zero => intro k _ h; omega
    | succ n ih =>
      intro k h1 h2
      unfold L_X9_bits_4
      rw [show (12 : Int32) = nI 12 from rfl]
      by_cases e : k = 12
      · subst e; rw [if_pos ((nI_le' (by decide) (by decide)).mpr (by omega))]
      · rw [if_neg (fun q => e (by have := (nI_le' (a := 12) (b := k) (by omega) (by omega)).mp q; omega)), lb_e, lb_e, b_has (by omega), nI_s1]
        have ihk := ih (k + 1) (by omega) (by omega)
        rw [ct] at ihk
        by_cases b : bt x k = true
        · rw [if_pos b] at ihk ⊢; rw [nI_s1]; exact ihk
        · rw [if_neg b] at ihk ⊢; rw [Int32.add_zero]; exact ihk
  exact L FU 0 (by omega) (by unfold FU; omega)
theorem m_placeIn {x : Int32} {k : Nat} (hk : k < ct x 12) (w : Wd) : f_X9_placeIn x (nI k) w = some (nI (kth x k), w) := by
  obtain ⟨hP, hb, hc⟩ := kthF_ok x k 12 hk
  have h12 := ct12 x
  have L : ∀ n p, p ≤ kth x k → kth x k - p < n → L_X9_placeIn_4 n x (nI (k - ct x p)) (nI p) w = some (nI (kth x k), w) := by
    intro n
    induction n with
    | zero => intro p _ h; omega
    | succ n ih =>
      intro p h1 h2
      unfold L_X9_placeIn_4
      have hP' : kth x k < 12 := hP
      have hb' : bt x (kth x k) = true := hb
      have hc' : ct x (kth x k) = k := hc
      have hle := ct_mono x h1
      by_cases e : p = kth x k
      · rw [show k - ct x p = 0 by rw [e]; omega, if_neg (show ¬ (0 : Int32) < nI 0 by decide), b_has (by omega), e, hb', if_pos rfl, if_neg (by decide)]
      · have hstep : j_X9_placeIn_16 (L_X9_placeIn_4 n) x (nI (k - ct x p)) (nI p) w = some (nI (kth x k), w) := by
          simp only [j_X9_placeIn_16, lb_e, nI_s1]
          rw [b_has (by omega)]
          have ihk := ih (p + 1) (by omega) (by omega)
          have hle2 := ct_mono x (show p + 1 ≤ kth x k by omega)
          rw [ct] at ihk hle2
          by_cases b : bt x p = true
          · rw [if_pos b] at ihk hle2 ⊢
            rw [pr_nI (by omega), show k - ct x p - 1 = k - (ct x p + 1) by omega]
            exact ihk
          · rw [if_neg b] at ihk ⊢
            rw [Int32.sub_zero]
            exact ihk
        by_cases c : 0 < nI (k - ct x p)
        · rw [if_pos c]; exact hstep
        · rw [if_neg c]
          have hb0 : bt x p = false := by
            cases b : bt x p
            · rfl
            · exfalso
              have hle2 := ct_mono x (show p + 1 ≤ kth x k by omega)
              rw [ct, if_pos b] at hle2
              exact c (by rw [show (0 : Int32) = nI 0 from rfl]; exact (nI_lt' (by omega) (by decide)).mpr (by omega))
          rw [b_has (by omega), hb0]
          exact hstep
  have := L FU 0 (by omega) (by have : kth x k < 12 := hP; unfold FU; omega)
  rw [show k - ct x 0 = k from rfl] at this
  exact this
theorem x_nthOf {w : Wd} {b : Nat} {σ : Nat → Int32} (h : Lay w) (hb : bI b) (hS : Sv σ) (hR : RS w b σ) {x : Int32} (hB : Bd σ x) {k : Nat} (hk : k < ct x 12) : f_X1_nthOf b x (nI k) w = some (nI (kth x k), w) := by
  obtain ⟨hP, hbt, hc⟩ := kthF_ok x k 12 hk
  have hP' : kth x k < 12 := hP
  have hb' : bt x (kth x k) = true := hbt
  have hc' : ct x (kth x k) = k := hc
  have hPn := hB _ (by omega) hb'
  have hn := hS.n12
  have h12 := ct12 x
  have L : ∀ n p, p ≤ kth x k → kth x k - p < n → L_X1_nthOf_5 n b x (nI k) (nI (ct x p)) (nI p) w = some (nI (kth x k), w) := by
    intro n
    induction n with
    | zero => intro p _ h; omega
    | succ n ih =>
      intro p h1 h2
      unfold L_X1_nthOf_5
      have hle := ct_mono x h1
      simp only [li_k h hb, li_r0 h hb, li_r1 h hb, li_r3 h hb, li_r4 h hb, li_r8 h hb, li_r10 h hb, li_k1 h hb, bd1_s, bd2_s, lb_e, ↓reduceIte, hR.2.1.1, hS.n, f_X8_has, bh (show p < 32 by omega), show ¬ nI (n_ σ) ≤ nI p from fun q => by (have := (nI_le' (show p < 2 ^ 31 by omega) (show n_ σ < 2 ^ 31 by omega)).mp q; omega), nI_s1]
      by_cases e : p = kth x k
      · rw [e, hb']
        simp only [↓reduceIte, show ¬ (1 : Int32) = 0 by decide, hc']
      · have ihk := ih (p + 1) (by omega) (by omega)
        have hle2 := ct_mono x (show p + 1 ≤ kth x k by omega)
        rw [ct] at ihk hle2
        cases bb : bt x p
        · rw [bb] at ihk
          simp only [Bool.false_eq_true, ↓reduceIte]
          exact ihk
        · rw [bb] at ihk hle2
          simp only [↓reduceIte, show ¬ (1 : Int32) = 0 by decide] at ihk hle2 ⊢
          rw [if_neg (fun q => by have := nI_inj (by omega) (by omega) q; omega)]
          exact ihk
  exact L FU 0 (by omega) (by unfold FU; omega)
/-- the softest: from a best one on -/
def sfL (σ : Nat → Int32) (x : Int32) : Nat → Nat → Nat → Nat
  | 0, best, _ => best
  | m + 1, best, p => sfL σ x m (if bt x p = true ∧ ¬ σ (12 + p) ≤ σ (12 + best) then p else best) (p + 1)
def soft (σ : Nat → Int32) (x : Int32) : Nat := sfL σ x (n_ σ - (kth x 0 + 1)) (kth x 0) (kth x 0 + 1)
theorem sfL_ok (σ : Nat → Int32) (x : Int32) : ∀ m best p, bt x best = true → bt x (sfL σ x m best p) = true := by
  intro m
  induction m with
  | zero => intro best p h; exact h
  | succ m ih =>
    intro best p h
    rw [sfL]
    apply ih
    split
    · rename_i c; exact c.1
    · exact h
theorem m_softest {w : Wd} {σ : Nat → Int32} (h : Lay w) (hσ : wI w 97 = σ) (hS : Sv σ) {x : Int32} (hB : Bd σ x) (h0 : ¬ x = 0) : f_X9_softest 96 x w = some (nI (soft σ x), w) := by
  have hn := hS.n12
  have hpos := ct_pos (hB.b12 hS) h0
  obtain ⟨hP, hbt, -⟩ := kthF_ok x 0 12 hpos
  have hP' : kth x 0 < 12 := hP
  have hPn := hB _ (by omega) (show bt x (kth x 0) = true from hbt)
  have e2 : aK 11 w 97 2 = true := la_97 h (show 2 < 1444 by decide)
  have L : ∀ n m best p, best < 12 → p + m = n_ σ → m < n → L_X9_softest_10 n 96 x (nI best) (nI p) w = some (nI (sfL σ x m best p), w) := by
    intro n
    induction n with
    | zero => intro m best p _ _ h; omega
    | succ n ih =>
      intro m best p g1 g2 g3
      unfold L_X9_softest_10
      simp only [lk_96 h, lr_96_0 h, bd1_s, bd2_s, lb_e, ↓reduceIte, e2, hσ, show nx 2 = 2 from rfl, hS.n]
      cases m with
      | zero =>
        rw [if_pos ((nI_le' (by omega) (by omega)).mpr (by omega))]; rfl
      | succ m =>
        rw [if_neg (fun q => by have := (nI_le' (by omega) (by omega)).mp q; omega), b_has (by omega)]
        have ep : (12 : Int32) + nI p = nI (12 + p) := by rw [show (12 : Int32) = nI 12 from rfl, nI_add]
        have eb : (12 : Int32) + nI best = nI (12 + best) := by rw [show (12 : Int32) = nI 12 from rfl, nI_add]
        have hp12 : p < 12 := by omega
        rw [sfL]
        cases bb : bt x p
        · simp only [Bool.false_eq_true, ↓reduceIte, show ¬ (0 : Int32) = 1 by decide, nI_s1, false_and]
          exact ih m best (p + 1) g1 (by omega) (by omega)
        · simp only [↓reduceIte, ep, eb, la_97 h (show 12 + p < 1444 by omega), la_97 h (show 12 + best < 1444 by omega), nx_nI (show 12 + p < 2 ^ 31 by omega), nx_nI (show 12 + best < 2 ^ 31 by omega), nI_s1, true_and]
          by_cases c : σ (12 + p) ≤ σ (12 + best)
          · rw [if_pos c, if_neg (fun q => q c)]
            exact ih m best (p + 1) g1 (by omega) (by omega)
          · rw [if_neg c, if_pos c]
            exact ih m p (p + 1) hp12 (by omega) (by omega)
  have mp := m_placeIn hpos w
  rw [show nI 0 = (0 : Int32) from rfl] at mp
  simp only [f_X9_softest, mp, bd2_s, lb_e, nI_s1]
  exact L FU _ _ _ hP' (by omega) (by unfold FU; omega)
theorem x_softest {w : Wd} {b : Nat} {σ : Nat → Int32} (h : Lay w) (hb : bI b) (hS : Sv σ) (hR : RI w b σ) {x : Int32} (hB : Bd σ x) (h0 : ¬ x = 0) : L_X1_choose_55 FU b x (nI (kth x 0)) (nI (kth x 0) + 1) w = some (nI (soft σ x), w) := by
  have hn := hS.n12
  have hpos := ct_pos (hB.b12 hS) h0
  obtain ⟨hP, hbt, -⟩ := kthF_ok x 0 12 hpos
  have hP' : kth x 0 < 12 := hP
  have hPn := hB _ (by omega) (show bt x (kth x 0) = true from hbt)
  have L : ∀ n m best p, best < 12 → p + m = n_ σ → m < n → L_X1_choose_55 n b x (nI best) (nI p) w = some (nI (sfL σ x m best p), w) := by
    intro n
    induction n with
    | zero => intro m best p _ _ h; omega
    | succ n ih =>
      intro m best p g1 g2 g3
      unfold L_X1_choose_55
      simp only [li_k h hb, li_r0 h hb, li_r1 h hb, li_r3 h hb, li_r4 h hb, li_r8 h hb, li_r10 h hb, li_k1 h hb, bd1_s, bd2_s, lb_e, ↓reduceIte, hR.1.2.1.1, hS.n]
      cases m with
      | zero =>
        rw [if_pos ((nI_le' (by omega) (by omega)).mpr (by omega))]; rfl
      | succ m =>
        have hp12 : p < 12 := by omega
        rw [if_neg (fun q => by have := (nI_le' (by omega) (by omega)).mp q; omega)]
        simp only [f_X8_has, bh (show p < 32 by omega), bd2_s]
        rw [sfL]
        cases bb : bt x p
        · simp only [Bool.false_eq_true, ↓reduceIte, nI_s1, false_and]
          exact ih m best (p + 1) g1 (by omega) (by omega)
        · simp only [↓reduceIte, show ¬ (1 : Int32) = 0 by decide, li_k h hb, li_r0 h hb, li_r1 h hb, li_r3 h hb, li_r4 h hb, li_r8 h hb, li_r10 h hb, li_k1 h hb, bd1_s, bd2_s, lb_e, ↓reduceIte, li_a3 h hb hp12, li_a3 h hb g1, nx_nI (show p < 2 ^ 31 by omega), nx_nI (show best < 2 ^ 31 by omega), hR.2.1.1 p hp12, hR.2.1.1 best g1, nI_s1, true_and]
          by_cases c : σ (12 + p) ≤ σ (12 + best)
          · rw [if_pos c, if_neg (fun q => q c)]
            exact ih m best (p + 1) g1 (by omega) (by omega)
          · rw [if_neg c, if_pos c]
            exact ih m p (p + 1) hp12 (by omega) (by omega)
  rw [nI_s1]
  exact L FU _ _ _ hP' (by omega) (by unfold FU; omega)
