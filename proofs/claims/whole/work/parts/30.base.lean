/-! THE PURE HALF: small rows. The rows bt .. b_sshr began as kit/laws/BITS.to-paste -/
theorem bd1_s {α β : Type} (a : α) (f : α → Option β) : bd1 (some a) f = f a := rfl
theorem bd2_s {α β : Type} (a : α) (w : Wd) (f : α → Wd → Option β) : bd2 (some (a, w)) f = f a w := rfl
theorem lb_e {α β : Type} (x : α) (f : α → β) : lb_ x f = f x := rfl
theorem mt_e0 {α β : Type} (A : β) (f : α → β) : mt_ none A f = A := rfl
theorem mt_e1 {α β : Type} (a : α) (A : β) (f : α → β) : mt_ (some a) A f = f a := rfl
theorem wK_sI (w : Wd) (a j : Nat) (v : Int32) : wK (sI w a j v) = wK w := rfl
theorem wL_sI (w : Wd) (a j : Nat) (v : Int32) : wL (sI w a j v) = wL w := rfl
theorem wR_sI (w : Wd) (a j : Nat) (v : Int32) : wR (sI w a j v) = wR w := rfl
theorem wN_sI (w : Wd) (a j : Nat) (v : Int32) : wN (sI w a j v) = wN w := rfl
theorem wI_s1 (w : Wd) (a j : Nat) (v : Int32) : wI (sI w a j v) a = upd (wI w a) j v := va_up_self _ _ _
theorem wI_s2 (w : Wd) {a b : Nat} (j : Nat) (v : Int32) (h : b ≠ a) : wI (sI w a j v) b = wI w b := va_up_ne _ _ h
theorem upd_s (f : Nat → Int32) (j : Nat) (v : Int32) : upd f j v j = v := by simp [upd]
theorem upd_n (f : Nat → Int32) {j k : Nat} (v : Int32) (h : k ≠ j) : upd f j v k = f k := by simp [upd, h]
theorem wI_ss (w : Wd) (a j : Nat) (v : Int32) : wI (sI w a j v) a j = v := by rw [wI_s1, upd_s]
theorem wI_sn (w : Wd) {a b j k : Nat} (v : Int32) (h : b ≠ a ∨ k ≠ j) : wI (sI w a j v) b k = wI w b k := by
  by_cases e : b = a
  · subst e
    rw [wI_s1, upd_n _ _ (h.resolve_left (fun q => q rfl))]
  · rw [wI_s2 _ _ _ e]
theorem wK_cp (w : Wd) (a b : Nat) (sp dp n : Int32) : wK (cp_W w a sp b dp n) = wK w := rfl
theorem wL_cp (w : Wd) (a b : Nat) (sp dp n : Int32) : wL (cp_W w a sp b dp n) = wL w := rfl
theorem wR_cp (w : Wd) (a b : Nat) (sp dp n : Int32) : wR (cp_W w a sp b dp n) = wR w := rfl
theorem wN_cp (w : Wd) (a b : Nat) (sp dp n : Int32) : wN (cp_W w a sp b dp n) = wN w := rfl
theorem wI_c1 (w : Wd) (a b : Nat) (sp dp n : Int32) : wI (cp_W w a sp b dp n) b = va_cpy (wI w a) (wI w b) (nx sp) (nx dp) (nx n) := va_up_self _ _ _
theorem wI_c2 (w : Wd) (a : Nat) {b c : Nat} (sp dp n : Int32) (h : c ≠ b) : wI (cp_W w a sp b dp n) c = wI w c := va_up_ne _ _ h
/-! numbers -/
theorem nI_mul (a b : Nat) : nI a * nI b = nI (a * b) := by
  apply Int32.toBitVec_inj.mp
  show BitVec.ofNat 32 a * BitVec.ofNat 32 b = BitVec.ofNat 32 (a * b)
  exact (BitVec.ofNat_mul a b).symm
theorem nI_sub {a b : Nat} (h : b ≤ a) : nI a - nI b = nI (a - b) := by
  have e : nI (a - b) + nI b = nI a := by rw [nI_add]; congr 1; omega
  rw [← e]
  exact Int32.add_sub_cancel _ _
theorem nI_lit (n : Nat) : (OfNat.ofNat n : Int32) = nI n := rfl
theorem nI_inj {a b : Nat} (ha : a < 2 ^ 31) (hb : b < 2 ^ 31) (h : nI a = nI b) : a = b := by
  have := congrArg Int32.toNatClampNeg h
  rwa [nI_clamp ha, nI_clamp hb] at this
theorem nx_nI {a : Nat} (h : a < 2 ^ 31) : nx (nI a) = a := nI_clamp h
theorem of_Int {v : Int32} (h : 0 ≤ v.toInt) : ∃ k : Nat, (k : Int) = v.toInt ∧ k < 2 ^ 31 ∧ v = nI k := by
  have hr : v.toInt < 2147483648 := by have := Int32.toInt_lt v; omega
  refine ⟨v.toInt.toNat, by omega, by omega, ?_⟩
  apply Int32.toInt_inj.mp
  rw [nI_toInt (by omega)]
  omega
theorem lt_I (a b : Int32) : a < b ↔ a.toInt < b.toInt := Int32.lt_iff_toInt_lt
theorem le_I (a b : Int32) : a ≤ b ↔ a.toInt ≤ b.toInt := Int32.le_iff_toInt_le
theorem eq_I {a b : Int32} (h : a.toInt = b.toInt) : a = b := Int32.toInt_inj.mp h
theorem sub1_I {n : Nat} (h : n < 2 ^ 31) : (nI n - 1).toInt = (n : Int) - 1 := by
  cases n with
  | zero => decide
  | succ m => rw [show nI (m + 1) - 1 = nI m from nI_pred m, nI_toInt (by omega)]; omega
/-- whether v lies within: 1, 0 -/
def wi_ (v a b : Int32) : Int32 := if v < a then 0 else if b < v then 0 else 1
theorem wi_X (v a b : Int32) (w : Wd) : f_X8_isWithin v a b w = some (wi_ v a b, w) := rfl
theorem wi_M (v a b : Int32) (w : Wd) : f_X9_in v a b w = some (wi_ v a b, w) := rfl
theorem wi_z (v a b : Int32) : wi_ v a b = 0 ∨ wi_ v a b = 1 := by unfold wi_; split; · exact Or.inl rfl
                                                                   · split; · exact Or.inl rfl
                                                                     · exact Or.inr rfl
theorem wi_1 {v a b : Int32} (h1 : a.toInt ≤ v.toInt) (h2 : v.toInt ≤ b.toInt) : wi_ v a b = 1 := by
  unfold wi_
  rw [if_neg (by rw [lt_I]; omega), if_neg (by rw [lt_I]; omega)]
theorem wi_i {v a b : Int32} (h : ¬ wi_ v a b = 0) : a.toInt ≤ v.toInt ∧ v.toInt ≤ b.toInt := by
  unfold wi_ at h
  by_cases h1 : v < a
  · rw [if_pos h1] at h; exact absurd rfl h
  · rw [if_neg h1] at h
    by_cases h2 : b < v
    · rw [if_pos h2] at h; exact absurd rfl h
    · rw [lt_I] at h1 h2; omega
theorem wi_n {v : Int32} {n : Nat} (hn : n < 2 ^ 31) (h : ¬ wi_ v 0 (nI n - 1) = 0) : ∃ k, k < n ∧ v = nI k := by
  obtain ⟨h1, h2⟩ := wi_i h
  rw [sub1_I hn] at h2
  rw [show (0 : Int32).toInt = 0 from rfl] at h1
  obtain ⟨k, g1, g2, g3⟩ := of_Int h1
  exact ⟨k, by omega, g3⟩
theorem wi_k {n k : Nat} (hn : n < 2 ^ 31) (h : k < n) : wi_ (nI k) 0 (nI n - 1) = 1 := by
  refine wi_1 ?_ ?_
  · rw [nI_toInt (by omega)]; show (0 : Int) ≤ _; omega
  · rw [sub1_I hn, nI_toInt (by omega)]; omega
theorem wi_ab {v : Int32} {a b : Nat} (hb : b < 2 ^ 31) (h : ¬ wi_ v (nI a) (nI b) = 0) (ha : a < 2 ^ 31) : ∃ k, a ≤ k ∧ k ≤ b ∧ v = nI k := by
  obtain ⟨h1, h2⟩ := wi_i h
  rw [nI_toInt hb] at h2
  rw [nI_toInt ha] at h1
  obtain ⟨k, g1, g2, g3⟩ := of_Int (v := v) (by omega)
  exact ⟨k, by omega, by omega, g3⟩
theorem ib_k {k n : Nat} (h : k < n) (hn : n < 2 ^ 31) : ib (nI k) n = true := ib_nI h hn
theorem aK_k {k : Nat} {w : Wd} {a n i : Nat} (h1 : wK w a = k) (h2 : wL w a = n) (h : i < n) (hn : n < 2 ^ 31) : aK k w a (nI i) = true := by
  unfold aK
  rw [h1, h2, ib_k h hn]
  simp
/-! bits -/
def bt (x : Int32) (i : Nat) : Bool := x.toBitVec.getLsbD i
theorem b_ext {x y : Int32} (h : ∀ i, i < 32 → bt x i = bt y i) : x = y := Int32.toBitVec_inj.mp (BitVec.eq_of_getLsbD_eq (fun i hi => h i hi))
theorem b_or (x y : Int32) (i : Nat) : bt (x ||| y) i = (bt x i || bt y i) := by unfold bt; rw [Int32.toBitVec_or, BitVec.getLsbD_or]
theorem b_and (x y : Int32) (i : Nat) : bt (x &&& y) i = (bt x i && bt y i) := by unfold bt; rw [Int32.toBitVec_and, BitVec.getLsbD_and]
theorem b_xor (x y : Int32) (i : Nat) : bt (x ^^^ y) i = (bt x i ^^ bt y i) := by unfold bt; rw [Int32.toBitVec_xor, BitVec.getLsbD_xor]
theorem b_big {x : Int32} {i : Nat} (h : 32 ≤ i) : bt x i = false := BitVec.getLsbD_of_ge _ _ h
theorem b_255 (i : Nat) : bt 255 i = decide (i < 8) := by
  rcases Nat.lt_or_ge i 32 with h | h
  · exact (by decide +kernel : ∀ i, i < 32 → bt 255 i = decide (i < 8)) i h
  · rw [b_big h, decide_eq_false (by omega)]
theorem b_65535 (i : Nat) : bt 65535 i = decide (i < 16) := by
  rcases Nat.lt_or_ge i 32 with h | h
  · exact (by decide +kernel : ∀ i, i < 32 → bt 65535 i = decide (i < 16)) i h
  · rw [b_big h, decide_eq_false (by omega)]
theorem b_m1 : ∀ i, i < 32 → bt (-1) i = true := by decide +kernel
theorem b_0 (i : Nat) : bt 0 i = false := BitVec.getLsbD_zero
theorem s_l : ∀ n, n < 32 → ((nI n &&& 31).toBitVec.smod 32).toNat = n := by decide +kernel
theorem s_u : ∀ n, n < 32 → (((nI n).toUInt32 &&& Int32.toUInt32 31).toBitVec % 32).toNat = n := by decide +kernel
theorem b_shl (n : Nat) (hn : n < 32) (x : Int32) {i : Nat} (hi : i < 32) : bt (x <<< (nI n &&& 31)) i = (decide (n ≤ i) && bt x (i - n)) := by
  unfold bt
  rw [Int32.toBitVec_shiftLeft]
  show (x.toBitVec <<< ((nI n &&& 31).toBitVec.smod 32).toNat).getLsbD i = _
  rw [s_l n hn, BitVec.getLsbD_shiftLeft]
  rcases Nat.lt_or_ge i n with h | h
  · simp [h, Nat.not_le.mpr h]
  · simp [hi, h, Nat.not_lt.mpr h]
theorem b_ushr (n : Nat) (hn : n < 32) (x : Int32) (i : Nat) : bt ((x.toUInt32 >>> ((nI n).toUInt32 &&& Int32.toUInt32 31)).toInt32) i = bt x (n + i) := by
  show (x.toUInt32 >>> ((nI n).toUInt32 &&& Int32.toUInt32 31)).toBitVec.getLsbD i = x.toUInt32.toBitVec.getLsbD (n + i)
  rw [UInt32.toBitVec_shiftRight]
  show (x.toUInt32.toBitVec >>> (((nI n).toUInt32 &&& Int32.toUInt32 31).toBitVec % 32).toNat).getLsbD i = _
  rw [s_u n hn, BitVec.getLsbD_ushiftRight]
theorem b_sshr (n : Nat) (hn : n < 32) (x : Int32) {i : Nat} (hi : i < 32) : bt (x >>> (nI n &&& 31)) i = if n + i < 32 then bt x (n + i) else bt x 31 := by
  unfold bt
  rw [Int32.toBitVec_shiftRight]
  show (x.toBitVec.sshiftRight ((nI n &&& 31).toBitVec.smod 32).toNat).getLsbD i = _
  rw [s_l n hn, BitVec.getLsbD_sshiftRight, BitVec.msb_eq_getLsbD_last]
  simp [hi]
theorem b_shl8 (x : Int32) {i : Nat} (hi : i < 32) : bt (x <<< ((8 : Int32) &&& 31)) i = (decide (8 ≤ i) && bt x (i - 8)) := b_shl 8 (by omega) x hi
theorem b_shl16 (x : Int32) {i : Nat} (hi : i < 32) : bt (x <<< ((16 : Int32) &&& 31)) i = (decide (16 ≤ i) && bt x (i - 16)) := b_shl 16 (by omega) x hi
theorem b_shl24 (x : Int32) {i : Nat} (hi : i < 32) : bt (x <<< ((24 : Int32) &&& 31)) i = (decide (24 ≤ i) && bt x (i - 24)) := b_shl 24 (by omega) x hi
theorem b_sshr8 (x : Int32) {i : Nat} (hi : i < 32) : bt (x >>> ((8 : Int32) &&& 31)) i = if 8 + i < 32 then bt x (8 + i) else bt x 31 := b_sshr 8 (by omega) x hi
theorem b_one : ∀ p, p < 32 → ∀ i, i < 32 → bt ((1 : Int32) <<< (nI p &&& 31)) i = decide (i = p) := by decide +kernel
theorem b_1 : ∀ i, i < 32 → bt (1 : Int32) i = decide (i = 0) := by decide +kernel
/-- has(set, p) -/
theorem b_has {p : Nat} (hp : p < 32) (x : Int32) : (x >>> (nI p &&& 31)) &&& 1 = if bt x p then 1 else 0 := by
  apply b_ext
  intro i hi
  rw [b_and, b_sshr p hp x hi, b_1 i hi]
  by_cases e : i = 0
  · subst e
    simp only [Nat.add_zero, hp, if_true]
    cases bt x p <;> decide
  · have e2 : decide (i = 0) = false := by simp [e]
    rw [e2, Bool.and_false]
    cases bt x p
    · simp [b_0]
    · simp [b_1 i hi, e]
theorem b_xm (x : Int32) {i : Nat} (hi : i < 32) : bt (x ^^^ (-1)) i = !bt x i := by
  rw [b_xor, b_m1 i hi]; cases bt x i <;> rfl
theorem b_zero {x : Int32} (h : ∀ i, i < 32 → bt x i = false) : x = 0 := b_ext fun i hi => by rw [h i hi, b_0]
theorem b_some {x : Int32} (h : ¬ x = 0) : ∃ i, i < 32 ∧ bt x i = true := by
  by_cases q : ∃ i, i < 32 ∧ bt x i = true
  · exact q
  · exact absurd (b_zero fun i hi => by
      cases e : bt x i
      · rfl
      · exact absurd ⟨i, hi, e⟩ q) h
/-- the set of all places -/
theorem b_all : ∀ n, n < 13 → ∀ i, i < 32 → bt (((1 : Int32) <<< (nI n &&& 31)) - 1) i = decide (i < n) := by decide +kernel
