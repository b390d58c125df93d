/-! THE START: what the Statement gives, as the surroundings of the flat world; the claim out of the law's pure function -/
def w_e : Wd := (fun _ => 99, fun _ => 0, fun _ _ => 0, fun _ _ => none, 0)
theorem st_p {ty : FieldType} {args : Array Value} {s : State} (h : (Cond.arrayClass ty).before args s = true) : ∃ c, ArrOfT s c ty ∧ s.vm.findClass ("[" ++ ty.toString) = some c := by
  obtain ⟨c, k, comp, h1, h2, h3⟩ := Cond.arrayClass_spec (args := args) (first := s) (o := none) (s := s) (idx := []) h
  exact ⟨c, fun n z => ⟨(fun _ h => by cases h), k, h2, comp, h3⟩, h1⟩
theorem st_o {n : String} {args : Array Value} {s : State} (h : (Cond.arrayOver (.object n)).before args s = true) : ∃ c, ArrOfT s c (.object n) ∧ va_RA s c (.object n) := by
  obtain ⟨comp, c, k, h1, -, h2, h3, h4⟩ := Cond.arrayOver_spec (args := args) (first := s) (o := none) (s := s) (idx := []) h
  exact ⟨c, fun n z => ⟨(fun _ h => by cases h), k, h2, comp, h3⟩, k, comp, h2, h3, h1, h4⟩
theorem st_K {s : State} {args : Array Value} (hts : ∀ w ∈ gw, w.before args s = true) : ∃ D : va_G, ∀ (c : Nat) (q : vw_C), vwCl[c]? = some q → u_Kn s q.1 q.2.1 q.2.2 (D.1 c) (D.2 c) := by
  have h : ∀ c : Nat, ∃ d : ClassId × (Nat → Nat), ∀ q : vw_C, vwCl[c]? = some q → u_Kn s q.1 q.2.1 q.2.2 d.1 d.2 := by
    intro c
    by_cases hc : c < 10
    · have one : ∀ {C : String} {T : u_T} {N : Nat}, vwCl[c]? = some (C, T, N) → (∀ w ∈ u_ws C T N, w ∈ gw) → Cond.instantiable C N ∈ gw → ∃ d : ClassId × (Nat → Nat), ∀ q : vw_C, vwCl[c]? = some q → u_Kn s q.1 q.2.1 q.2.2 d.1 d.2 := by
        intro C T N h1 h2 h3
        obtain ⟨cC, iS, hk⟩ := u_known (n := N) hts h2 (hts _ h3)
        exact ⟨(cC, iS), fun q hq => by cases h1.symm.trans hq; exact hk⟩
      match c, hc with
      | 0, _ => exact one (C := RX0) (T := TX0) (N := 4) rfl uiX0 (gw_of 97 (by decide +kernel) (by decide +kernel))
      | 1, _ => exact one (C := RX1) (T := TX1) (N := 11) rfl uiX1 (gw_of 91 (by decide +kernel) (by decide +kernel))
      | 2, _ => exact one (C := RX2) (T := TX2) (N := 4) rfl uiX2 (gw_of 205 (by decide +kernel) (by decide +kernel))
      | 3, _ => exact one (C := RX3) (T := TX3) (N := 3) rfl uiX3 (gw_of 279 (by decide +kernel) (by decide +kernel))
      | 4, _ => exact one (C := RX4) (T := TX4) (N := 4) rfl uiX4 (gw_of 129 (by decide +kernel) (by decide +kernel))
      | 5, _ => exact one (C := RX5) (T := TX5) (N := 4) rfl uiX5 (gw_of 297 (by decide +kernel) (by decide +kernel))
      | 6, _ => exact one (C := RX6) (T := TX6) (N := 14) rfl uiX6 (gw_of 226 (by decide +kernel) (by decide +kernel))
      | 7, _ => exact one (C := RX7) (T := TX7) (N := 4) rfl uiX7 (gw_of 892 (by decide +kernel) (by decide +kernel))
      | 8, _ => exact one (C := RX8) (T := TX8) (N := 10) rfl uiX8 (gw_of 83 (by decide +kernel) (by decide +kernel))
      | 9, _ => exact one (C := RX9) (T := TX9) (N := 35) rfl uiX9 (gw_of 1015 (by decide +kernel) (by decide +kernel))
      | k + 10, h => exact absurd h (by omega)
    · refine ⟨(0, fun _ => 0), fun q hq => ?_⟩
      have := (List.getElem?_eq_some_iff.mp hq).1
      have e : vwCl.length = 10 := rfl
      omega
  obtain ⟨D, hD⟩ := Classical.axiomOfChoice h
  exact ⟨(fun c => (D c).1, fun c => (D c).2), hD⟩
theorem st_S {N : Nat} {len : List Nat} {byt : List (List Int32)} {a b a' b' : Nat → Nat} {A : Nat → Prop} {U : State} {H : Heap} (h : vk_S N len byt a b A U H) (ha : ∀ i, i < N → a' i = a i) (hb : ∀ i, i < N → b' i = b i) : vk_S N len byt a' b' A U H :=
  ⟨fun i hi => by rw [ha i hi, hb i hi]; exact h.1 i hi, fun i j hi hj e => h.2 i j hi hj (by rw [← ha i hi, ← ha j hj]; exact e)⟩
def st_c : List Cond := flatC (Jvm.Cond.and given_1 narrow_1)
def st_t (i : Nat) : Term := .string "BenchSeats$Tape" (stI i)
theorem st_c1 : ∀ i, i < 6 → Cond.exactly (st_t i) "java/lang/String" ∈ st_c ∧ Cond.eq (.field (st_t i) "java/lang/String" "coder" "B") (.int 0) ∈ st_c ∧ Cond.arrayOf (.field (st_t i) "java/lang/String" "value" "[B") .byte ∈ st_c ∧ Cond.eq (.length (.field (st_t i) "java/lang/String" "value" "[B")) (.int (Int32.ofNat (stN.getD i 0))) ∈ st_c := by decide +kernel
theorem st_c2 : ∀ i, i < 6 → ∀ j, j < stN.getD i 0 → Cond.eq (.elem (.field (st_t i) "java/lang/String" "value" "[B") (.int (Int32.ofNat j))) (.int ((stB.getD i []).getD j 0)) ∈ st_c := by decide +kernel
theorem st_c3 : ∀ i, i < 6 → ∀ j, j < 6 → i ≠ j → Cond.not (Cond.eq (st_t i) (st_t j)) ∈ st_c ∨ Cond.not (Cond.eq (st_t j) (st_t i)) ∈ st_c := by decide +kernel
theorem st_c4 : Cond.arrayOf (.static "BenchSeats" "KINDS_OF" "[I") .int ∈ st_c ∧ Cond.eq (.length (.static "BenchSeats" "KINDS_OF" "[I")) (.int (Int32.ofNat 6)) ∈ st_c ∧ (∀ j, j < 6 → Cond.eq (.elem (.static "BenchSeats" "KINDS_OF" "[I") (.int (Int32.ofNat j))) (.int (kdL.getD j 0)) ∈ st_c) := by decide +kernel
theorem st_c5 : Cond.arrayOf (.static "BenchSeats" "RULE_TOPS" "[I") .int ∈ st_c ∧ Cond.eq (.length (.static "BenchSeats" "RULE_TOPS" "[I")) (.int (Int32.ofNat 4)) ∈ st_c ∧ (∀ j, j < 4 → Cond.eq (.elem (.static "BenchSeats" "RULE_TOPS" "[I") (.int (Int32.ofNat j))) (.int (rtL.getD j 0)) ∈ st_c) := by decide +kernel
theorem st_c6 : Cond.eq (.static "java/lang/String" "COMPACT_STRINGS" "Z") (.int 1) ∈ st_c ∧ Cond.isRef (.static "jdk/internal/util/Preconditions" "SIOOBE_FORMATTER" "Ljava/util/function/BiFunction;") ∈ st_c := by decide +kernel
theorem st_n : ∀ w ∈ nwL, w ∈ lw_tbl ∧ w.onTables = true := by decide +kernel
theorem st_a : ∀ C ∈ aoL, Cond.arrayOver (.object C) ∈ lw_tbl := by decide +kernel
theorem st_r : ∀ i, i < 6 → Cond.stringRef RX6 (stI i) (stT i) ∈ lw_tbl := by decide +kernel
theorem st_l1 : Cond.laysStatic "BenchSeats" "KINDS_OF" "[I" ∈ lw_tbl ∧ Cond.laysStatic "BenchSeats" "RULE_TOPS" "[I" ∈ lw_tbl ∧ Cond.initialized "BenchSeats" ∈ lw_tbl ∧ Cond.laysStatic "java/lang/String" "COMPACT_STRINGS" "Z" ∈ lw_tbl ∧ Cond.initialized "java/lang/String" ∈ lw_tbl ∧ Cond.laysStatic "jdk/internal/util/Preconditions" "SIOOBE_FORMATTER" "Ljava/util/function/BiFunction;" ∈ lw_tbl ∧ Cond.initialized "jdk/internal/util/Preconditions" ∈ lw_tbl := by decide +kernel
theorem st_En {s : State} {b : Nat} (hts : ∀ w ∈ lw_tbl, w.before #[Value.ref b] s = true) (hgv : (Jvm.Cond.and given_1 narrow_1).before #[Value.ref b] s = true) : ∃ V : Vt, V.1 = s.heap.size ∧ En V s := by
  have hg : ∀ w ∈ gw, w.before #[Value.ref b] s = true := fun w hw => hts w (List.mem_filter.mp hw).1
  have hs : ∀ c ∈ st_c, c.before #[Value.ref b] s = true := flat_of_before _ hgv
  obtain ⟨D, hD⟩ := st_K hg
  obtain ⟨cC, a1, a2⟩ := st_p (hts (Cond.arrayClass .char) (by decide +kernel))
  obtain ⟨cI, b1, b2⟩ := st_p (hts (Cond.arrayClass .int) (by decide +kernel))
  obtain ⟨cB, d1, d2⟩ := st_p (hts (Cond.arrayClass .boolean) (by decide +kernel))
  obtain ⟨c3, e1, e2⟩ := st_o (hts _ (st_a RX3 (by decide +kernel)))
  obtain ⟨c4, f1, f2⟩ := st_o (hts _ (st_a RX4 (by decide +kernel)))
  obtain ⟨c5, g1, g2⟩ := st_o (hts _ (st_a RX5 (by decide +kernel)))
  obtain ⟨c7, h1, h2⟩ := st_o (hts _ (st_a RX7 (by decide +kernel)))
  have hA : ∀ a : Nat, a < s.heap.size → ¬ (fun q : Nat => s.heap.size ≤ q) a := fun a h => Nat.not_le.mpr h
  obtain ⟨t0, i1, i2⟩ := va_Tof (N := 6) (f := fun j => .int (kdL.getD j 0)) (A := fun q : Nat => s.heap.size ≤ q) (by decide) (hs _ st_c4.1) (va_eqt (hs _ st_c4.2.1)) (fun j hj => va_eqt (hs _ (st_c4.2.2 j hj))) hA
  obtain ⟨t1, j1, j2⟩ := va_Tof (N := 4) (f := fun j => .int (rtL.getD j 0)) (A := fun q : Nat => s.heap.size ≤ q) (by decide) (hs _ st_c5.1) (va_eqt (hs _ st_c5.2.1)) (fun j hj => va_eqt (hs _ (st_c5.2.2 j hj))) hA
  obtain ⟨aK0, aV0, k1, k2⟩ := vk_Sof (args := #[Value.ref b]) (s := s) (N := 6) (tm := st_t) (len := stN) (byt := stB) (A := fun q : Nat => s.heap.size ≤ q) (by decide +kernel) (fun i hi => hs _ (st_c1 i hi).1) (fun i hi => hs _ (st_c1 i hi).2.1) (fun i hi => hs _ (st_c1 i hi).2.2.1) (fun i hi => hs _ (st_c1 i hi).2.2.2) (fun i hi j hj => hs _ (st_c2 i hi j hj)) (fun i j hi hj hij => (st_c3 i hi j hj hij).imp (hs _) (hs _)) hA
  let ao : Nat → Nat := fun k => if k = 0 then t0 else if k = 1 then t1 else if k < 20 then aK0 (k - 10) else aV0 (k - 20)
  let ac : Nat → ClassId := fun k => if k = 10 then cC else if k = 11 then cI else if k = 12 then cB else if k = 13 then c3 else if k = 14 then c4 else if k = 15 then c5 else c7
  have oK : ∀ i, i < 6 → ao (10 + i) = aK0 i := fun i hi => by
    show (if 10 + i = 0 then t0 else if 10 + i = 1 then t1 else if 10 + i < 20 then aK0 (10 + i - 10) else aV0 (10 + i - 20)) = aK0 i
    rw [if_neg (by omega), if_neg (by omega), if_pos (by omega), show 10 + i - 10 = i by omega]
  have oV : ∀ i, i < 6 → ao (20 + i) = aV0 i := fun i hi => by
    show (if 20 + i = 0 then t0 else if 20 + i = 1 then t1 else if 20 + i < 20 then aK0 (20 + i - 10) else aV0 (20 + i - 20)) = aV0 i
    rw [if_neg (by omega), if_neg (by omega), if_neg (by omega), show 20 + i - 20 = i by omega]
  refine ⟨(s.heap.size, D, ac, ao), rfl, ⟨hD, ?_⟩, fun w hw => va_Nw.of (st_n w hw).2 (hts w (st_n w hw).1), fun C hC => va_AO.of (hts _ (st_a C hC)), fun i hi => ?_, ?_⟩
  · intro k q hk
    match k, hk with
    | 0, hk => cases hk; exact ⟨a1, a2⟩
    | 1, hk => cases hk; exact ⟨b1, b2⟩
    | 2, hk => cases hk; exact ⟨d1, d2⟩
    | 3, hk => cases hk; exact ⟨e1, e2⟩
    | 4, hk => cases hk; exact ⟨f1, f2⟩
    | 5, hk => cases hk; exact ⟨g1, g2⟩
    | 6, hk => cases hk; exact ⟨h1, h2⟩
    | k + 7, hk => cases hk
  · refine vk_R.of (A := #[Value.ref b]) (hts _ (st_r i hi)) ?_
    show (st_t i).eval _ _ _ _ _ = some (.ref (ao (10 + i)))
    rw [oK i hi]
    exact k2 i hi
  · refine ⟨⟨va_Zof (hts _ st_l1.1) (hts _ st_l1.2.2.1) i1 hA, i2⟩, ⟨va_Zof (hts _ st_l1.2.1) (hts _ st_l1.2.2.1) j1 hA, j2⟩, st_S k1 oK oV, va_Zof (hts _ st_l1.2.2.2.1) (hts _ st_l1.2.2.2.2.1) (va_eqt (hs _ st_c6.1)) hA, ?_⟩
    exact va_Zqof (hts _ st_l1.2.2.2.2.2.1) (hts _ st_l1.2.2.2.2.2.2) (hs _ st_c6.2) hA
/-- the pure claim: the law's pure function answers 1 -/
def Pure_ : Prop := ∀ (xs : Nat → Int32) (L : Nat), L ≤ 3072 → ∃ w' : Wd, f_L_law xs L w_e = some (1, w')
