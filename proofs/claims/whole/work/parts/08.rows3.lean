/-! ROWS OF THE FLAT WORLD: names for values, heads of methods, copies, statics, texts -/
def lb_ {α β : Type} (x : α) (f : α → β) : β := f x
theorem lb_i {α β : Type} {x : α} {f : α → Option β} {r : β} (h : lb_ x f = some r) : ∃ y, y = x ∧ f y = some r := ⟨x, rfl, h⟩
def mt_ {α β : Type} (o : Option α) (A : β) (f : α → β) : β := match o with
  | none => A
  | some a => f a
theorem mt_n {α β : Type} {A r : β} {f : α → β} (h : mt_ none A f = r) : A = r := h
theorem mt_s {α β : Type} {a : α} {A r : β} {f : α → β} (h : mt_ (some a) A f = r) : f a = r := h
def i2c_ (x : Int32) : Int32 := (x.toUInt32 % 65536).toInt32
def aK (k : Nat) (w : Wd) (a : Nat) (i : Int32) : Bool := decide (wK w a = k) && ib i (wL w a)
theorem aK_i {k : Nat} {w : Wd} {a : Nat} {i : Int32} (h : aK k w a i = true) : wK w a = k ∧ ib i (wL w a) = true := by
  simp only [aK, Bool.and_eq_true, decide_eq_true_eq] at h
  exact h
theorem kd_I {w w1 : Wd} {a j b c : Nat} {v : Int32} (e : w1 = sI w a j v) (h : wK w b = c) : wK w1 b = c := by subst e; exact h
theorem kd_R {w w1 : Wd} {a j b c : Nat} {v : Option Nat} (e : w1 = sR w a j v) (h : wK w b = c) : wK w1 b = c := by subst e; exact h
theorem kd_N {w w1 : Wd} {a k n : Nat} (ea : a = wN w) (e : w1 = nC w k n) : wK w1 a = k := by subst e; subst ea; exact va_up_self _ _ _
theorem bz_n {x : Int32} (h : x = 0 ∨ x = 1) : narrow .boolean (.int x) = .int x := by rcases h with e | e <;> subst e <;> decide +kernel
theorem bz_ite {c : Prop} [Decidable c] {a b : Int32} (h1 : a = 0 ∨ a = 1) (h2 : b = 0 ∨ b = 1) : (if c then a else b) = 0 ∨ (if c then a else b) = 1 := by split <;> assumption
theorem nt_ {x v : Int32} (h : ¬ x = v) : x.toInt ≠ v.toInt := fun q => h (Int32.toInt_inj.mp q)
def Hd_ (t : Ct) (V : Vt) (cc : ByteArray) (nL : Nat) (own : String) (rm : Room) (ret : Option FieldType) (nm : String) : Prop := Cx t V cc nL own ∧ tR t = rm ∧ (tMe t).sig.returnType = ret ∧ (tMe t).name = nm
/-- what a copy of n places may be, and what it makes -/
def cp_ok (w : Wd) (a : Nat) (sp : Int32) (b : Nat) (dp n : Int32) : Bool := decide (wK w a = 11) && (decide (wK w b = 11) && (decide (¬ sp < 0) && (decide (¬ dp < 0) && (decide (¬ n < 0) && (decide (nx sp + nx n ≤ wL w a) && decide (nx dp + nx n ≤ wL w b))))))
def cp_W (w : Wd) (a : Nat) (sp : Int32) (b : Nat) (dp n : Int32) : Wd := sF w b (va_cpy (wI w a) (wI w b) (nx sp) (nx dp) (nx n))
theorem kd_C {w w1 : Wd} {a b x c : Nat} {sp dp n : Int32} (e : w1 = cp_W w a sp b dp n) (h : wK w x = c) : wK w1 x = c := by subst e; exact h
theorem in_by {ws big : List Cond} (ix : List Nat) (h : ws.map some = ix.map (fun i => big[i]?)) (hg : ∀ w ∈ ws, goodWord w = true) : ∀ w ∈ ws, w ∈ big.filter goodWord := by
  intro w hw
  refine List.mem_filter.mpr ⟨?_, hg w hw⟩
  have h1 : some w ∈ ix.map (fun i => big[i]?) := by rw [← h]; exact List.mem_map_of_mem hw
  obtain ⟨i, -, e⟩ := List.mem_map.mp h1
  exact List.mem_of_getElem? e
section GR3
variable {t : Ct} {V : Vt} {cc : ByteArray} {nL ce sl : Nat} {own : String} {Q : State → Prop} {pc : Nat} {lv : List (Nat × Value)} {st : List Value} {w : Wd}
theorem g_as {lv' : List (Nat × Value)} {st' : List Value} (e1 : lv = lv') (e2 : st = st') (k : Gd t V nL ce sl Q pc lv' st' w) : Gd t V nL ce sl Q pc lv st w := by subst e1; subst e2; exact k
theorem g_w {w1 : Wd} (e : w1 = w) (k : Gd t V nL ce sl Q pc lv st w1) : Gd t V nL ce sl Q pc lv st w := e ▸ k
theorem g_top {x y : Int32} (e : x = y) (k : Gd t V nL ce sl Q pc lv (.int x :: st) w) : Gd t V nL ce sl Q pc lv (.int y :: st) w := e ▸ k
theorem g_topl {x y : Int64} (e : x = y) (k : Gd t V nL ce sl Q pc lv (.long x :: st) w) : Gd t V nL ce sl Q pc lv (.long y :: st) w := e ▸ k
theorem g_topr {x y : Nat} (e : x = y) (k : Gd t V nL ce sl Q pc lv (rf V x :: st) w) : Gd t V nL ce sl Q pc lv (rf V y :: st) w := e ▸ k
theorem g_iald (X : Cx t V cc nL own) {a : Nat} {i : Int32} (h : aK 11 w a i = true) (d : decode cc pc = .ok (.iaload, 1)) (kk : Gd t V nL ce sl Q (pc + 1) lv (.int (wI w a (nx i)) :: st) w) : Gd t V nL ce sl Q pc lv (.int i :: rf V a :: st) w := g_iaload X (aK_i h).1 (aK_i h).2 d kk
theorem g_cald (X : Cx t V cc nL own) {a : Nat} {i : Int32} (h : aK 10 w a i = true) (d : decode cc pc = .ok (.caload, 1)) (kk : Gd t V nL ce sl Q (pc + 1) lv (.int (wI w a (nx i)) :: st) w) : Gd t V nL ce sl Q pc lv (.int i :: rf V a :: st) w := g_caload X (aK_i h).1 (aK_i h).2 d kk
theorem g_bald (X : Cx t V cc nL own) {a : Nat} {i : Int32} (h : aK 12 w a i = true) (d : decode cc pc = .ok (.baload, 1)) (kk : Gd t V nL ce sl Q (pc + 1) lv (.int (wI w a (nx i)) :: st) w) : Gd t V nL ce sl Q pc lv (.int i :: rf V a :: st) w := g_baload X (aK_i h).1 (aK_i h).2 d kk
theorem g_aald (X : Cx t V cc nL own) {a b k : Nat} {C : String} {i : Int32} (h : aK k w a i = true) (hk1 : ¬ k < 13) (hk2 : k < 17) (ht : (tyl V)[k - 10]? = some (V.2.2.1 k, .object C)) (hr : wR w a (nx i) = some b) (d : decode cc pc = .ok (.aaload, 1)) (kk : Gd t V nL ce sl Q (pc + 1) lv (rf V b :: st) w) : Gd t V nL ce sl Q pc lv (.int i :: rf V a :: st) w := g_aaload X (aK_i h).1 hk1 hk2 ht (aK_i h).2 hr d kk
theorem g_iast (X : Cx t V cc nL own) {a : Nat} {i x : Int32} (h : aK 11 w a i = true) (d : decode cc pc = .ok (.iastore, 1)) (kk : Gd t V nL ce sl Q (pc + 1) lv st (sI w a (nx i) x)) : Gd t V nL ce sl Q pc lv (.int x :: .int i :: rf V a :: st) w := g_iastore X (aK_i h).1 (aK_i h).2 d kk
theorem g_bast (X : Cx t V cc nL own) {a : Nat} {i x : Int32} (h : aK 12 w a i = true) (hx : narrow .boolean (.int x) = .int x) (d : decode cc pc = .ok (.bastore, 1)) (kk : Gd t V nL ce sl Q (pc + 1) lv st (sI w a (nx i) x)) : Gd t V nL ce sl Q pc lv (.int x :: .int i :: rf V a :: st) w := g_bastore X (aK_i h).1 (aK_i h).2 hx d kk
theorem g_cast (X : Cx t V cc nL own) {a : Nat} {i x : Int32} (h : aK 10 w a i = true) (hx : narrow .char (.int x) = .int x) (d : decode cc pc = .ok (.castore, 1)) (kk : Gd t V nL ce sl Q (pc + 1) lv st (sI w a (nx i) x)) : Gd t V nL ce sl Q pc lv (.int x :: .int i :: rf V a :: st) w := g_castore X (aK_i h).1 (aK_i h).2 hx d kk
theorem g_aast (X : Cx t V cc nL own) {a b k ci : Nat} {C : String} {T : u_T} {N : Nat} {ty : Nat → FieldType} {i : Int32} (F : Fc ci C T N ty) (hb : wK w b = ci) (h : aK k w a i = true) (hk1 : ¬ k < 13) (hk2 : k < 17) (ht : (tyl V)[k - 10]? = some (V.2.2.1 k, .object C)) (d : decode cc pc = .ok (.aastore, 1)) (kk : Gd t V nL ce sl Q (pc + 1) lv st (sR w a (nx i) (some b))) : Gd t V nL ce sl Q pc lv (rf V b :: .int i :: rf V a :: st) w := g_aastore X F hb (aK_i h).1 hk1 hk2 ht (aK_i h).2 d kk
theorem g_i2b (X : Cx t V cc nL own) {x : Int32} (d : decode cc pc = .ok (.i2b, 1)) (k : Gd t V nL ce sl Q (pc + 1) lv (.int x.toInt8.toInt32 :: st) w) : Gd t V nL ce sl Q pc lv (.int x :: st) w :=
  fun H locs ls h1 h2 h3 => lv_i2b X.1 X.2.1 d rfl (k H locs ls h1 h2 h3)
theorem g_aload_nS (X : Cx t V cc nL own) {k : Fin 4} {x : Nat} (n : Nat) (hi : lv[n]? = some ((k : Nat), .ref x)) (d : decode cc pc = .ok (.aload_n k, 1)) (kk : Gd t V nL ce sl Q (pc + 1) lv (.ref x :: st) w) : Gd t V nL ce sl Q pc lv st w :=
  fun H locs ls h1 h2 h3 => lv_aload_n X.1 X.2.1 d rfl (lv_at h3 n hi) (kk H locs ls h1 h2 h3)
theorem g_astore_nS (X : Cx t V cc nL own) {k : Fin 4} {x : Nat} {lv' : List (Nat × Value)} (d : decode cc pc = .ok (.astore_n k, 1)) (hn : (k : Nat) < nL) (hl : ((k : Nat), Value.ref x) :: lv.filter (fun q => !(q.1 == (k : Nat)) && !(q.1 + 1 == (k : Nat) && q.2.category == 2)) = lv') (kk : Gd t V nL ce sl Q (pc + 1) lv' st w) : Gd t V nL ce sl Q pc lv (.ref x :: st) w :=
  fun H locs ls h1 h2 h3 => lv_astore_n X.1 X.2.1 d rfl h3 hn hl (fun ls' h3' => kk H locs ls' h1 h2 h3')
/-! texts -/
theorem g_ldcS {i : Nat} (X : Cx t V cc nL RX6) (j : Nat) (hj : j < 6) (d : decode cc pc = .ok (.ldc i, 2)) (hi : stI j = i) (kk : Gd t V nL ce sl Q (pc + 2) lv (.ref (V.2.2.2 (10 + j)) :: st) w) : Gd t V nL ce sl Q pc lv st w := by
  subst hi
  exact fun H locs ls h1 h2 h3 => va_ldcS X.1 X.2.1 X.2.2.2.1 (X.2.2.2.2.2.2.2.2.2.1 j hj) d (kk H locs ls h1 h2 h3)
theorem g_strV (X : Cx t V cc nL own) {i index : Nat} (hi : i < 6) (q : Cond.fieldLink own index "java/lang/String" "value" "[B" ∈ gw) (d : decode cc pc = .ok (.getfield index, 3)) (kk : Gd t V nL ce sl Q (pc + 3) lv (.ref (V.2.2.2 (20 + i)) :: st) w) : Gd t V nL ce sl Q pc lv (.ref (V.2.2.2 (10 + i)) :: st) w :=
  fun H locs ls h1 h2 h3 => vk_getf X.1 X.2.1 ((X.2.2.2.2.2.2.2.2.2.2.2.2.1).1 i hi).2.2.1 h2 X.2.2.2.1 (X.2.2.2.2.1 _ q) (fun _ h => h) d (kk H locs ls h1 h2 h3)
theorem g_strC (X : Cx t V cc nL own) {i index : Nat} (hi : i < 6) (q : Cond.fieldLink own index "java/lang/String" "coder" "B" ∈ gw) (d : decode cc pc = .ok (.getfield index, 3)) (kk : Gd t V nL ce sl Q (pc + 3) lv (.int 0 :: st) w) : Gd t V nL ce sl Q pc lv (.ref (V.2.2.2 (10 + i)) :: st) w :=
  fun H locs ls h1 h2 h3 => vk_getf X.1 X.2.1 ((X.2.2.2.2.2.2.2.2.2.2.2.2.1).1 i hi).2.1 h2 X.2.2.2.1 (X.2.2.2.2.1 _ q) (fun _ h => h) d (kk H locs ls h1 h2 h3)
theorem g_alenS (X : Cx t V cc nL own) {i : Nat} (hi : i < 6) (d : decode cc pc = .ok (.arraylength, 1)) (kk : Gd t V nL ce sl Q (pc + 1) lv (.int (nI (stN.getD i 0)) :: st) w) : Gd t V nL ce sl Q pc lv (.ref (V.2.2.2 (20 + i)) :: st) w :=
  fun H locs ls h1 h2 h3 => va_tlen X.1 X.2.1 ((X.2.2.2.2.2.2.2.2.2.2.2.2.1).1 i hi).2.2.2 h2 rfl d (kk H locs ls h1 h2 h3)
theorem g_baloadS (X : Cx t V cc nL own) {i : Nat} {k : Int32} (hi : i < 6) (hk : ib k (stN.getD i 0) = true) (d : decode cc pc = .ok (.baload, 1)) (kk : Gd t V nL ce sl Q (pc + 1) lv (.int ((stB.getD i []).getD (nx k) 0) :: st) w) : Gd t V nL ce sl Q pc lv (.int k :: .ref (V.2.2.2 (20 + i)) :: st) w :=
  fun H locs ls h1 h2 h3 => va_tb X.1 X.2.1 ((X.2.2.2.2.2.2.2.2.2.2.2.2.1).1 i hi).2.2.2 h2 (ib_in hk) rfl d (kk H locs ls h1 h2 h3)
theorem g_getsC (X : Cx t V cc nL own) {index : Nat} (q : Cond.fieldLink own index "java/lang/String" "COMPACT_STRINGS" "Z" ∈ gw) (d : decode cc pc = .ok (.getstatic index, 3)) (kk : Gd t V nL ce sl Q (pc + 3) lv (.int 1 :: st) w) : Gd t V nL ce sl Q pc lv st w :=
  fun H locs ls h1 h2 h3 => va_gets X.1 X.2.1 X.2.2.2.2.2.2.2.2.2.2.2.2.2.1 h2 X.2.2.2.1 (X.2.2.2.2.1 _ q) (fun _ h => h) d (kk H locs ls h1 h2 h3)
theorem g_getsQ (X : Cx t V cc nL own) {index : Nat} (q : Cond.fieldLink own index "jdk/internal/util/Preconditions" "SIOOBE_FORMATTER" "Ljava/util/function/BiFunction;" ∈ gw) (d : decode cc pc = .ok (.getstatic index, 3)) (kk : ∀ z : Option Nat, Gd t V nL ce sl Q (pc + 3) lv (va_rf z :: st) w) : Gd t V nL ce sl Q pc lv st w := by
  intro H locs ls h1 h2 h3
  rcases X.2.2.2.2.2.2.2.2.2.2.2.2.2.2 with h | ⟨a, h⟩
  · exact va_gets X.1 X.2.1 h h2 X.2.2.2.1 (X.2.2.2.2.1 _ q) (fun _ h => h) d (kk none H locs ls h1 h2 h3)
  · exact va_gets X.1 X.2.1 h h2 X.2.2.2.1 (X.2.2.2.2.1 _ q) (fun _ h => h) d (kk (some a) H locs ls h1 h2 h3)
/-! the class's own statics -/
theorem g_gets1 (X : Cx t V cc nL own) {index : Nat} (q : Cond.fieldLink own index "BenchSeats" "RULE_TOPS" "[I" ∈ gw) (d : decode cc pc = .ok (.getstatic index, 3)) (kk : Gd t V nL ce sl Q (pc + 3) lv (.ref (V.2.2.2 1) :: st) w) : Gd t V nL ce sl Q pc lv st w :=
  fun H locs ls h1 h2 h3 => va_gets X.1 X.2.1 X.2.2.2.2.2.2.2.2.2.2.2.1.1 h2 X.2.2.2.1 (X.2.2.2.2.1 _ q) (fun _ h => h) d (kk H locs ls h1 h2 h3)
theorem g_getsN0 (X : Cx t V cc nL own) {index : Nat} (q : Cond.fieldLinkNest own index RX8 "KINDS_OF" "[I" RX8 ∈ nwL) (d : decode cc pc = .ok (.getstatic index, 3)) (kk : Gd t V nL ce sl Q (pc + 3) lv (.ref (V.2.2.2 0) :: st) w) : Gd t V nL ce sl Q pc lv st w :=
  fun H locs ls h1 h2 h3 => va_getsN X.1 X.2.1 X.2.2.2.2.2.2.2.2.2.2.1.1 h2 X.2.2.2.1 (va_Nw.use (by rfl) (X.2.2.2.2.2.2.2.1 _ q)) (fun _ h => h) d (kk H locs ls h1 h2 h3)
theorem g_ialoadS0 (X : Cx t V cc nL own) {k : Int32} (hk : ib k 6 = true) (d : decode cc pc = .ok (.iaload, 1)) (kk : Gd t V nL ce sl Q (pc + 1) lv (.int (kdL.getD (nx k) 0) :: st) w) : Gd t V nL ce sl Q pc lv (.int k :: .ref (V.2.2.2 0) :: st) w :=
  fun H locs ls h1 h2 h3 => va_ti X.1 X.2.1 X.2.2.2.2.2.2.2.2.2.2.1.2 h2 (ib_in hk) rfl d (kk H locs ls h1 h2 h3)
theorem g_ialoadS1 (X : Cx t V cc nL own) {k : Int32} (hk : ib k 4 = true) (d : decode cc pc = .ok (.iaload, 1)) (kk : Gd t V nL ce sl Q (pc + 1) lv (.int (rtL.getD (nx k) 0) :: st) w) : Gd t V nL ce sl Q pc lv (.int k :: .ref (V.2.2.2 1) :: st) w :=
  fun H locs ls h1 h2 h3 => va_ti X.1 X.2.1 X.2.2.2.2.2.2.2.2.2.2.2.1.2 h2 (ib_in hk) rfl d (kk H locs ls h1 h2 h3)
theorem g_callT {y : MethodName} {bytes : ByteArray} {maxL mc ms n index i : Nat} {ret : Option FieldType} {rm : Room} {As rest st' : List Value} {ov : Option Value} {w' : Wd} (X : Cx t V cc nL own) (hi : i < 6) (hy : y.cls = "java/lang/String") (P : Mk y bytes maxL ret n) (q1 : Cond.instanceMethod y ∈ gw) (q2 : Cond.selects y.cls y y ∈ gw) (q : Cond.methodLink own index y ∈ gw) (M : MetW t.2.1 V y bytes maxL ret rm w (.ref (V.2.2.2 (10 + i)) :: As) ov w' mc ms) (hrc : rm.cells = mc) (hrs : rm.slots = ms) (hR : rm.frames + 1 ≤ (tR t).frames ∧ 8 + (maxL + 11) + rm.locals ≤ (tR t).locals) (hn : As.length = n) (hst : st = As.reverse ++ .ref (V.2.2.2 (10 + i)) :: rest) (hW : 0 + (rest.map fun v => v.category).sum ≤ 8) (hf : ce + mc ≤ (tR t).cells ∧ sl + ms ≤ (tR t).slots) (d : decode cc pc = .ok (.invokevirtual index, 3)) (hv : ov.toList ++ rest = st') (kk : Gd t V nL (ce + mc) (sl + ms) Q (pc + 3) lv st' w') : Gd t V nL ce sl Q pc lv st w := by
  refine g_run (a := #[]) (fun H locs ls h1 h2 h3 => ?_) hv kk
  exact va_runV (C := y.cls) (As := As) (rest := rest) (b := V.2.2.2 (10 + i)) (Ts := gw) ⟨X.1, X.2.1, X.2.2.1, X.2.2.2.1, X.2.2.2.2.1⟩ M ⟨g_callB X P q hrc hrs hR, X.2.2.2.2.1 _ q1, X.2.2.2.2.1 _ q2⟩ ⟨PcM.blind V w _, by rw [hy]; exact vk_recv (i := i) (adK := fun i => V.2.2.2 (10 + i)) X.2.2.2.2.2.2.2.2.2.2.2.2.1 hi h2, fun U hU hW => ⟨rfl, X.2.2.2.2.2.2.go h2 hU hW, by rw [hU]; exact h1⟩⟩ rfl hn h3.1 hst hW d hf
theorem g_nret (X : Cx t V cc nL own) {mc ms : Nat} {x r : Int32} {w' : Wd} {ty : FieldType} (hr : (tMe t).sig.returnType = some ty) (hx : narrow ty (.int x) = .int x) (hc : ce ≤ mc) (hs : sl ≤ ms) (e1 : x = r) (e2 : w = w') (d : decode cc pc = .ok (.ireturn, 1)) : Gd t V nL ce sl (Qe t V (some (.int r)) w' mc ms) pc lv [.int x] w := by
  subst e1; subst e2
  refine g_widen hc hs ?_
  intro H locs ls h1 h2 h3
  exact W.zret X.1 X.2.1 hr hx (fun t ht hW => ⟨rfl, by rw [ht]; exact h1, h2.F ht⟩) h2.2.2 d X.2.2.2.2.2.1
/-! Math -/
theorem g_mmin (X : Cx t V cc nL own) {index : Nat} (q : Cond.methodLink own index Lib.Math.min.name ∈ gw) (q1 : Cond.static Lib.Math.min.name ∈ gw) (q2 : Cond.initialized "java/lang/Math" ∈ gw) (q3 : Cond.code Lib.Math.min.name Lib.Math.min.code 2 (some .int) ∈ gw) (hf : 1 ≤ (tR t).frames) (hlo : (st.map fun v => v.category).sum + 13 ≤ (tR t).locals) (hc : ce ≤ (tR t).cells ∧ sl ≤ (tR t).slots) {x y : Int32} (d : decode cc pc = .ok (.invokestatic index, 3)) (kk : Gd t V nL ce sl Q (pc + 3) lv (.int (if y < x then y else x) :: st) w) : Gd t V nL ce sl Q pc lv (.int y :: .int x :: st) w :=
  fun H locs ls h1 h2 h3 => va_mmin X.1 X.2.1 (by rw [X.2.2.1]; exact h3.1.symm) X.2.2.2.1 (X.2.2.2.2.1 _ q) (X.2.2.2.2.1 _ q1) (X.2.2.2.2.1 _ q2) (X.2.2.2.2.1 _ q3) hf hlo hc.1 hc.2 d (kk H locs ls h1 h2 h3)
theorem g_mmax (X : Cx t V cc nL own) {index : Nat} (q : Cond.methodLink own index Lib.Math.max.name ∈ gw) (q1 : Cond.static Lib.Math.max.name ∈ gw) (q2 : Cond.initialized "java/lang/Math" ∈ gw) (q3 : Cond.code Lib.Math.max.name Lib.Math.max.code 2 (some .int) ∈ gw) (hf : 1 ≤ (tR t).frames) (hlo : (st.map fun v => v.category).sum + 13 ≤ (tR t).locals) (hc : ce ≤ (tR t).cells ∧ sl ≤ (tR t).slots) {x y : Int32} (d : decode cc pc = .ok (.invokestatic index, 3)) (kk : Gd t V nL ce sl Q (pc + 3) lv (.int (if x < y then y else x) :: st) w) : Gd t V nL ce sl Q pc lv (.int y :: .int x :: st) w :=
  fun H locs ls h1 h2 h3 => va_mmax X.1 X.2.1 (by rw [X.2.2.1]; exact h3.1.symm) X.2.2.2.1 (X.2.2.2.2.1 _ q) (X.2.2.2.2.1 _ q1) (X.2.2.2.2.1 _ q2) (X.2.2.2.2.1 _ q3) hf hlo hc.1 hc.2 d (kk H locs ls h1 h2 h3)
/-! an array of ints whose length is no written number -/
theorem g_newarrB (X : Cx t V cc nL own) (ra : ∀ (U : State) (c : ClassId), va_RA U c .int → U.vm.findClass ("[" ++ FieldType.int.toString) = some c) (q : Cond.arrayClass .int ∈ gw) {n : Int32} (hi : ib n 100 = true) (hc : ce + 1 ≤ (tR t).cells) (hs : sl + 100 ≤ (tR t).slots) (d : decode cc pc = .ok (.newarray .int, 2)) (kk : Gd t V nL (ce + 1) (sl + 100) Q (pc + 2) lv (rf V (wN w) :: st) (nC w 11 (nx n))) : Gd t V nL ce sl Q pc lv (.int n :: st) w := by
  have hin := ib_in hi
  have h1 : n.toNatClampNeg < 100 := Nat.not_le.mp fun q => hin (Or.inr q)
  have hcb : componentBytes .int = 4 := by decide +kernel
  refine g_newarr X (atype := .int) (k := 11) (fty := .int) rfl (by decide) (by decide) rfl ra rfl q (n := n) (N := nx n) (fun h => hin (Or.inl h)) rfl (by rw [hcb]; show n.toNatClampNeg * 4 ≤ _; omega) hc (by show sl + n.toNatClampNeg ≤ _; omega) d ?_
  exact g_widen (Nat.le_refl _) (by show sl + n.toNatClampNeg ≤ _; omega) kk
end GR3
section GR4
variable {t : Ct} {V : Vt} {cc : ByteArray} {nL ce sl : Nat} {own : String} {Q : State → Prop} {pc : Nat} {lv : List (Nat × Value)} {st : List Value} {w : Wd}
theorem nn_ {z : Int32} (hz : ¬ z < 0) : z.toInt = (z.toNatClampNeg : Int) := by
  have hz0 : (0 : Int) ≤ z.toInt := by
    have := Int32.not_lt.mp hz
    simpa using Int32.le_iff_toInt_le.mp this
  show z.toInt = ((z.toInt.toNat : Nat) : Int)
  omega
/-- a copy of n places of one row of ints into another, or the same -/
theorem g_copy (X : Cx t V cc nL own) {a b index : Nat} {sp dp n : Int32} (hk : cp_ok w a sp b dp n = true) (q : Cond.methodLink own index arraycopyName ∈ gw) (q1 : Cond.native arraycopyName ∈ gw) (q2 : Cond.static arraycopyName ∈ gw) (q3 : Cond.initialized "java/lang/System" ∈ gw) (hf : 1 ≤ (tR t).frames) (hlo' : (st.map fun v => v.category).sum + 18 ≤ (tR t).locals) (d : decode cc pc = .ok (.invokestatic index, 3)) (kk : Gd t V nL ce sl Q (pc + 3) lv st (cp_W w a sp b dp n)) : Gd t V nL ce sl Q pc lv (.int n :: .int dp :: rf V b :: .int sp :: rf V a :: st) w := by
  have hlo : (st.map fun v => v.category).sum + (nativeFrameWords "java/lang/System" "arraycopy" 5 + 11) ≤ (tR t).locals := by rw [show nativeFrameWords "java/lang/System" "arraycopy" 5 = 7 by decide +kernel]; exact hlo'
  simp only [cp_ok, Bool.and_eq_true, decide_eq_true_eq] at hk
  obtain ⟨ka, kb, g1, g2, g3, g4, g5⟩ := hk
  have g4' : sp.toNatClampNeg + n.toNatClampNeg ≤ wL w a := g4
  have g5' : dp.toNatClampNeg + n.toNatClampNeg ≤ wL w b := g5
  intro H locs ls h1 h2 h3 T hT XX
  have hts := X.2.2.2.2.1
  have hK := X.2.2.2.2.2.2.1
  have hc0 : H[V.1 + a]? = some (vp_cell (V.2.2.1 11) (wL w a, .inl (wI w a))) := h1.int ka (by decide) (by decide) 0 _ rfl
  have hc1 : H[V.1 + b]? = some (vp_cell (V.2.2.1 11) (wL w b, .inl (wI w b))) := h1.int kb (by decide) (by decide) 0 _ rfl
  obtain ⟨-, k0, hk0, cm0, hkk0⟩ := (hK.2 1 _ rfl).1 (wL w a) (fun j => .int (wI w a j))
  obtain ⟨-, k1, hk1, cm1, hkk1⟩ := (hK.2 1 _ rfl).1 (wL w b) (fun j => .int (wI w b j))
  obtain ⟨vm', X', step⟩ := XX.arraycopy X.1 X.2.2.2.1 (hts _ q) (hts _ q1) (hts _ q2) (hts _ q3) (src := V.1 + a) (dst := V.1 + b) (cs := vp_cell (V.2.2.1 11) (wL w a, .inl (wI w a))) (cd := vp_cell (V.2.2.1 11) (wL w b, .inl (wI w b))) (srcPos := sp) (destPos := dp) (n := n) (by rw [hT]; exact hc0) (by rw [hT]; exact hc1)
    (fun _ h => by cases h) (fun _ h => by cases h) (fun h => by cases h) (fun h => by cases h) hk0 hk1 hkk0 hkk1 (by simp [refKind]) g1 g2 g3
    (by rw [nn_ g1, nn_ g3]; show ¬ _ > ((arrV (V.2.2.1 11) (wL w a) (fun j => .int (wI w a j))).slots.size : Int); rw [arrV_size]; omega)
    (by rw [nn_ g2, nn_ g3]; show ¬ _ > ((arrV (V.2.2.1 11) (wL w b) (fun j => .int (wI w b j))).slots.size : Int); rw [arrV_size]; omega)
    (fun vm₁ _ i hi => by
      have e : (vp_cell (V.2.2.1 11) (wL w a, .inl (wI w a))).slots.getD (sp.toNatClampNeg + i) .null = .int (wI w a (sp.toNatClampNeg + i)) := by
        show (arrV (V.2.2.1 11) (wL w a) (fun j => .int (wI w a j))).slots.getD _ _ = _
        rw [Array.getD_eq_getD_getElem?, arrV_read _ _ (by omega)]
        rfl
      refine ⟨?_, ?_⟩
      · rw [e]; rfl
      · rw [e]; exact trivial)
    (g := F0 (tM t) pc ls (.int n :: .int dp :: rf V b :: .int sp :: rf V a :: st)) rfl (by rw [X.2.2.1]; exact h3.1) (rest := st) rfl (by rw [X.2.1]; exact d) hf (by show 2 * 0 + _ + _ ≤ (tR t).locals; omega)
  have e1 : copied (vp_cell (V.2.2.1 11) (wL w a, .inl (wI w a))) (vp_cell (V.2.2.1 11) (wL w b, .inl (wI w b))) sp dp n = vp_cell (V.2.2.1 11) (wL w b, .inl (va_cpy (wI w a) (wI w b) (nx sp) (nx dp) (nx n))) := va_copied (fun z => .int z) (V.2.2.1 11) (V.2.2.1 11) (wI w a) (wI w b) g4
  rw [e1] at X' step
  have hl : V.1 + b < H.size := (Array.getElem?_eq_some_iff.mp hc1).1
  have hlb := h1.lt kb (by decide)
  generalize hCe : vp_cell (V.2.2.1 11) (wL w b, .inl (va_cpy (wI w a) (wI w b) (nx sp) (nx dp) (nx n))) = Ce at X' step
  have hheap : ((T.setVm vm').setCell (V.1 + b) Ce).heap = H.setIfInBounds (V.1 + b) Ce := by rw [← hT]; rfl
  have oq : ∀ q : Nat, q ≠ V.1 + b → (H.setIfInBounds (V.1 + b) Ce)[q]? = H[q]? := fun q hq => by simp [Array.getElem?_setIfInBounds, Ne.symm hq]
  have z : (H.setIfInBounds (V.1 + b) Ce).size = H.size := by simp
  obtain ⟨t', a1, b1⟩ := kk _ _ ls (h1.set (w' := cp_W w a sp b dp n) hlb rfl (fun _ => rfl) (fun c hc => enc_sF hc) z oq (by
      rw [show cp_W w a sp b dp n = sF w b (va_cpy (wI w a) (wI w b) (nx sp) (nx dp) (nx n)) from rfl, enc_sIa kb (by decide) (by decide)]
      show (H.setIfInBounds (V.1 + b) Ce)[V.1 + b]? = some (vp_cell _ _)
      rw [hCe]
      simp [Array.getElem?_setIfInBounds, hl])) ⟨by rw [z]; exact h2.1, fun q g1 g2 => by
      rw [oq q (fun e => g2 (by rw [e]; exact Nat.le_add_right _ _))]
      exact h2.2.1 q g1 g2, fun q hq => by
      rcases List.mem_append.mp hq with h | h
      · exact h2.2.2 q h
      · obtain ⟨z, -, hz⟩ := List.mem_map.mp h
        rw [← hz]
        exact Nat.le_add_right _ _⟩ h3 _ hheap X'
  exact ⟨t', step t' a1, b1⟩
end GR4
