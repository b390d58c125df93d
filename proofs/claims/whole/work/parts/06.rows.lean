/-! ROWS OF THE FLAT WORLD -/
section GR
variable {t : Ct} {V : Vt} {cc : ByteArray} {nL ce sl : Nat} {own : String} {Q : State → Prop} {pc : Nat} {lv : List (Nat × Value)} {st : List Value} {w : Wd}
theorem g_iconst (X : Cx t V cc nL own) {n : Int} {v : Int32} (d : decode cc pc = .ok (.iconst n, 1)) (hv : Int32.ofInt n = v) (k : Gd t V nL ce sl Q (pc + 1) lv (.int v :: st) w) : Gd t V nL ce sl Q pc lv st w :=
  fun H locs ls h1 h2 h3 => lv_iconst X.1 X.2.1 d hv (k H locs ls h1 h2 h3)
theorem g_bipush (X : Cx t V cc nL own) {n : Int} {v : Int32} (d : decode cc pc = .ok (.bipush n, 2)) (hv : (Int8.ofInt n).toInt32 = v) (k : Gd t V nL ce sl Q (pc + 2) lv (.int v :: st) w) : Gd t V nL ce sl Q pc lv st w :=
  fun H locs ls h1 h2 h3 => lv_bipush X.1 X.2.1 d hv (k H locs ls h1 h2 h3)
theorem g_sipush (X : Cx t V cc nL own) {n : Int} {v : Int32} (d : decode cc pc = .ok (.sipush n, 3)) (hv : (Int16.ofInt n).toInt32 = v) (k : Gd t V nL ce sl Q (pc + 3) lv (.int v :: st) w) : Gd t V nL ce sl Q pc lv st w :=
  fun H locs ls h1 h2 h3 => lv_sipush X.1 X.2.1 d hv (k H locs ls h1 h2 h3)
theorem g_lconst (X : Cx t V cc nL own) {n : Fin 2} {v : Int64} (d : decode cc pc = .ok (.lconst n, 1)) (hv : Int64.ofNat (n : Nat) = v) (k : Gd t V nL ce sl Q (pc + 1) lv (.long v :: st) w) : Gd t V nL ce sl Q pc lv st w :=
  fun H locs ls h1 h2 h3 => lv_lconst X.1 X.2.1 d hv (k H locs ls h1 h2 h3)
theorem g_ldc (X : Cx t V cc nL own) {index : Nat} {v : Int32} (q : Cond.constant own index v ∈ gw) (d : decode cc pc = .ok (.ldc index, 2)) (k : Gd t V nL ce sl Q (pc + 2) lv (.int v :: st) w) : Gd t V nL ce sl Q pc lv st w :=
  fun H locs ls h1 h2 h3 => lv_ldc X.1 X.2.1 X.2.2.2.1 (X.2.2.2.2.1 _ q) d (k H locs ls h1 h2 h3)
theorem g_ldcw (X : Cx t V cc nL own) {index : Nat} {v : Int32} (q : Cond.constant own index v ∈ gw) (d : decode cc pc = .ok (.ldc_w index, 3)) (k : Gd t V nL ce sl Q (pc + 3) lv (.int v :: st) w) : Gd t V nL ce sl Q pc lv st w :=
  fun H locs ls h1 h2 h3 => lv_ldcw X.1 X.2.1 X.2.2.2.1 (X.2.2.2.2.1 _ q) d (k H locs ls h1 h2 h3)
theorem g_ldc2 (X : Cx t V cc nL own) {index : Nat} {v : Int64} (q : Cond.constantLong own index v ∈ gw) (d : decode cc pc = .ok (.ldc2_w index, 3)) (k : Gd t V nL ce sl Q (pc + 3) lv (.long v :: st) w) : Gd t V nL ce sl Q pc lv st w :=
  fun H locs ls h1 h2 h3 => lv_ldc2 X.1 X.2.1 X.2.2.2.1 (X.2.2.2.2.1 _ q) d (k H locs ls h1 h2 h3)
theorem g_iload_n (X : Cx t V cc nL own) {k : Fin 4} {x : Int32} (n : Nat) (hi : lv[n]? = some ((k : Nat), .int x)) (d : decode cc pc = .ok (.iload_n k, 1)) (kk : Gd t V nL ce sl Q (pc + 1) lv (.int x :: st) w) : Gd t V nL ce sl Q pc lv st w :=
  fun H locs ls h1 h2 h3 => lv_iload_n X.1 X.2.1 d rfl (lv_at h3 n hi) (kk H locs ls h1 h2 h3)
theorem g_iload (X : Cx t V cc nL own) {i : Nat} {x : Int32} (n : Nat) (hi : lv[n]? = some (i, .int x)) (d : decode cc pc = .ok (.iload i, 2)) (kk : Gd t V nL ce sl Q (pc + 2) lv (.int x :: st) w) : Gd t V nL ce sl Q pc lv st w :=
  fun H locs ls h1 h2 h3 => lv_iload X.1 X.2.1 d (lv_at h3 n hi) (kk H locs ls h1 h2 h3)
theorem g_lload (X : Cx t V cc nL own) {i : Nat} {x : Int64} (n : Nat) (hi : lv[n]? = some (i, .long x)) (d : decode cc pc = .ok (.lload i, 2)) (kk : Gd t V nL ce sl Q (pc + 2) lv (.long x :: st) w) : Gd t V nL ce sl Q pc lv st w :=
  fun H locs ls h1 h2 h3 => lv_lload X.1 X.2.1 d (lv_at h3 n hi) (kk H locs ls h1 h2 h3)
theorem g_aload_n (X : Cx t V cc nL own) {k : Fin 4} {x : Nat} (n : Nat) (hi : lv[n]? = some ((k : Nat), rf V x)) (d : decode cc pc = .ok (.aload_n k, 1)) (kk : Gd t V nL ce sl Q (pc + 1) lv (rf V x :: st) w) : Gd t V nL ce sl Q pc lv st w :=
  fun H locs ls h1 h2 h3 => lv_aload_n X.1 X.2.1 d rfl (lv_at h3 n hi) (kk H locs ls h1 h2 h3)
theorem g_aload (X : Cx t V cc nL own) {i : Nat} {x : Nat} (n : Nat) (hi : lv[n]? = some (i, rf V x)) (d : decode cc pc = .ok (.aload i, 2)) (kk : Gd t V nL ce sl Q (pc + 2) lv (rf V x :: st) w) : Gd t V nL ce sl Q pc lv st w :=
  fun H locs ls h1 h2 h3 => lv_aload X.1 X.2.1 d (lv_at h3 n hi) (kk H locs ls h1 h2 h3)
theorem g_aload_nq (X : Cx t V cc nL own) {k : Fin 4} {x : Option Nat} (n : Nat) (hi : lv[n]? = some ((k : Nat), rq V x)) (d : decode cc pc = .ok (.aload_n k, 1)) (kk : Gd t V nL ce sl Q (pc + 1) lv (rq V x :: st) w) : Gd t V nL ce sl Q pc lv st w := by
  cases x with
  | none => exact fun H locs ls h1 h2 h3 => lv_aload_nN X.1 X.2.1 d rfl (lv_at h3 n hi) (kk H locs ls h1 h2 h3)
  | some a => exact fun H locs ls h1 h2 h3 => lv_aload_n X.1 X.2.1 d rfl (lv_at h3 n hi) (kk H locs ls h1 h2 h3)
theorem g_istore_n (X : Cx t V cc nL own) {k : Fin 4} {x : Int32} {lv' : List (Nat × Value)} (d : decode cc pc = .ok (.istore_n k, 1)) (hn : (k : Nat) < nL) (hl : ((k : Nat), Value.int x) :: lv.filter (fun q => !(q.1 == (k : Nat)) && !(q.1 + 1 == (k : Nat) && q.2.category == 2)) = lv') (kk : Gd t V nL ce sl Q (pc + 1) lv' st w) : Gd t V nL ce sl Q pc lv (.int x :: st) w :=
  fun H locs ls h1 h2 h3 => lv_istore_n X.1 X.2.1 d rfl h3 hn hl (fun ls' h3' => kk H locs ls' h1 h2 h3')
theorem g_istore (X : Cx t V cc nL own) {i : Nat} {x : Int32} {lv' : List (Nat × Value)} (d : decode cc pc = .ok (.istore i, 2)) (hn : i < nL) (hl : (i, Value.int x) :: lv.filter (fun q => !(q.1 == i) && !(q.1 + 1 == i && q.2.category == 2)) = lv') (kk : Gd t V nL ce sl Q (pc + 2) lv' st w) : Gd t V nL ce sl Q pc lv (.int x :: st) w :=
  fun H locs ls h1 h2 h3 => lv_istore X.1 X.2.1 d h3 hn hl (fun ls' h3' => kk H locs ls' h1 h2 h3')
theorem g_lstore (X : Cx t V cc nL own) {i : Nat} {x : Int64} {lv' : List (Nat × Value)} (d : decode cc pc = .ok (.lstore i, 2)) (hn : i + 1 < nL) (hl : (i, Value.long x) :: lv.filter (fun q => !(q.1 == i) && (!(q.1 == i + 1) && !(q.1 + 1 == i && q.2.category == 2))) = lv') (kk : Gd t V nL ce sl Q (pc + 2) lv' st w) : Gd t V nL ce sl Q pc lv (.long x :: st) w :=
  fun H locs ls h1 h2 h3 => lv_lstore X.1 X.2.1 d h3 hn hl (fun ls' h3' => kk H locs ls' h1 h2 h3')
theorem g_astore_n (X : Cx t V cc nL own) {k : Fin 4} {x : Nat} {lv' : List (Nat × Value)} (d : decode cc pc = .ok (.astore_n k, 1)) (hn : (k : Nat) < nL) (hl : ((k : Nat), rf V x) :: lv.filter (fun q => !(q.1 == (k : Nat)) && !(q.1 + 1 == (k : Nat) && q.2.category == 2)) = lv') (kk : Gd t V nL ce sl Q (pc + 1) lv' st w) : Gd t V nL ce sl Q pc lv (rf V x :: st) w :=
  fun H locs ls h1 h2 h3 => lv_astore_n X.1 X.2.1 d rfl h3 hn hl (fun ls' h3' => kk H locs ls' h1 h2 h3')
theorem g_astore (X : Cx t V cc nL own) {i : Nat} {x : Nat} {lv' : List (Nat × Value)} (d : decode cc pc = .ok (.astore i, 2)) (hn : i < nL) (hl : (i, rf V x) :: lv.filter (fun q => !(q.1 == i) && !(q.1 + 1 == i && q.2.category == 2)) = lv') (kk : Gd t V nL ce sl Q (pc + 2) lv' st w) : Gd t V nL ce sl Q pc lv (rf V x :: st) w :=
  fun H locs ls h1 h2 h3 => lv_astore X.1 X.2.1 d h3 hn hl (fun ls' h3' => kk H locs ls' h1 h2 h3')
theorem g_astore_nq (X : Cx t V cc nL own) {k : Fin 4} {x : Option Nat} {lv' : List (Nat × Value)} (d : decode cc pc = .ok (.astore_n k, 1)) (hn : (k : Nat) < nL) (hl : ((k : Nat), rq V x) :: lv.filter (fun q => !(q.1 == (k : Nat)) && !(q.1 + 1 == (k : Nat) && q.2.category == 2)) = lv') (kk : Gd t V nL ce sl Q (pc + 1) lv' st w) : Gd t V nL ce sl Q pc lv (rq V x :: st) w := by
  cases x with
  | none => exact fun H locs ls h1 h2 h3 => lv_astore_nN X.1 X.2.1 d rfl h3 hn hl (fun ls' h3' => kk H locs ls' h1 h2 h3')
  | some a => exact fun H locs ls h1 h2 h3 => lv_astore_n X.1 X.2.1 d rfl h3 hn hl (fun ls' h3' => kk H locs ls' h1 h2 h3')
theorem g_astoreq (X : Cx t V cc nL own) {i : Nat} {x : Option Nat} {lv' : List (Nat × Value)} (d : decode cc pc = .ok (.astore i, 2)) (hn : i < nL) (hl : (i, rq V x) :: lv.filter (fun q => !(q.1 == i) && !(q.1 + 1 == i && q.2.category == 2)) = lv') (kk : Gd t V nL ce sl Q (pc + 2) lv' st w) : Gd t V nL ce sl Q pc lv (rq V x :: st) w := by
  cases x with
  | none => exact fun H locs ls h1 h2 h3 => lv_astoreN X.1 X.2.1 d h3 hn hl (fun ls' h3' => kk H locs ls' h1 h2 h3')
  | some a => exact fun H locs ls h1 h2 h3 => lv_astore X.1 X.2.1 d h3 hn hl (fun ls' h3' => kk H locs ls' h1 h2 h3')
theorem g_aloadq (X : Cx t V cc nL own) {i : Nat} {x : Option Nat} (n : Nat) (hi : lv[n]? = some (i, rq V x)) (d : decode cc pc = .ok (.aload i, 2)) (kk : Gd t V nL ce sl Q (pc + 2) lv (rq V x :: st) w) : Gd t V nL ce sl Q pc lv st w := by
  cases x with
  | none => exact fun H locs ls h1 h2 h3 => lv_aloadN X.1 X.2.1 d (lv_at h3 n hi) (kk H locs ls h1 h2 h3)
  | some a => exact fun H locs ls h1 h2 h3 => lv_aload X.1 X.2.1 d (lv_at h3 n hi) (kk H locs ls h1 h2 h3)
theorem g_iinc (X : Cx t V cc nL own) {i : Nat} {n : Int} {x v : Int32} {lv' : List (Nat × Value)} (k : Nat) (hk : lv[k]? = some (i, .int x)) (d : decode cc pc = .ok (.iinc i n, 3)) (hv : x + Int32.ofInt n = v) (hn : i < nL) (hl : (i, Value.int v) :: lv.filter (fun q => !(q.1 == i) && !(q.1 + 1 == i && q.2.category == 2)) = lv') (kk : Gd t V nL ce sl Q (pc + 3) lv' st w) : Gd t V nL ce sl Q pc lv st w :=
  fun H locs ls h1 h2 h3 => lv_iinc X.1 X.2.1 d h3 hk hv hn hl (fun ls' h3' => kk H locs ls' h1 h2 h3')
theorem g_null (X : Cx t V cc nL own) (d : decode cc pc = .ok (.aconst_null, 1)) (k : Gd t V nL ce sl Q (pc + 1) lv (rq V none :: st) w) : Gd t V nL ce sl Q pc lv st w :=
  fun H locs ls h1 h2 h3 => lv_null X.1 X.2.1 d (k H locs ls h1 h2 h3)
theorem g_iadd (X : Cx t V cc nL own) {x y : Int32} (d : decode cc pc = .ok (.iadd, 1)) (k : Gd t V nL ce sl Q (pc + 1) lv (.int (x + y) :: st) w) : Gd t V nL ce sl Q pc lv (.int y :: .int x :: st) w :=
  fun H locs ls h1 h2 h3 => lv_iadd X.1 X.2.1 d (k H locs ls h1 h2 h3)
theorem g_isub (X : Cx t V cc nL own) {x y : Int32} (d : decode cc pc = .ok (.isub, 1)) (k : Gd t V nL ce sl Q (pc + 1) lv (.int (x - y) :: st) w) : Gd t V nL ce sl Q pc lv (.int y :: .int x :: st) w :=
  fun H locs ls h1 h2 h3 => lv_isub X.1 X.2.1 d (k H locs ls h1 h2 h3)
theorem g_imul (X : Cx t V cc nL own) {x y : Int32} (d : decode cc pc = .ok (.imul, 1)) (k : Gd t V nL ce sl Q (pc + 1) lv (.int (x * y) :: st) w) : Gd t V nL ce sl Q pc lv (.int y :: .int x :: st) w :=
  fun H locs ls h1 h2 h3 => lv_imul X.1 X.2.1 d (k H locs ls h1 h2 h3)
theorem g_iand (X : Cx t V cc nL own) {x y : Int32} (d : decode cc pc = .ok (.iand, 1)) (k : Gd t V nL ce sl Q (pc + 1) lv (.int (x &&& y) :: st) w) : Gd t V nL ce sl Q pc lv (.int y :: .int x :: st) w :=
  fun H locs ls h1 h2 h3 => lv_iand X.1 X.2.1 d (k H locs ls h1 h2 h3)
theorem g_ior (X : Cx t V cc nL own) {x y : Int32} (d : decode cc pc = .ok (.ior, 1)) (k : Gd t V nL ce sl Q (pc + 1) lv (.int (x ||| y) :: st) w) : Gd t V nL ce sl Q pc lv (.int y :: .int x :: st) w :=
  fun H locs ls h1 h2 h3 => lv_ior X.1 X.2.1 d (k H locs ls h1 h2 h3)
theorem g_ixor (X : Cx t V cc nL own) {x y : Int32} (d : decode cc pc = .ok (.ixor, 1)) (k : Gd t V nL ce sl Q (pc + 1) lv (.int (x ^^^ y) :: st) w) : Gd t V nL ce sl Q pc lv (.int y :: .int x :: st) w :=
  fun H locs ls h1 h2 h3 => lv_ixor X.1 X.2.1 d (k H locs ls h1 h2 h3)
theorem g_ishl (X : Cx t V cc nL own) {x y : Int32} (d : decode cc pc = .ok (.ishl, 1)) (k : Gd t V nL ce sl Q (pc + 1) lv (.int (x <<< (y &&& 31)) :: st) w) : Gd t V nL ce sl Q pc lv (.int y :: .int x :: st) w :=
  fun H locs ls h1 h2 h3 => lv_ishl X.1 X.2.1 d (k H locs ls h1 h2 h3)
theorem g_ishr (X : Cx t V cc nL own) {x y : Int32} (d : decode cc pc = .ok (.ishr, 1)) (k : Gd t V nL ce sl Q (pc + 1) lv (.int (x >>> (y &&& 31)) :: st) w) : Gd t V nL ce sl Q pc lv (.int y :: .int x :: st) w :=
  fun H locs ls h1 h2 h3 => lv_ishr X.1 X.2.1 d (k H locs ls h1 h2 h3)
/-- x >>> y as the machine does it -/
def ushr (x y : Int32) : Int32 := (x.toUInt32 >>> (y.toUInt32 &&& Int32.toUInt32 31)).toInt32
theorem g_iushr (X : Cx t V cc nL own) {x y : Int32} (d : decode cc pc = .ok (.iushr, 1)) (k : Gd t V nL ce sl Q (pc + 1) lv (.int (ushr x y) :: st) w) : Gd t V nL ce sl Q pc lv (.int y :: .int x :: st) w :=
  fun H locs ls h1 h2 h3 => lv_iushr X.1 X.2.1 d rfl (k H locs ls h1 h2 h3)
theorem g_ineg (X : Cx t V cc nL own) {x : Int32} (d : decode cc pc = .ok (.ineg, 1)) (k : Gd t V nL ce sl Q (pc + 1) lv (.int (-x) :: st) w) : Gd t V nL ce sl Q pc lv (.int x :: st) w :=
  fun H locs ls h1 h2 h3 => lv_ineg X.1 X.2.1 d (k H locs ls h1 h2 h3)
theorem g_idiv (X : Cx t V cc nL own) {x y : Int32} (hne : ¬ y = 0) (d : decode cc pc = .ok (.idiv, 1)) (k : Gd t V nL ce sl Q (pc + 1) lv (.int (x / y) :: st) w) : Gd t V nL ce sl Q pc lv (.int y :: .int x :: st) w :=
  fun H locs ls h1 h2 h3 => lv_idiv X.1 X.2.1 d hne (k H locs ls h1 h2 h3)
/-- x % y -/
def irem (x y : Int32) : Int32 := x - x / y * y
theorem g_irem (X : Cx t V cc nL own) {x y : Int32} (hne : ¬ y = 0) (d : decode cc pc = .ok (.irem, 1)) (k : Gd t V nL ce sl Q (pc + 1) lv (.int (irem x y) :: st) w) : Gd t V nL ce sl Q pc lv (.int y :: .int x :: st) w :=
  fun H locs ls h1 h2 h3 => lv_irem X.1 X.2.1 d hne (k H locs ls h1 h2 h3)
def lrem (x y : Int64) : Int64 := x - x / y * y
theorem g_lrem (X : Cx t V cc nL own) {x y : Int64} (hne : ¬ y = 0) (d : decode cc pc = .ok (.lrem, 1)) (k : Gd t V nL ce sl Q (pc + 1) lv (.long (lrem x y) :: st) w) : Gd t V nL ce sl Q pc lv (.long y :: .long x :: st) w :=
  fun H locs ls h1 h2 h3 => lv_lrem X.1 X.2.1 d hne (k H locs ls h1 h2 h3)
theorem g_ladd (X : Cx t V cc nL own) {x y : Int64} (d : decode cc pc = .ok (.ladd, 1)) (k : Gd t V nL ce sl Q (pc + 1) lv (.long (x + y) :: st) w) : Gd t V nL ce sl Q pc lv (.long y :: .long x :: st) w :=
  fun H locs ls h1 h2 h3 => lv_ladd X.1 X.2.1 d (k H locs ls h1 h2 h3)
theorem g_i2l (X : Cx t V cc nL own) {x : Int32} (d : decode cc pc = .ok (.i2l, 1)) (k : Gd t V nL ce sl Q (pc + 1) lv (.long x.toInt64 :: st) w) : Gd t V nL ce sl Q pc lv (.int x :: st) w :=
  fun H locs ls h1 h2 h3 => lv_i2l X.1 X.2.1 d rfl (k H locs ls h1 h2 h3)
theorem g_l2i (X : Cx t V cc nL own) {x : Int64} (d : decode cc pc = .ok (.l2i, 1)) (k : Gd t V nL ce sl Q (pc + 1) lv (.int x.toInt32 :: st) w) : Gd t V nL ce sl Q pc lv (.long x :: st) w :=
  fun H locs ls h1 h2 h3 => lv_l2i X.1 X.2.1 d rfl (k H locs ls h1 h2 h3)
theorem g_i2s (X : Cx t V cc nL own) {x : Int32} (d : decode cc pc = .ok (.i2s, 1)) (k : Gd t V nL ce sl Q (pc + 1) lv (.int x.toInt16.toInt32 :: st) w) : Gd t V nL ce sl Q pc lv (.int x :: st) w :=
  fun H locs ls h1 h2 h3 => lv_i2s X.1 X.2.1 d rfl (k H locs ls h1 h2 h3)
theorem g_i2c (X : Cx t V cc nL own) {x : Int32} (d : decode cc pc = .ok (.i2c, 1)) (k : Gd t V nL ce sl Q (pc + 1) lv (.int (x.toUInt32 % 65536).toInt32 :: st) w) : Gd t V nL ce sl Q pc lv (.int x :: st) w :=
  fun H locs ls h1 h2 h3 => lv_i2c X.1 X.2.1 d rfl (k H locs ls h1 h2 h3)
theorem g_dup (X : Cx t V cc nL own) {a : Value} (ha : a.category = 1) (d : decode cc pc = .ok (.dup, 1)) (k : Gd t V nL ce sl Q (pc + 1) lv (a :: a :: st) w) : Gd t V nL ce sl Q pc lv (a :: st) w :=
  fun H locs ls h1 h2 h3 => lv_dup X.1 X.2.1 d ha (k H locs ls h1 h2 h3)
theorem g_dup2 (X : Cx t V cc nL own) {a b : Value} (ha : a.category = 1) (hb : b.category = 1) (d : decode cc pc = .ok (.dup2, 1)) (k : Gd t V nL ce sl Q (pc + 1) lv (a :: b :: a :: b :: st) w) : Gd t V nL ce sl Q pc lv (a :: b :: st) w :=
  fun H locs ls h1 h2 h3 => lv_dup2_11 X.1 X.2.1 d ha hb (k H locs ls h1 h2 h3)
theorem g_dup_x1 (X : Cx t V cc nL own) {a b : Value} (ha : a.category = 1) (hb : b.category = 1) (d : decode cc pc = .ok (.dup_x1, 1)) (k : Gd t V nL ce sl Q (pc + 1) lv (a :: b :: a :: st) w) : Gd t V nL ce sl Q pc lv (a :: b :: st) w :=
  fun H locs ls h1 h2 h3 => lv_dup_x1 X.1 X.2.1 d ha hb (k H locs ls h1 h2 h3)
theorem g_pop (X : Cx t V cc nL own) {a : Value} (ha : a.category = 1) (d : decode cc pc = .ok (.pop, 1)) (k : Gd t V nL ce sl Q (pc + 1) lv st w) : Gd t V nL ce sl Q pc lv (a :: st) w :=
  fun H locs ls h1 h2 h3 => lv_pop X.1 X.2.1 d ha (k H locs ls h1 h2 h3)
theorem g_if_eq (X : Cx t V cc nL own) {x : Int32} {off : Int} {tgt : Nat} (d : decode cc pc = .ok (.ifCond .eq off, 3)) (ht : (pc : Int) + off = (tgt : Int)) (kt : x = 0 → Gd t V nL ce sl Q tgt lv st w) (kf : ¬ x = 0 → Gd t V nL ce sl Q (pc + 3) lv st w) : Gd t V nL ce sl Q pc lv (.int x :: st) w :=
  fun H locs ls h1 h2 h3 => lv_if_eq X.1 X.2.1 d ht (fun c => kt c H locs ls h1 h2 h3) (fun c => kf c H locs ls h1 h2 h3)
theorem g_if_ne (X : Cx t V cc nL own) {x : Int32} {off : Int} {tgt : Nat} (d : decode cc pc = .ok (.ifCond .ne off, 3)) (ht : (pc : Int) + off = (tgt : Int)) (kt : ¬ x = 0 → Gd t V nL ce sl Q tgt lv st w) (kf : x = 0 → Gd t V nL ce sl Q (pc + 3) lv st w) : Gd t V nL ce sl Q pc lv (.int x :: st) w :=
  fun H locs ls h1 h2 h3 => lv_if_ne X.1 X.2.1 d ht (fun c => kt c H locs ls h1 h2 h3) (fun c => kf c H locs ls h1 h2 h3)
theorem g_if_lt (X : Cx t V cc nL own) {x : Int32} {off : Int} {tgt : Nat} (d : decode cc pc = .ok (.ifCond .lt off, 3)) (ht : (pc : Int) + off = (tgt : Int)) (kt : x < 0 → Gd t V nL ce sl Q tgt lv st w) (kf : ¬ x < 0 → Gd t V nL ce sl Q (pc + 3) lv st w) : Gd t V nL ce sl Q pc lv (.int x :: st) w :=
  fun H locs ls h1 h2 h3 => lv_if_lt X.1 X.2.1 d ht (fun c => kt c H locs ls h1 h2 h3) (fun c => kf c H locs ls h1 h2 h3)
theorem g_if_ge (X : Cx t V cc nL own) {x : Int32} {off : Int} {tgt : Nat} (d : decode cc pc = .ok (.ifCond .ge off, 3)) (ht : (pc : Int) + off = (tgt : Int)) (kt : 0 ≤ x → Gd t V nL ce sl Q tgt lv st w) (kf : ¬ 0 ≤ x → Gd t V nL ce sl Q (pc + 3) lv st w) : Gd t V nL ce sl Q pc lv (.int x :: st) w :=
  fun H locs ls h1 h2 h3 => lv_if_ge X.1 X.2.1 d ht (fun c => kt c H locs ls h1 h2 h3) (fun c => kf c H locs ls h1 h2 h3)
theorem g_if_gt (X : Cx t V cc nL own) {x : Int32} {off : Int} {tgt : Nat} (d : decode cc pc = .ok (.ifCond .gt off, 3)) (ht : (pc : Int) + off = (tgt : Int)) (kt : 0 < x → Gd t V nL ce sl Q tgt lv st w) (kf : ¬ 0 < x → Gd t V nL ce sl Q (pc + 3) lv st w) : Gd t V nL ce sl Q pc lv (.int x :: st) w :=
  fun H locs ls h1 h2 h3 => lv_if_gt X.1 X.2.1 d ht (fun c => kt c H locs ls h1 h2 h3) (fun c => kf c H locs ls h1 h2 h3)
theorem g_if_le (X : Cx t V cc nL own) {x : Int32} {off : Int} {tgt : Nat} (d : decode cc pc = .ok (.ifCond .le off, 3)) (ht : (pc : Int) + off = (tgt : Int)) (kt : x ≤ 0 → Gd t V nL ce sl Q tgt lv st w) (kf : ¬ x ≤ 0 → Gd t V nL ce sl Q (pc + 3) lv st w) : Gd t V nL ce sl Q pc lv (.int x :: st) w :=
  fun H locs ls h1 h2 h3 => lv_if_le X.1 X.2.1 d ht (fun c => kt c H locs ls h1 h2 h3) (fun c => kf c H locs ls h1 h2 h3)
theorem g_icmp_eq (X : Cx t V cc nL own) {x y : Int32} {off : Int} {tgt : Nat} (d : decode cc pc = .ok (.if_icmp .eq off, 3)) (ht : (pc : Int) + off = (tgt : Int)) (kt : x = y → Gd t V nL ce sl Q tgt lv st w) (kf : ¬ x = y → Gd t V nL ce sl Q (pc + 3) lv st w) : Gd t V nL ce sl Q pc lv (.int y :: .int x :: st) w :=
  fun H locs ls h1 h2 h3 => lv_icmp_eq X.1 X.2.1 d ht (fun c => kt c H locs ls h1 h2 h3) (fun c => kf c H locs ls h1 h2 h3)
theorem g_icmp_ne (X : Cx t V cc nL own) {x y : Int32} {off : Int} {tgt : Nat} (d : decode cc pc = .ok (.if_icmp .ne off, 3)) (ht : (pc : Int) + off = (tgt : Int)) (kt : ¬ x = y → Gd t V nL ce sl Q tgt lv st w) (kf : x = y → Gd t V nL ce sl Q (pc + 3) lv st w) : Gd t V nL ce sl Q pc lv (.int y :: .int x :: st) w :=
  fun H locs ls h1 h2 h3 => lv_icmp_ne X.1 X.2.1 d ht (fun c => kt c H locs ls h1 h2 h3) (fun c => kf c H locs ls h1 h2 h3)
theorem g_icmp_lt (X : Cx t V cc nL own) {x y : Int32} {off : Int} {tgt : Nat} (d : decode cc pc = .ok (.if_icmp .lt off, 3)) (ht : (pc : Int) + off = (tgt : Int)) (kt : x < y → Gd t V nL ce sl Q tgt lv st w) (kf : ¬ x < y → Gd t V nL ce sl Q (pc + 3) lv st w) : Gd t V nL ce sl Q pc lv (.int y :: .int x :: st) w :=
  fun H locs ls h1 h2 h3 => lv_icmp_lt X.1 X.2.1 d ht (fun c => kt c H locs ls h1 h2 h3) (fun c => kf c H locs ls h1 h2 h3)
theorem g_icmp_ge (X : Cx t V cc nL own) {x y : Int32} {off : Int} {tgt : Nat} (d : decode cc pc = .ok (.if_icmp .ge off, 3)) (ht : (pc : Int) + off = (tgt : Int)) (kt : y ≤ x → Gd t V nL ce sl Q tgt lv st w) (kf : ¬ y ≤ x → Gd t V nL ce sl Q (pc + 3) lv st w) : Gd t V nL ce sl Q pc lv (.int y :: .int x :: st) w :=
  fun H locs ls h1 h2 h3 => lv_icmp_ge X.1 X.2.1 d ht (fun c => kt c H locs ls h1 h2 h3) (fun c => kf c H locs ls h1 h2 h3)
theorem g_icmp_gt (X : Cx t V cc nL own) {x y : Int32} {off : Int} {tgt : Nat} (d : decode cc pc = .ok (.if_icmp .gt off, 3)) (ht : (pc : Int) + off = (tgt : Int)) (kt : y < x → Gd t V nL ce sl Q tgt lv st w) (kf : ¬ y < x → Gd t V nL ce sl Q (pc + 3) lv st w) : Gd t V nL ce sl Q pc lv (.int y :: .int x :: st) w :=
  fun H locs ls h1 h2 h3 => lv_icmp_gt X.1 X.2.1 d ht (fun c => kt c H locs ls h1 h2 h3) (fun c => kf c H locs ls h1 h2 h3)
theorem g_icmp_le (X : Cx t V cc nL own) {x y : Int32} {off : Int} {tgt : Nat} (d : decode cc pc = .ok (.if_icmp .le off, 3)) (ht : (pc : Int) + off = (tgt : Int)) (kt : x ≤ y → Gd t V nL ce sl Q tgt lv st w) (kf : ¬ x ≤ y → Gd t V nL ce sl Q (pc + 3) lv st w) : Gd t V nL ce sl Q pc lv (.int y :: .int x :: st) w :=
  fun H locs ls h1 h2 h3 => lv_icmp_le X.1 X.2.1 d ht (fun c => kt c H locs ls h1 h2 h3) (fun c => kf c H locs ls h1 h2 h3)
theorem g_goto (X : Cx t V cc nL own) {off : Int} {tgt : Nat} (d : decode cc pc = .ok (.goto off, 3)) (ht : (pc : Int) + off = (tgt : Int)) (k : Gd t V nL ce sl Q tgt lv st w) : Gd t V nL ce sl Q pc lv st w :=
  fun H locs ls h1 h2 h3 => lv_goto X.1 X.2.1 d ht (k H locs ls h1 h2 h3)
theorem g_ifnonnullS (X : Cx t V cc nL own) {a : Nat} {off : Int} {tgt : Nat} (d : decode cc pc = .ok (.ifnonnull off, 3)) (ht : (pc : Int) + off = (tgt : Int)) (k : Gd t V nL ce sl Q tgt lv st w) : Gd t V nL ce sl Q pc lv (rf V a :: st) w :=
  fun H locs ls h1 h2 h3 => lv_ifnonnull X.1 X.2.1 d ht (k H locs ls h1 h2 h3)
theorem g_ifnonnullN (X : Cx t V cc nL own) {off : Int} (d : decode cc pc = .ok (.ifnonnull off, 3)) (k : Gd t V nL ce sl Q (pc + 3) lv st w) : Gd t V nL ce sl Q pc lv (rq V none :: st) w :=
  fun H locs ls h1 h2 h3 => lv_ifnonnullN X.1 X.2.1 d (k H locs ls h1 h2 h3)
theorem g_sub (ks : List Nat) {lv' : List (Nat × Value)} (hl : lv_pick lv ks = lv') (k : Gd t V nL ce sl Q pc lv' st w) : Gd t V nL ce sl Q pc lv st w :=
  fun H locs ls h1 h2 h3 => k H locs ls h1 h2 (lv_sub h3 ks hl)
theorem g_widen {ce' sl' : Nat} (h1 : ce ≤ ce') (h2 : sl ≤ sl') (k : Gd t V nL ce' sl' Q pc lv st w) : Gd t V nL ce sl Q pc lv st w :=
  fun H locs ls q1 q2 q3 => W.widen h1 h2 (k H locs ls q1 q2 q3)
theorem g_tswI (X : Cx t V cc nL own) {dflt lo hi : Int} {offs : Array Int} {len : Nat} {x : Int32} (v : Int32) {off : Int} {tgt : Nat} (d : decode cc pc = .ok (.tableswitch dflt lo hi offs, len)) (hx : x = v) (h1 : ¬ v.toInt < lo) (h2 : ¬ hi < v.toInt) (ho : offs[(v.toInt - lo).toNat]? = some off) (ht : (pc : Int) + off = (tgt : Int)) (k : Gd t V nL ce sl Q tgt lv st w) : Gd t V nL ce sl Q pc lv (.int x :: st) w := by
  subst hx
  exact fun H locs ls q1 q2 q3 => lv_tableIn X.1 X.2.1 d h1 h2 ho ht (k H locs ls q1 q2 q3)
theorem g_tswO (X : Cx t V cc nL own) {dflt lo hi : Int} {offs : Array Int} {len : Nat} {x : Int32} {tgt : Nat} (d : decode cc pc = .ok (.tableswitch dflt lo hi offs, len)) (h : x.toInt < lo ∨ hi < x.toInt) (ht : (pc : Int) + dflt = (tgt : Int)) (k : Gd t V nL ce sl Q tgt lv st w) : Gd t V nL ce sl Q pc lv (.int x :: st) w :=
  fun H locs ls q1 q2 q3 => lv_tableOut X.1 X.2.1 d h ht (k H locs ls q1 q2 q3)
theorem g_lsw (X : Cx t V cc nL own) {dflt : Int} {ps : Array (Int × Int)} {len : Nat} {x : Int32} {off : Int} {tgt : Nat} (d : decode cc pc = .ok (.lookupswitch dflt ps, len)) (hp : (ps.toList.zip (ps.toList.drop 1)).all (fun (a, next) => a.1 < next.1) = true) (ho : Op.lookupswitch.offset ps.toList dflt x.toInt = off) (ht : (pc : Int) + off = (tgt : Int)) (k : Gd t V nL ce sl Q tgt lv st w) : Gd t V nL ce sl Q pc lv (.int x :: st) w :=
  fun H locs ls q1 q2 q3 => lv_lookup X.1 X.2.1 d hp ho ht (k H locs ls q1 q2 q3)
/-! fields -/
/-- a class, its number, its table; a field's number -/
def Fc (ci : Nat) (C : String) (T : u_T) (N : Nat) (ty : Nat → FieldType) : Prop := vwCl[ci]? = some (C, T, N) ∧ ci < 10 ∧ fN ci = N ∧ (∀ w ∈ u_ws C T N, w ∈ gw) ∧ (∀ k, k < N → parseFieldDescriptor (T k).2.2.1 = some (ty k)) ∧ (∀ a, a < N → ∀ b, b < N → a ≠ b → (T a).2.1 ≠ (T b).2.1) ∧ ∀ k, k < N → (T k).1 = C
theorem g_getI (X : Cx t V cc nL own) {ci a index : Nat} {C : String} {T : u_T} {N : Nat} {ty : Nat → FieldType} (F : Fc ci C T N ty) (hk : wK w a = ci) (k : Nat) (hN : k < N) (hf : frf ci k = false) (q : Cond.fieldLink own index (T k).1 (T k).2.1 (T k).2.2.1 ∈ gw) (d : decode cc pc = .ok (.getfield index, 3)) (kk : Gd t V nL ce sl Q (pc + 3) lv (.int (wI w a k) :: st) w) : Gd t V nL ce sl Q pc lv (rf V a :: st) w :=
  fun H locs ls h1 h2 h3 => va_get (D := V.2.1) (ci := ci) (C := C) (T := T) (N := N) X.1 X.2.1 X.2.2.2.2.1 F.2.2.2.1 X.2.2.2.1 X.2.2.2.2.2.2.1 (h1.obj hk F.2.1) 0 rfl F.1 k hN (X.2.2.2.2.1 _ q) (fun _ h9 => h9) (by rw [fvs_at (by rw [F.2.2.1]; exact hN), fv, hf]; rfl) d (kk H locs ls h1 h2 h3)
theorem g_getR (X : Cx t V cc nL own) {ci a index b : Nat} {C : String} {T : u_T} {N : Nat} {ty : Nat → FieldType} (F : Fc ci C T N ty) (hk : wK w a = ci) (k : Nat) (hr : wR w a k = some b) (hN : k < N) (hf : frf ci k = true) (q : Cond.fieldLink own index (T k).1 (T k).2.1 (T k).2.2.1 ∈ gw) (d : decode cc pc = .ok (.getfield index, 3)) (kk : Gd t V nL ce sl Q (pc + 3) lv (rf V b :: st) w) : Gd t V nL ce sl Q pc lv (rf V a :: st) w :=
  fun H locs ls h1 h2 h3 => va_get (D := V.2.1) (ci := ci) (C := C) (T := T) (N := N) X.1 X.2.1 X.2.2.2.2.1 F.2.2.2.1 X.2.2.2.1 X.2.2.2.2.2.2.1 (h1.obj hk F.2.1) 0 rfl F.1 k hN (X.2.2.2.2.1 _ q) (fun _ h9 => h9) (by rw [fvs_at (by rw [F.2.2.1]; exact hN), fv, hf, hr]; rfl) d (kk H locs ls h1 h2 h3)
theorem Rp.lift {V : Vt} {w w' : Wd} {H H1 : Heap} {a : Nat} (h : Rp V w H) (hl : a < wN w) (hn : wN w' = wN w) (hk : ∀ b, wK w' b = wK w b) (ho : ∀ b, b ≠ a → enc V w' b = enc V w b) (z : H1.size = H.size) (oq : ∀ q : Nat, q ≠ V.1 + a → H1[q]? = H[q]?) (he : va_at V.2.1 vwCl (V.1 + a, enc V w' a) H1) : Rp V w' H1 := h.set hl hn hk ho z oq he
theorem g_put0 (X : Cx t V cc nL own) {ci a index : Nat} {C : String} {T : u_T} {N : Nat} {ty : Nat → FieldType} (F : Fc ci C T N ty) (hk : wK w a = ci) (k : Nat) (hN : k < N) (q : Cond.fieldLink own index (T k).1 (T k).2.1 (T k).2.2.1 ∈ gw) (hfin : (T k).2.2.2 = false) {v : Value} (hn : narrow (ty k) v = v) (hfit : fits (ty k) v = true) {w' : Wd} (hw : (fvs V w a ci).set k v = fvs V w' a ci) (e1 : wN w' = wN w) (e2 : ∀ b, wK w' b = wK w b) (e3 : ∀ b, b ≠ a → enc V w' b = enc V w b) (d : decode cc pc = .ok (.putfield index, 3)) (kk : Gd t V nL ce sl Q (pc + 3) lv st w') : Gd t V nL ce sl Q pc lv (v :: rf V a :: st) w := by
  intro H locs ls h1 h2 h3
  have hl : a < wN w := h1.lt hk (by have := F.2.1; omega)
  have hP := h1.obj hk F.2.1
  have hts := X.2.2.2.2.1
  have hK := X.2.2.2.2.2.2.1
  have hap := va_apart (own := own) (D := V.2.1) hts F.2.2.2.1 ty F.2.2.2.2.1 F.2.2.2.2.2.1 hK F.1
  obtain ⟨r, g1, cell, q1, q2, q3, q4⟩ := hP 0 _ rfl
  have hr : r = (C, T, N) := Option.some.inj (g1.symm.trans F.1)
  subst hr
  obtain ⟨hS, hfc, kC, hkC, hkind⟩ := hK.1 ci _ F.1
  obtain ⟨cf, kf, fi, f, hi, hsl⟩ := hS k hN
  have hlay := hts _ (F.2.2.2.1 _ (u_in_lay hN))
  unfold u_lay at hlay
  rw [if_neg (by rw [hfin]; decide)] at hlay
  have hst := (u_facts hfc hkC (u_lays hts F.2.2.2.1 hN) hi).1
  have h6 := u_store hfc hkC hkind hlay hi (F.2.2.2.2.1 k hN) hn hfit
  refine W.putK X.1 X.2.1 (f := f) ⟨X.2.2.2.1, hts _ q, ⟨_, _, _, hi⟩, hst⟩ (by rw [q2]; exact h6) q1 q3 (by rw [hsl]; exact k2_hasslot (q4 k hN)) rfl rfl d fun H' z1 z2 z3 => ?_
  rw [hsl] at z1 ⊢
  refine kk H' _ ls (h1.set hl e1 e2 e3 z2 z3 ?_) (h2.put z2 z3 (Nat.le_add_right _ _)) h3
  rw [enc_obj (k := ci) (by rw [e2]; exact hk) F.2.1, ← hw]
  exact ⟨_, F.1, t_OB.to (V := updV (vp_V (fvs V w a ci)) k v) ⟨_, z1, q2, q3, t_set q4 hap hN v⟩ (fun j _ => vp_updV_set (by rw [fvs_len, F.2.2.1]; exact hN) v j)⟩
theorem g_putI (X : Cx t V cc nL own) {ci a index : Nat} {C : String} {T : u_T} {N : Nat} {ty : Nat → FieldType} (F : Fc ci C T N ty) (hk : wK w a = ci) (k : Nat) (hN : k < N) (hf : frf ci k = false) (q : Cond.fieldLink own index (T k).1 (T k).2.1 (T k).2.2.1 ∈ gw) (hfin : (T k).2.2.2 = false) {x : Int32} (hn : narrow (ty k) (.int x) = .int x) (hfit : fits (ty k) (.int x) = true) (d : decode cc pc = .ok (.putfield index, 3)) (kk : Gd t V nL ce sl Q (pc + 3) lv st (sI w a k x)) : Gd t V nL ce sl Q pc lv (.int x :: rf V a :: st) w :=
  g_put0 X F hk k hN q hfin hn hfit (fvs_sI hf x) rfl (fun _ => rfl) (fun _ h => enc_sF h) d kk
theorem g_putF0 (X : Cx t V cc nL own) {ci a index : Nat} {C : String} {T : u_T} {N : Nat} {ty : Nat → FieldType} (F : Fc ci C T N ty) (hk : wK w a = ci) (k : Nat) (hN : k < N) (q : Cond.fieldLink own index (T k).1 (T k).2.1 (T k).2.2.1 ∈ gw) (hfin : (T k).2.2.2 = true) (hin : (tMe t).name = "<init>") (hdecl : C = own) {v : Value} (hn : narrow (ty k) v = v) (hfit : fits (ty k) v = true) {w' : Wd} (hw : (fvs V w a ci).set k v = fvs V w' a ci) (e1 : wN w' = wN w) (e2 : ∀ b, wK w' b = wK w b) (e3 : ∀ b, b ≠ a → enc V w' b = enc V w b) (d : decode cc pc = .ok (.putfield index, 3)) (kk : Gd t V nL ce sl Q (pc + 3) lv st w') : Gd t V nL ce sl Q pc lv (v :: rf V a :: st) w := by
  intro H locs ls h1 h2 h3
  have hl : a < wN w := h1.lt hk (by have := F.2.1; omega)
  have hP := h1.obj hk F.2.1
  have hts := X.2.2.2.2.1
  have hK := X.2.2.2.2.2.2.1
  have hap := va_apart (own := own) (D := V.2.1) hts F.2.2.2.1 ty F.2.2.2.2.1 F.2.2.2.2.2.1 hK F.1
  obtain ⟨r, g1, cell, q1, q2, q3, q4⟩ := hP 0 _ rfl
  have hr : r = (C, T, N) := Option.some.inj (g1.symm.trans F.1)
  subst hr
  obtain ⟨hS, hfc, kC, hkC, hkind⟩ := hK.1 ci _ F.1
  obtain ⟨cf, kf, fi, f, hi, hsl⟩ := hS k hN
  have hlay := hts _ (F.2.2.2.1 _ (u_in_lay hN))
  unfold u_lay at hlay
  rw [if_pos hfin] at hlay
  have hst := (u_facts hfc hkC (u_lays hts F.2.2.2.1 hN) hi).1
  have hcf : (tM t).cls = cf := by
    obtain ⟨_, _, c', _, _, _, -, -, hf', -, -, -, hown2, -⟩ := Cond.laysFinal_spec hlay
    have e1 : c' = cf := by have := hi.symm.trans hf'; simp at this; exact this.1.symm
    rw [F.2.2.2.2.2.2 k hN, hdecl] at hown2
    rw [← e1]; exact Option.some.inj (X.2.2.2.1.symm.trans hown2)
  have h6 := u_fits hfc hkC hkind (Or.inr hlay) hi (F.2.2.2.2.1 k hN) hn hfit
  refine W.putFinK X.1 X.2.1 X.2.2.2.1 (hts _ q) hi hst hcf hin (by rw [q2]; exact h6) q1 q3 (by rw [hsl]; exact k2_hasslot (q4 k hN)) rfl rfl d fun H' z1 z2 z3 => ?_
  rw [hsl] at z1 ⊢
  refine kk H' _ ls (h1.set hl e1 e2 e3 z2 z3 ?_) (h2.put z2 z3 (Nat.le_add_right _ _)) h3
  rw [enc_obj (k := ci) (by rw [e2]; exact hk) F.2.1, ← hw]
  exact ⟨_, F.1, t_OB.to (V := updV (vp_V (fvs V w a ci)) k v) ⟨_, z1, q2, q3, t_set q4 hap hN v⟩ (fun j _ => vp_updV_set (by rw [fvs_len, F.2.2.1]; exact hN) v j)⟩
theorem g_putFI (X : Cx t V cc nL own) {ci a index : Nat} {C : String} {T : u_T} {N : Nat} {ty : Nat → FieldType} (F : Fc ci C T N ty) (hk : wK w a = ci) (k : Nat) (hN : k < N) (hf : frf ci k = false) (q : Cond.fieldLink own index (T k).1 (T k).2.1 (T k).2.2.1 ∈ gw) (hfin : (T k).2.2.2 = true) (hin : (tMe t).name = "<init>") (hdecl : C = own) {x : Int32} (hn : narrow (ty k) (.int x) = .int x) (hfit : fits (ty k) (.int x) = true) (d : decode cc pc = .ok (.putfield index, 3)) (kk : Gd t V nL ce sl Q (pc + 3) lv st (sI w a k x)) : Gd t V nL ce sl Q pc lv (.int x :: rf V a :: st) w :=
  g_putF0 X F hk k hN q hfin hin hdecl hn hfit (fvs_sI hf x) rfl (fun _ => rfl) (fun _ h => enc_sF h) d kk
theorem g_putFR (X : Cx t V cc nL own) {ci a index b : Nat} {C : String} {T : u_T} {N : Nat} {ty : Nat → FieldType} (F : Fc ci C T N ty) (hk : wK w a = ci) (k : Nat) (hN : k < N) (hf : frf ci k = true) (q : Cond.fieldLink own index (T k).1 (T k).2.1 (T k).2.2.1 ∈ gw) (hfin : (T k).2.2.2 = true) (hin : (tMe t).name = "<init>") (hdecl : C = own) (hn : narrow (ty k) (rf V b) = rf V b) (hfit : fits (ty k) (rf V b) = true) (d : decode cc pc = .ok (.putfield index, 3)) (kk : Gd t V nL ce sl Q (pc + 3) lv st (sR w a k (some b))) : Gd t V nL ce sl Q pc lv (rf V b :: rf V a :: st) w :=
  g_putF0 X F hk k hN q hfin hin hdecl hn hfit (fvs_sR hf (some b)) rfl (fun _ => rfl) (fun _ h => enc_sR h) d kk
end GR
