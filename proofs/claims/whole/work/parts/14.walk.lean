/-! by program: the pure functions of the methods, and their walks -/
def j_X8_mark_86  (v2 : Int32) (v3 : Int32) (v5 : Nat) (w : Wd) : Option (Int32 × Wd) := (if wK w v5 = 3 then
 (bd1 (wR w v5 2) fun a17 =>
 (if aK 11 w a17 v2 = true then
 (lb_ (sI w a17 (nx v2) v3) fun w20 =>
 some (1, w20))
 else none))
 else none)
theorem bj_X8_mark_86 {t : Ct} {V : Vt} {r : Int32} {w' : Wd} (Y : Hd_ t V cX8_mark 6 RX8 { frames := 3, cells := 0, slots := 0, locals := 63 } (some .int) "mark") {v2 : Int32} {v3 : Int32} {v5 : Nat} {w : Wd} (h : j_X8_mark_86  v2 v3 v5 w = some (r, w')) : Gd t V 6 0 0 (Qe t V (some (.int r)) w' 0 0) 86 [(2, .int v2), (3, .int v3), (5, rf V v5)] [] w := by
  have X := Y.1
  unfold j_X8_mark_86 at h
  refine g_aload (pc := 86) X 2 rfl dX8_mark_86 ?_
  obtain ⟨k16, h⟩ := gd_i h
  obtain ⟨a17, e18, h⟩ := bd1_i h
  refine g_getR (pc := 88) X FcX3 k16 2 e18 (by decide) rfl q_289 dX8_mark_88 ?_
  refine g_iload_n (pc := 91) X 0 rfl dX8_mark_91 ?_
  refine g_iload_n (pc := 92) X 1 rfl dX8_mark_92 ?_
  obtain ⟨k19, h⟩ := gd_i h
  refine g_iast (pc := 93) X k19 dX8_mark_93 ?_
  obtain ⟨w20, e21, h⟩ := lb_i h
  refine g_w e21 ?_
  refine g_iconst (pc := 94) X (v := 1) dX8_mark_94 rfl ?_
  obtain ⟨e1, e2⟩ := rt_i h
  exact g_iret (pc := 95) X Y.2.2.1 (Nat.le_of_ble_eq_true rfl) (Nat.le_of_ble_eq_true rfl) e1 e2 dX8_mark_95

def f_X8_mark (v0 : Nat) (v1 : Int32) (v2 : Int32) (v3 : Int32) (w : Wd) : Option (Int32 × Wd) := (if wK w v0 = 8 then
 (bd2 (f_X8_refusalOf v0 v1 w) fun r2 w3 =>
 (if r2 = 0 then
 (if wK w3 v0 = 8 then
 (bd1 (wR w3 v0 6) fun a6 =>
 (if aK 13 w3 a6 v1 = true then
 (bd1 (wR w3 a6 (nx v1)) fun a9 =>
 (if wK w3 a9 = 3 then
 (bd2 (f_X3_hasPlace a9 v2 w3) fun r12 w13 =>
 (if r12 = 0 then
 some ((-1000000013), w13)
 else
 (if wK w13 a9 = 3 then
 (if (wI w13 a9 0) = 0 then
 (if v3 = (-1000000005) then
 some ((-1000000012), w13)
 else
 (bd1 (wR w13 a9 2) fun a25 =>
 (if aK 11 w13 a25 v2 = true then
 (lb_ (sI w13 a25 (nx v2) (Int16.toInt32 (Int32.toInt16 v3))) fun w28 =>
 some (1, w28))
 else none)))
 else
 (if v3 = (-1000000005) then
 j_X8_mark_86 v2 v3 a9 w13
 else
 (bd2 (f_X8_isWithin v3 (-99999) 99999 w13) fun r22 w23 =>
 (if r22 = 0 then
 some ((-1000000001), w23)
 else
 j_X8_mark_86 v2 v3 a9 w23))))
 else none)))
 else none))
 else none))
 else none)
 else
 some (r2, w3)))
 else none)
theorem c_X8_mark {l : Launch} {V : Vt} {v0 : Nat} {v1 : Int32} {v2 : Int32} {v3 : Int32} {w w' : Wd} {r : Int32} (h : f_X8_mark v0 v1 v2 v3 w = some (r, w')) : MetW l V yX8_mark cX8_mark 6 (some .int) { frames := 3, cells := 0, slots := 0, locals := 63 } w [rf V v0, .int v1, .int v2, .int v3] (some (.int r)) w' 0 0 := by
  refine g_start (by decide) (Nat.le_of_ble_eq_true rfl) ?_
  intro t _ hrm X hret hnm
  have Y : Hd_ t V cX8_mark 6 RX8 { frames := 3, cells := 0, slots := 0, locals := 63 } (some .int) "mark" := ⟨X, hrm, hret, hnm⟩
  refine g_as (lv' := [(0, rf V v0), (1, .int v1), (2, .int v2), (3, .int v3)]) (st' := []) rfl rfl ?_
  unfold f_X8_mark at h
  refine g_aload_n (pc := 0) X 0 rfl dX8_mark_0 ?_
  refine g_iload_n (pc := 1) X 1 rfl dX8_mark_1 ?_
  obtain ⟨k1, h⟩ := gd_i h
  obtain ⟨r2, w3, h4, h⟩ := bd2_i h
  refine g_callV (pc := 2) X FcX8 k1 mk_X8_refusalOf q_671 q_6 q_669 (c_X8_refusalOf h4) rfl rfl (by rw [Y.2.1]; decide)  rfl (rest := []) rfl (Nat.le_of_ble_eq_true rfl) (by rw [Y.2.1]; exact ⟨Nat.le_of_ble_eq_true rfl, Nat.le_of_ble_eq_true rfl⟩) dX8_mark_2 (st' := [.int r2]) rfl ?_
  refine g_istore (pc := 5) X (lv' := [(4, .int r2), (0, rf V v0), (1, .int v1), (2, .int v2), (3, .int v3)]) dX8_mark_5 (by decide) rfl ?_
  refine g_iload (pc := 7) X 0 rfl dX8_mark_7 ?_
  refine g_if_eq (pc := 9) X (tgt := 15) dX8_mark_9 rfl (fun c => ?_) (fun c => ?_)
  · have h := br_y c h
    refine g_aload_n (pc := 15) X 1 rfl dX8_mark_15 ?_
    obtain ⟨k5, h⟩ := gd_i h
    obtain ⟨a6, e7, h⟩ := bd1_i h
    refine g_getR (pc := 16) X FcX8 k5 6 e7 (by decide) rfl q_327 dX8_mark_16 ?_
    refine g_iload_n (pc := 19) X 2 rfl dX8_mark_19 ?_
    obtain ⟨k8, h⟩ := gd_i h
    obtain ⟨a9, e10, h⟩ := bd1_i h
    refine g_aald (pc := 20) X (C := RX3) k8 (by decide) (by decide) rfl e10 dX8_mark_20 ?_
    refine g_astore (pc := 21) X (lv' := [(5, rf V a9), (4, .int r2), (0, rf V v0), (1, .int v1), (2, .int v2), (3, .int v3)]) dX8_mark_21 (by decide) rfl ?_
    refine g_aload (pc := 23) X 0 rfl dX8_mark_23 ?_
    refine g_iload_n (pc := 25) X 4 rfl dX8_mark_25 ?_
    obtain ⟨k11, h⟩ := gd_i h
    obtain ⟨r12, w13, h14, h⟩ := bd2_i h
    refine g_callV (pc := 26) X FcX3 k11 mk_X3_hasPlace q_940 q_941 q_939 (c_X3_hasPlace h14) rfl rfl (by rw [Y.2.1]; decide)  rfl (rest := []) rfl (Nat.le_of_ble_eq_true rfl) (by rw [Y.2.1]; exact ⟨Nat.le_of_ble_eq_true rfl, Nat.le_of_ble_eq_true rfl⟩) dX8_mark_26 (st' := [.int r12]) rfl ?_
    refine g_if_ne (pc := 29) X (tgt := 36) dX8_mark_29 rfl (fun c => ?_) (fun c => ?_)
    · have h := br_n c h
      refine g_aload (pc := 36) X 0 rfl dX8_mark_36 ?_
      obtain ⟨k15, h⟩ := gd_i h
      refine g_getI (pc := 38) X FcX3 k15 0 (by decide) rfl q_285 dX8_mark_38 ?_
      refine g_if_ne (pc := 41) X (tgt := 64) dX8_mark_41 rfl (fun c => ?_) (fun c => ?_)
      · have h := br_n c h
        refine g_iload_n (pc := 64) X 5 rfl dX8_mark_64 ?_
        refine g_ldc (pc := 65) X q_516 dX8_mark_65 ?_
        refine g_icmp_eq (pc := 67) X (tgt := 86) dX8_mark_67 rfl (fun c => ?_) (fun c => ?_)
        · have h := br_y c h
          refine g_sub (lv' := [(2, .int v2), (3, .int v3), (5, rf V a9)]) [4, 5, 0] rfl ?_
          exact bj_X8_mark_86 Y  h
        · have h := br_n c h
          refine g_iload_n (pc := 70) X 5 rfl dX8_mark_70 ?_
          refine g_ldcw (pc := 71) X q_945 dX8_mark_71 ?_
          refine g_ldcw (pc := 74) X q_946 dX8_mark_74 ?_
          obtain ⟨r22, w23, h24, h⟩ := bd2_i h
          refine g_callS (pc := 77) X mk_X8_isWithin q_357 q_356 (c_X8_isWithin h24) rfl rfl (by rw [Y.2.1]; decide)  rfl (rest := []) rfl (Nat.le_of_ble_eq_true rfl) (by rw [Y.2.1]; exact ⟨Nat.le_of_ble_eq_true rfl, Nat.le_of_ble_eq_true rfl⟩) dX8_mark_77 (st' := [.int r22]) rfl ?_
          refine g_if_ne (pc := 80) X (tgt := 86) dX8_mark_80 rfl (fun c => ?_) (fun c => ?_)
          · have h := br_n c h
            refine g_sub (lv' := [(2, .int v2), (3, .int v3), (5, rf V a9)]) [4, 5, 0] rfl ?_
            exact bj_X8_mark_86 Y  h
          · have h := br_y c h
            refine g_ldc (pc := 83) X q_359 dX8_mark_83 ?_
            obtain ⟨e1, e2⟩ := rt_i h
            exact g_iret (pc := 85) X Y.2.2.1 (Nat.le_of_ble_eq_true rfl) (Nat.le_of_ble_eq_true rfl) e1 e2 dX8_mark_85
      · have h := br_y c h
        refine g_iload_n (pc := 44) X 5 rfl dX8_mark_44 ?_
        refine g_ldc (pc := 45) X q_516 dX8_mark_45 ?_
        refine g_icmp_ne (pc := 47) X (tgt := 53) dX8_mark_47 rfl (fun c => ?_) (fun c => ?_)
        · have h := br_n c h
          refine g_aload (pc := 53) X 0 rfl dX8_mark_53 ?_
          obtain ⟨a25, e26, h⟩ := bd1_i h
          refine g_getR (pc := 55) X FcX3 k15 2 e26 (by decide) rfl q_289 dX8_mark_55 ?_
          refine g_iload_n (pc := 58) X 4 rfl dX8_mark_58 ?_
          refine g_iload_n (pc := 59) X 5 rfl dX8_mark_59 ?_
          refine g_i2s (pc := 60) X dX8_mark_60 ?_
          obtain ⟨k27, h⟩ := gd_i h
          refine g_iast (pc := 61) X k27 dX8_mark_61 ?_
          obtain ⟨w28, e29, h⟩ := lb_i h
          refine g_w e29 ?_
          refine g_iconst (pc := 62) X (v := 1) dX8_mark_62 rfl ?_
          obtain ⟨e1, e2⟩ := rt_i h
          exact g_iret (pc := 63) X Y.2.2.1 (Nat.le_of_ble_eq_true rfl) (Nat.le_of_ble_eq_true rfl) e1 e2 dX8_mark_63
        · have h := br_y c h
          refine g_ldc (pc := 50) X q_464 dX8_mark_50 ?_
          obtain ⟨e1, e2⟩ := rt_i h
          exact g_iret (pc := 52) X Y.2.2.1 (Nat.le_of_ble_eq_true rfl) (Nat.le_of_ble_eq_true rfl) e1 e2 dX8_mark_52
    · have h := br_y c h
      refine g_ldcw (pc := 32) X q_944 dX8_mark_32 ?_
      obtain ⟨e1, e2⟩ := rt_i h
      exact g_iret (pc := 35) X Y.2.2.1 (Nat.le_of_ble_eq_true rfl) (Nat.le_of_ble_eq_true rfl) e1 e2 dX8_mark_35
  · have h := br_n c h
    refine g_iload (pc := 12) X 0 rfl dX8_mark_12 ?_
    obtain ⟨e1, e2⟩ := rt_i h
    exact g_iret (pc := 14) X Y.2.2.1 (Nat.le_of_ble_eq_true rfl) (Nat.le_of_ble_eq_true rfl) e1 e2 dX8_mark_14

def L_X8_pour_25  (n : Nat) (v0 : Nat) (v3 : Nat) (v4 : Int32) (v5 : Int32) (w : Wd) : Option (Int32 × Wd) := match n with
  | 0 => none
  | n + 1 => (if wK w v0 = 8 then
 (bd1 (wR w v0 0) fun a12 =>
 (if wK w a12 = 1 then
 (bd1 (wR w a12 0) fun a15 =>
 (if wK w a15 = 0 then
 (if (wI w a15 0) ≤ v5 then
 some (v4, w)
 else
 (if wK w v3 = 3 then
 (if (wI w v3 1) ≤ v5 then
 some (v4, w)
 else
 (bd1 (wR w v3 2) fun a19 =>
 (if aK 11 w a19 v5 = true then
 (if (wI w a19 (nx v5)) = (-1000000005) then
 (lb_ (v5 + 1) fun x22 =>
 L_X8_pour_25 n v0 v3 v4 x22 w)
 else
 (bd1 (wR w v3 2) fun a24 =>
 (if aK 11 w a24 v5 = true then
 (bd2 (f_X8_held (wI w a24 (nx v5)) 0 99 w) fun r27 w28 =>
 (if wK w28 v0 = 8 then
 (bd1 (wR w28 v0 0) fun a31 =>
 (if wK w28 a31 = 1 then
 (bd1 (wR w28 a31 3) fun a34 =>
 (if aK 11 w28 a34 v5 = true then
 (if r27 = (wI w28 a34 (nx v5)) then
 (lb_ (v5 + 1) fun x37 =>
 L_X8_pour_25 n v0 v3 v4 x37 w28)
 else
 (bd1 (wR w28 v0 0) fun a39 =>
 (if wK w28 a39 = 1 then
 (bd1 (wR w28 a39 3) fun a42 =>
 (if aK 11 w28 a42 v5 = true then
 (lb_ (sI w28 a42 (nx v5) r27) fun w45 =>
 (lb_ (v4 + 1) fun x47 =>
 (lb_ (v5 + 1) fun x49 =>
 L_X8_pour_25 n v0 v3 x47 x49 w45)))
 else none))
 else none)))
 else none))
 else none))
 else none))
 else none)))
 else none)))
 else none))
 else none))
 else none))
 else none)
theorem bL_X8_pour_25 {t : Ct} {V : Vt} {r : Int32} {w' : Wd} (Y : Hd_ t V cX8_pour 7 RX8 { frames := 3, cells := 0, slots := 0, locals := 63 } (some .int) "pour") : ∀ {n : Nat} {v0 : Nat} {v3 : Nat} {v4 : Int32} {v5 : Int32} {w : Wd}, L_X8_pour_25  n v0 v3 v4 v5 w = some (r, w') → Gd t V 7 0 0 (Qe t V (some (.int r)) w' 0 0) 25 [(0, rf V v0), (3, rf V v3), (4, .int v4), (5, .int v5)] [] w := by
  have X := Y.1
  intro n
  induction n with
  | zero => intro v0 v3 v4 v5 w h; cases h
  | succ n ih0 =>
    have ih : ∀ (v0 : Nat) (v3 : Nat) (v4 : Int32) (v5 : Int32) (w : Wd), L_X8_pour_25  n v0 v3 v4 v5 w = some (r, w') → Gd t V 7 0 0 (Qe t V (some (.int r)) w' 0 0) 25 [(0, rf V v0), (3, rf V v3), (4, .int v4), (5, .int v5)] [] w := fun v0 v3 v4 v5 w h => ih0 h
    clear ih0
    intro v0 v3 v4 v5 w h
    unfold L_X8_pour_25 at h
    refine g_iload (pc := 25) X 3 rfl dX8_pour_25 ?_
    refine g_aload_n (pc := 27) X 0 rfl dX8_pour_27 ?_
    obtain ⟨k11, h⟩ := gd_i h
    obtain ⟨a12, e13, h⟩ := bd1_i h
    refine g_getR (pc := 28) X FcX8 k11 0 e13 (by decide) rfl q_321 dX8_pour_28 ?_
    obtain ⟨k14, h⟩ := gd_i h
    obtain ⟨a15, e16, h⟩ := bd1_i h
    refine g_getR (pc := 31) X FcX1 k14 0 e16 (by decide) rfl q_158 dX8_pour_31 ?_
    obtain ⟨k17, h⟩ := gd_i h
    refine g_getI (pc := 34) X FcX0 k17 0 (by decide) rfl q_105 dX8_pour_34 ?_
    refine g_icmp_ge (pc := 37) X (tgt := 112) dX8_pour_37 rfl (fun c => ?_) (fun c => ?_)
    · have h := br_y c h
      refine g_iload (pc := 112) X 2 rfl dX8_pour_112 ?_
      obtain ⟨e1, e2⟩ := rt_i h
      exact g_iret (pc := 114) X Y.2.2.1 (Nat.le_of_ble_eq_true rfl) (Nat.le_of_ble_eq_true rfl) e1 e2 dX8_pour_114
    · have h := br_n c h
      refine g_iload (pc := 40) X 3 rfl dX8_pour_40 ?_
      refine g_aload_n (pc := 42) X 1 rfl dX8_pour_42 ?_
      obtain ⟨k18, h⟩ := gd_i h
      refine g_getI (pc := 43) X FcX3 k18 1 (by decide) rfl q_287 dX8_pour_43 ?_
      refine g_icmp_ge (pc := 46) X (tgt := 112) dX8_pour_46 rfl (fun c => ?_) (fun c => ?_)
      · have h := br_y c h
        refine g_iload (pc := 112) X 2 rfl dX8_pour_112 ?_
        obtain ⟨e1, e2⟩ := rt_i h
        exact g_iret (pc := 114) X Y.2.2.1 (Nat.le_of_ble_eq_true rfl) (Nat.le_of_ble_eq_true rfl) e1 e2 dX8_pour_114
      · have h := br_n c h
        refine g_aload_n (pc := 49) X 1 rfl dX8_pour_49 ?_
        obtain ⟨a19, e20, h⟩ := bd1_i h
        refine g_getR (pc := 50) X FcX3 k18 2 e20 (by decide) rfl q_289 dX8_pour_50 ?_
        refine g_iload (pc := 53) X 3 rfl dX8_pour_53 ?_
        obtain ⟨k21, h⟩ := gd_i h
        refine g_iald (pc := 55) X k21 dX8_pour_55 ?_
        refine g_ldc (pc := 56) X q_516 dX8_pour_56 ?_
        refine g_icmp_eq (pc := 58) X (tgt := 106) dX8_pour_58 rfl (fun c => ?_) (fun c => ?_)
        · have h := br_y c h
          obtain ⟨x22, e23, h⟩ := lb_i h
          refine g_iinc (pc := 106) X 3 rfl dX8_pour_106 (v := x22) e23.symm (by decide) (lv' := [(5, .int x22), (0, rf V v0), (3, rf V v3), (4, .int v4)]) rfl ?_
          refine g_goto (pc := 109) X (tgt := 25) dX8_pour_109 rfl ?_
          refine g_sub (lv' := [(0, rf V v0), (3, rf V v3), (4, .int v4), (5, .int x22)]) [1, 2, 3, 0] rfl ?_
          exact ih _ _ _ _ _ h
        · have h := br_n c h
          refine g_aload_n (pc := 61) X 1 rfl dX8_pour_61 ?_
          obtain ⟨a24, e25, h⟩ := bd1_i h
          refine g_getR (pc := 62) X FcX3 k18 2 e25 (by decide) rfl q_289 dX8_pour_62 ?_
          refine g_iload (pc := 65) X 3 rfl dX8_pour_65 ?_
          obtain ⟨k26, h⟩ := gd_i h
          refine g_iald (pc := 67) X k26 dX8_pour_67 ?_
          refine g_iconst (pc := 68) X (v := 0) dX8_pour_68 rfl ?_
          refine g_bipush (pc := 69) X (v := 99) dX8_pour_69 rfl ?_
          obtain ⟨r27, w28, h29, h⟩ := bd2_i h
          refine g_callS (pc := 71) X mk_X8_held q_502 q_951 (c_X8_held h29) rfl rfl (by rw [Y.2.1]; decide)  rfl (rest := []) rfl (Nat.le_of_ble_eq_true rfl) (by rw [Y.2.1]; exact ⟨Nat.le_of_ble_eq_true rfl, Nat.le_of_ble_eq_true rfl⟩) dX8_pour_71 (st' := [.int r27]) rfl ?_
          refine g_istore (pc := 74) X (lv' := [(6, .int r27), (0, rf V v0), (3, rf V v3), (4, .int v4), (5, .int v5)]) dX8_pour_74 (by decide) rfl ?_
          refine g_iload (pc := 76) X 0 rfl dX8_pour_76 ?_
          refine g_aload_n (pc := 78) X 1 rfl dX8_pour_78 ?_
          obtain ⟨k30, h⟩ := gd_i h
          obtain ⟨a31, e32, h⟩ := bd1_i h
          refine g_getR (pc := 79) X FcX8 k30 0 e32 (by decide) rfl q_321 dX8_pour_79 ?_
          obtain ⟨k33, h⟩ := gd_i h
          obtain ⟨a34, e35, h⟩ := bd1_i h
          refine g_getR (pc := 82) X FcX1 k33 3 e35 (by decide) rfl q_165 dX8_pour_82 ?_
          refine g_iload (pc := 85) X 4 rfl dX8_pour_85 ?_
          obtain ⟨k36, h⟩ := gd_i h
          refine g_iald (pc := 87) X k36 dX8_pour_87 ?_
          refine g_icmp_eq (pc := 88) X (tgt := 106) dX8_pour_88 rfl (fun c => ?_) (fun c => ?_)
          · have h := br_y c h
            obtain ⟨x37, e38, h⟩ := lb_i h
            refine g_iinc (pc := 106) X 4 rfl dX8_pour_106 (v := x37) e38.symm (by decide) (lv' := [(5, .int x37), (6, .int r27), (0, rf V v0), (3, rf V v3), (4, .int v4)]) rfl ?_
            refine g_goto (pc := 109) X (tgt := 25) dX8_pour_109 rfl ?_
            refine g_sub (lv' := [(0, rf V v0), (3, rf V v3), (4, .int v4), (5, .int x37)]) [2, 3, 4, 0] rfl ?_
            exact ih _ _ _ _ _ h
          · have h := br_n c h
            refine g_aload_n (pc := 91) X 1 rfl dX8_pour_91 ?_
            obtain ⟨a39, e40, h⟩ := bd1_i h
            refine g_getR (pc := 92) X FcX8 k30 0 e40 (by decide) rfl q_321 dX8_pour_92 ?_
            obtain ⟨k41, h⟩ := gd_i h
            obtain ⟨a42, e43, h⟩ := bd1_i h
            refine g_getR (pc := 95) X FcX1 k41 3 e43 (by decide) rfl q_165 dX8_pour_95 ?_
            refine g_iload (pc := 98) X 4 rfl dX8_pour_98 ?_
            refine g_iload (pc := 100) X 0 rfl dX8_pour_100 ?_
            obtain ⟨k44, h⟩ := gd_i h
            refine g_iast (pc := 102) X k44 dX8_pour_102 ?_
            obtain ⟨w45, e46, h⟩ := lb_i h
            refine g_w e46 ?_
            obtain ⟨x47, e48, h⟩ := lb_i h
            refine g_iinc (pc := 103) X 3 rfl dX8_pour_103 (v := x47) e48.symm (by decide) (lv' := [(4, .int x47), (6, .int r27), (0, rf V v0), (3, rf V v3), (5, .int v5)]) rfl ?_
            obtain ⟨x49, e50, h⟩ := lb_i h
            refine g_iinc (pc := 106) X 4 rfl dX8_pour_106 (v := x49) e50.symm (by decide) (lv' := [(5, .int x49), (4, .int x47), (6, .int r27), (0, rf V v0), (3, rf V v3)]) rfl ?_
            refine g_goto (pc := 109) X (tgt := 25) dX8_pour_109 rfl ?_
            refine g_sub (lv' := [(0, rf V v0), (3, rf V v3), (4, .int x47), (5, .int x49)]) [3, 4, 1, 0] rfl ?_
            exact ih _ _ _ _ _ h

def f_X8_pour (v0 : Nat) (v1 : Int32) (w : Wd) : Option (Int32 × Wd) := (if wK w v0 = 8 then
 (bd2 (f_X8_refusalOf v0 v1 w) fun r2 w3 =>
 (if r2 = 0 then
 (if wK w3 v0 = 8 then
 (bd1 (wR w3 v0 6) fun a6 =>
 (if aK 13 w3 a6 v1 = true then
 (bd1 (wR w3 a6 (nx v1)) fun a9 =>
 L_X8_pour_25 FU v0 a9 0 0 w3)
 else none))
 else none)
 else
 some (r2, w3)))
 else none)
theorem c_X8_pour {l : Launch} {V : Vt} {v0 : Nat} {v1 : Int32} {w w' : Wd} {r : Int32} (h : f_X8_pour v0 v1 w = some (r, w')) : MetW l V yX8_pour cX8_pour 7 (some .int) { frames := 3, cells := 0, slots := 0, locals := 63 } w [rf V v0, .int v1] (some (.int r)) w' 0 0 := by
  refine g_start (by decide) (Nat.le_of_ble_eq_true rfl) ?_
  intro t _ hrm X hret hnm
  have Y : Hd_ t V cX8_pour 7 RX8 { frames := 3, cells := 0, slots := 0, locals := 63 } (some .int) "pour" := ⟨X, hrm, hret, hnm⟩
  refine g_as (lv' := [(0, rf V v0), (1, .int v1)]) (st' := []) rfl rfl ?_
  unfold f_X8_pour at h
  refine g_aload_n (pc := 0) X 0 rfl dX8_pour_0 ?_
  refine g_iload_n (pc := 1) X 1 rfl dX8_pour_1 ?_
  obtain ⟨k1, h⟩ := gd_i h
  obtain ⟨r2, w3, h4, h⟩ := bd2_i h
  refine g_callV (pc := 2) X FcX8 k1 mk_X8_refusalOf q_671 q_6 q_669 (c_X8_refusalOf h4) rfl rfl (by rw [Y.2.1]; decide)  rfl (rest := []) rfl (Nat.le_of_ble_eq_true rfl) (by rw [Y.2.1]; exact ⟨Nat.le_of_ble_eq_true rfl, Nat.le_of_ble_eq_true rfl⟩) dX8_pour_2 (st' := [.int r2]) rfl ?_
  refine g_istore_n (pc := 5) X (lv' := [(2, .int r2), (0, rf V v0), (1, .int v1)]) dX8_pour_5 (by decide) rfl ?_
  refine g_iload_n (pc := 6) X 0 rfl dX8_pour_6 ?_
  refine g_if_eq (pc := 7) X (tgt := 12) dX8_pour_7 rfl (fun c => ?_) (fun c => ?_)
  · have h := br_y c h
    refine g_aload_n (pc := 12) X 1 rfl dX8_pour_12 ?_
    obtain ⟨k5, h⟩ := gd_i h
    obtain ⟨a6, e7, h⟩ := bd1_i h
    refine g_getR (pc := 13) X FcX8 k5 6 e7 (by decide) rfl q_327 dX8_pour_13 ?_
    refine g_iload_n (pc := 16) X 2 rfl dX8_pour_16 ?_
    obtain ⟨k8, h⟩ := gd_i h
    obtain ⟨a9, e10, h⟩ := bd1_i h
    refine g_aald (pc := 17) X (C := RX3) k8 (by decide) (by decide) rfl e10 dX8_pour_17 ?_
    refine g_astore_n (pc := 18) X (lv' := [(3, rf V a9), (2, .int r2), (0, rf V v0), (1, .int v1)]) dX8_pour_18 (by decide) rfl ?_
    refine g_iconst (pc := 19) X (v := 0) dX8_pour_19 rfl ?_
    refine g_istore (pc := 20) X (lv' := [(4, .int 0), (3, rf V a9), (2, .int r2), (0, rf V v0), (1, .int v1)]) dX8_pour_20 (by decide) rfl ?_
    refine g_iconst (pc := 22) X (v := 0) dX8_pour_22 rfl ?_
    refine g_istore (pc := 23) X (lv' := [(5, .int 0), (4, .int 0), (3, rf V a9), (2, .int r2), (0, rf V v0), (1, .int v1)]) dX8_pour_23 (by decide) rfl ?_
    refine g_sub (lv' := [(0, rf V v0), (3, rf V a9), (4, .int 0), (5, .int 0)]) [4, 2, 1, 0] rfl ?_
    exact bL_X8_pour_25 Y  h
  · have h := br_n c h
    refine g_iload_n (pc := 10) X 0 rfl dX8_pour_10 ?_
    obtain ⟨e1, e2⟩ := rt_i h
    exact g_iret (pc := 11) X Y.2.2.1 (Nat.le_of_ble_eq_true rfl) (Nat.le_of_ble_eq_true rfl) e1 e2 dX8_pour_11

def L_X8_reads_22  (n : Nat) (v0 : Nat) (v3 : Nat) (v4 : Int32) (w : Wd) : Option (Int32 × Wd) := match n with
  | 0 => none
  | n + 1 => (if wK w v3 = 3 then
 (if (wI w v3 1) ≤ v4 then
 some ((-1000000005), w)
 else
 (bd1 (wR w v3 2) fun a12 =>
 (if aK 11 w a12 v4 = true then
 (if (wI w a12 (nx v4)) = (-1000000005) then
 (lb_ (v4 + 1) fun x15 =>
 L_X8_reads_22 n v0 v3 x15 w)
 else
 (if wK w v0 = 8 then
 (bd2 (f_X8_isSitter v0 v4 w) fun r18 w19 =>
 (if r18 = 0 then
 some (v4, w19)
 else
 (if wK w19 v3 = 3 then
 (bd1 (wR w19 v3 2) fun a22 =>
 (if aK 11 w19 a22 v4 = true then
 (if wK w19 v0 = 8 then
 (bd1 (wR w19 v0 0) fun a26 =>
 (if wK w19 a26 = 1 then
 (bd1 (wR w19 a26 1) fun a29 =>
 (if aK 14 w19 a29 v4 = true then
 (bd1 (wR w19 a29 (nx v4)) fun a32 =>
 (if wK w19 a32 = 4 then
 (if (wI w19 a22 (nx v4)) = (wI w19 a32 2) then
 (lb_ (v4 + 1) fun x35 =>
 L_X8_reads_22 n v0 v3 x35 w19)
 else
 some (v4, w19))
 else none))
 else none))
 else none))
 else none)
 else none))
 else none)))
 else none))
 else none)))
 else none)
theorem bL_X8_reads_22 {t : Ct} {V : Vt} {r : Int32} {w' : Wd} (Y : Hd_ t V cX8_reads 5 RX8 { frames := 3, cells := 0, slots := 0, locals := 63 } (some .int) "reads") : ∀ {n : Nat} {v0 : Nat} {v3 : Nat} {v4 : Int32} {w : Wd}, L_X8_reads_22  n v0 v3 v4 w = some (r, w') → Gd t V 5 0 0 (Qe t V (some (.int r)) w' 0 0) 22 [(0, rf V v0), (3, rf V v3), (4, .int v4)] [] w := by
  have X := Y.1
  intro n
  induction n with
  | zero => intro v0 v3 v4 w h; cases h
  | succ n ih0 =>
    have ih : ∀ (v0 : Nat) (v3 : Nat) (v4 : Int32) (w : Wd), L_X8_reads_22  n v0 v3 v4 w = some (r, w') → Gd t V 5 0 0 (Qe t V (some (.int r)) w' 0 0) 22 [(0, rf V v0), (3, rf V v3), (4, .int v4)] [] w := fun v0 v3 v4 w h => ih0 h
    clear ih0
    intro v0 v3 v4 w h
    unfold L_X8_reads_22 at h
    refine g_iload (pc := 22) X 2 rfl dX8_reads_22 ?_
    refine g_aload_n (pc := 24) X 1 rfl dX8_reads_24 ?_
    obtain ⟨k11, h⟩ := gd_i h
    refine g_getI (pc := 25) X FcX3 k11 1 (by decide) rfl q_287 dX8_reads_25 ?_
    refine g_icmp_ge (pc := 28) X (tgt := 84) dX8_reads_28 rfl (fun c => ?_) (fun c => ?_)
    · have h := br_y c h
      refine g_ldc (pc := 84) X q_516 dX8_reads_84 ?_
      obtain ⟨e1, e2⟩ := rt_i h
      exact g_iret (pc := 86) X Y.2.2.1 (Nat.le_of_ble_eq_true rfl) (Nat.le_of_ble_eq_true rfl) e1 e2 dX8_reads_86
    · have h := br_n c h
      refine g_aload_n (pc := 31) X 1 rfl dX8_reads_31 ?_
      obtain ⟨a12, e13, h⟩ := bd1_i h
      refine g_getR (pc := 32) X FcX3 k11 2 e13 (by decide) rfl q_289 dX8_reads_32 ?_
      refine g_iload (pc := 35) X 2 rfl dX8_reads_35 ?_
      obtain ⟨k14, h⟩ := gd_i h
      refine g_iald (pc := 37) X k14 dX8_reads_37 ?_
      refine g_ldc (pc := 38) X q_516 dX8_reads_38 ?_
      refine g_icmp_eq (pc := 40) X (tgt := 78) dX8_reads_40 rfl (fun c => ?_) (fun c => ?_)
      · have h := br_y c h
        obtain ⟨x15, e16, h⟩ := lb_i h
        refine g_iinc (pc := 78) X 2 rfl dX8_reads_78 (v := x15) e16.symm (by decide) (lv' := [(4, .int x15), (0, rf V v0), (3, rf V v3)]) rfl ?_
        refine g_goto (pc := 81) X (tgt := 22) dX8_reads_81 rfl ?_
        refine g_sub (lv' := [(0, rf V v0), (3, rf V v3), (4, .int x15)]) [1, 2, 0] rfl ?_
        exact ih _ _ _ _ h
      · have h := br_n c h
        refine g_aload_n (pc := 43) X 0 rfl dX8_reads_43 ?_
        refine g_iload (pc := 44) X 2 rfl dX8_reads_44 ?_
        obtain ⟨k17, h⟩ := gd_i h
        obtain ⟨r18, w19, h20, h⟩ := bd2_i h
        refine g_callV (pc := 46) X FcX8 k17 mk_X8_isSitter q_408 q_0 q_406 (c_X8_isSitter h20) rfl rfl (by rw [Y.2.1]; decide)  rfl (rest := []) rfl (Nat.le_of_ble_eq_true rfl) (by rw [Y.2.1]; exact ⟨Nat.le_of_ble_eq_true rfl, Nat.le_of_ble_eq_true rfl⟩) dX8_reads_46 (st' := [.int r18]) rfl ?_
        refine g_if_eq (pc := 49) X (tgt := 75) dX8_reads_49 rfl (fun c => ?_) (fun c => ?_)
        · have h := br_y c h
          refine g_iload (pc := 75) X 2 rfl dX8_reads_75 ?_
          obtain ⟨e1, e2⟩ := rt_i h
          exact g_iret (pc := 77) X Y.2.2.1 (Nat.le_of_ble_eq_true rfl) (Nat.le_of_ble_eq_true rfl) e1 e2 dX8_reads_77
        · have h := br_n c h
          refine g_aload_n (pc := 52) X 1 rfl dX8_reads_52 ?_
          obtain ⟨k21, h⟩ := gd_i h
          obtain ⟨a22, e23, h⟩ := bd1_i h
          refine g_getR (pc := 53) X FcX3 k21 2 e23 (by decide) rfl q_289 dX8_reads_53 ?_
          refine g_iload (pc := 56) X 2 rfl dX8_reads_56 ?_
          obtain ⟨k24, h⟩ := gd_i h
          refine g_iald (pc := 58) X k24 dX8_reads_58 ?_
          refine g_aload_n (pc := 59) X 0 rfl dX8_reads_59 ?_
          obtain ⟨k25, h⟩ := gd_i h
          obtain ⟨a26, e27, h⟩ := bd1_i h
          refine g_getR (pc := 60) X FcX8 k25 0 e27 (by decide) rfl q_321 dX8_reads_60 ?_
          obtain ⟨k28, h⟩ := gd_i h
          obtain ⟨a29, e30, h⟩ := bd1_i h
          refine g_getR (pc := 63) X FcX1 k28 1 e30 (by decide) rfl q_160 dX8_reads_63 ?_
          refine g_iload (pc := 66) X 2 rfl dX8_reads_66 ?_
          obtain ⟨k31, h⟩ := gd_i h
          obtain ⟨a32, e33, h⟩ := bd1_i h
          refine g_aald (pc := 68) X (C := RX4) k31 (by decide) (by decide) rfl e33 dX8_reads_68 ?_
          obtain ⟨k34, h⟩ := gd_i h
          refine g_getI (pc := 69) X FcX4 k34 2 (by decide) rfl q_141 dX8_reads_69 ?_
          refine g_icmp_eq (pc := 72) X (tgt := 78) dX8_reads_72 rfl (fun c => ?_) (fun c => ?_)
          · have h := br_y c h
            obtain ⟨x35, e36, h⟩ := lb_i h
            refine g_iinc (pc := 78) X 2 rfl dX8_reads_78 (v := x35) e36.symm (by decide) (lv' := [(4, .int x35), (0, rf V v0), (3, rf V v3)]) rfl ?_
            refine g_goto (pc := 81) X (tgt := 22) dX8_reads_81 rfl ?_
            refine g_sub (lv' := [(0, rf V v0), (3, rf V v3), (4, .int x35)]) [1, 2, 0] rfl ?_
            exact ih _ _ _ _ h
          · have h := br_n c h
            refine g_iload (pc := 75) X 2 rfl dX8_reads_75 ?_
            obtain ⟨e1, e2⟩ := rt_i h
            exact g_iret (pc := 77) X Y.2.2.1 (Nat.le_of_ble_eq_true rfl) (Nat.le_of_ble_eq_true rfl) e1 e2 dX8_reads_77

def f_X8_reads (v0 : Nat) (v1 : Int32) (w : Wd) : Option (Int32 × Wd) := (if wK w v0 = 8 then
 (bd2 (f_X8_refusalOf v0 v1 w) fun r2 w3 =>
 (if r2 = 0 then
 (if wK w3 v0 = 8 then
 (bd1 (wR w3 v0 6) fun a6 =>
 (if aK 13 w3 a6 v1 = true then
 (bd1 (wR w3 a6 (nx v1)) fun a9 =>
 L_X8_reads_22 FU v0 a9 0 w3)
 else none))
 else none)
 else
 some (r2, w3)))
 else none)
theorem c_X8_reads {l : Launch} {V : Vt} {v0 : Nat} {v1 : Int32} {w w' : Wd} {r : Int32} (h : f_X8_reads v0 v1 w = some (r, w')) : MetW l V yX8_reads cX8_reads 5 (some .int) { frames := 3, cells := 0, slots := 0, locals := 63 } w [rf V v0, .int v1] (some (.int r)) w' 0 0 := by
  refine g_start (by decide) (Nat.le_of_ble_eq_true rfl) ?_
  intro t _ hrm X hret hnm
  have Y : Hd_ t V cX8_reads 5 RX8 { frames := 3, cells := 0, slots := 0, locals := 63 } (some .int) "reads" := ⟨X, hrm, hret, hnm⟩
  refine g_as (lv' := [(0, rf V v0), (1, .int v1)]) (st' := []) rfl rfl ?_
  unfold f_X8_reads at h
  refine g_aload_n (pc := 0) X 0 rfl dX8_reads_0 ?_
  refine g_iload_n (pc := 1) X 1 rfl dX8_reads_1 ?_
  obtain ⟨k1, h⟩ := gd_i h
  obtain ⟨r2, w3, h4, h⟩ := bd2_i h
  refine g_callV (pc := 2) X FcX8 k1 mk_X8_refusalOf q_671 q_6 q_669 (c_X8_refusalOf h4) rfl rfl (by rw [Y.2.1]; decide)  rfl (rest := []) rfl (Nat.le_of_ble_eq_true rfl) (by rw [Y.2.1]; exact ⟨Nat.le_of_ble_eq_true rfl, Nat.le_of_ble_eq_true rfl⟩) dX8_reads_2 (st' := [.int r2]) rfl ?_
  refine g_istore_n (pc := 5) X (lv' := [(2, .int r2), (0, rf V v0), (1, .int v1)]) dX8_reads_5 (by decide) rfl ?_
  refine g_iload_n (pc := 6) X 0 rfl dX8_reads_6 ?_
  refine g_if_eq (pc := 7) X (tgt := 12) dX8_reads_7 rfl (fun c => ?_) (fun c => ?_)
  · have h := br_y c h
    refine g_aload_n (pc := 12) X 1 rfl dX8_reads_12 ?_
    obtain ⟨k5, h⟩ := gd_i h
    obtain ⟨a6, e7, h⟩ := bd1_i h
    refine g_getR (pc := 13) X FcX8 k5 6 e7 (by decide) rfl q_327 dX8_reads_13 ?_
    refine g_iload_n (pc := 16) X 2 rfl dX8_reads_16 ?_
    obtain ⟨k8, h⟩ := gd_i h
    obtain ⟨a9, e10, h⟩ := bd1_i h
    refine g_aald (pc := 17) X (C := RX3) k8 (by decide) (by decide) rfl e10 dX8_reads_17 ?_
    refine g_astore_n (pc := 18) X (lv' := [(3, rf V a9), (2, .int r2), (0, rf V v0), (1, .int v1)]) dX8_reads_18 (by decide) rfl ?_
    refine g_iconst (pc := 19) X (v := 0) dX8_reads_19 rfl ?_
    refine g_istore (pc := 20) X (lv' := [(4, .int 0), (3, rf V a9), (2, .int r2), (0, rf V v0), (1, .int v1)]) dX8_reads_20 (by decide) rfl ?_
    refine g_sub (lv' := [(0, rf V v0), (3, rf V a9), (4, .int 0)]) [3, 1, 0] rfl ?_
    exact bL_X8_reads_22 Y  h
  · have h := br_n c h
    refine g_iload_n (pc := 10) X 0 rfl dX8_reads_10 ?_
    obtain ⟨e1, e2⟩ := rt_i h
    exact g_iret (pc := 11) X Y.2.2.1 (Nat.le_of_ble_eq_true rfl) (Nat.le_of_ble_eq_true rfl) e1 e2 dX8_reads_11

def f_X8_copy (v0 : Nat) (v1 : Int32) (v2 : Int32) (v3 : Int32) (v4 : Int32) (v5 : Int32) (w : Wd) : Option (Int32 × Wd) := (bd2 (f_X8_isSheet v1 w) fun r1 w2 =>
 (if r1 = 0 then
 some ((-1000000001), w2)
 else
 (bd2 (f_X8_isSheet v3 w2) fun r4 w5 =>
 (if r4 = 0 then
 some ((-1000000001), w5)
 else
 (if wK w5 v0 = 8 then
 (bd1 (wR w5 v0 6) fun a8 =>
 (if aK 13 w5 a8 v1 = true then
 (bd1 (wR w5 a8 (nx v1)) fun a11 =>
 (bd1 (wR w5 v0 6) fun a13 =>
 (if aK 13 w5 a13 v3 = true then
 (bd1 (wR w5 a13 (nx v3)) fun a16 =>
 (if wK w5 a11 = 3 then
 (if (wI w5 a11 0) = (-1) then
 some ((-1000000011), w5)
 else
 (if wK w5 a16 = 3 then
 (if (wI w5 a16 0) = (-1) then
 some ((-1000000011), w5)
 else
 (if (wI w5 a11 0) = (wI w5 a16 0) then
 (bd2 (f_X3_hasPlaces a11 v2 v5 w5) fun r20 w21 =>
 (if r20 = 0 then
 some ((-1000000013), w21)
 else
 (if wK w21 a16 = 3 then
 (bd2 (f_X3_hasPlaces a16 v4 v5 w21) fun r24 w25 =>
 (if r24 = 0 then
 some ((-1000000013), w25)
 else
 (if wK w25 a11 = 3 then
 (bd1 (wR w25 a11 2) fun a28 =>
 (if wK w25 a16 = 3 then
 (bd1 (wR w25 a16 2) fun a31 =>
 (if cp_ok w25 a28 v2 a31 v4 v5 = true then
 (lb_ (cp_W w25 a28 v2 a31 v4 v5) fun w34 =>
 some (v5, w34))
 else none))
 else none))
 else none)))
 else none)))
 else
 some ((-1000000012), w5)))
 else none))
 else none))
 else none)))
 else none))
 else none)))))
theorem c_X8_copy {l : Launch} {V : Vt} {v0 : Nat} {v1 : Int32} {v2 : Int32} {v3 : Int32} {v4 : Int32} {v5 : Int32} {w w' : Wd} {r : Int32} (h : f_X8_copy v0 v1 v2 v3 v4 v5 w = some (r, w')) : MetW l V yX8_copy cX8_copy 8 (some .int) { frames := 2, cells := 0, slots := 0, locals := 64 } w [rf V v0, .int v1, .int v2, .int v3, .int v4, .int v5] (some (.int r)) w' 0 0 := by
  refine g_start (by decide) (Nat.le_of_ble_eq_true rfl) ?_
  intro t _ hrm X hret hnm
  have Y : Hd_ t V cX8_copy 8 RX8 { frames := 2, cells := 0, slots := 0, locals := 64 } (some .int) "copy" := ⟨X, hrm, hret, hnm⟩
  refine g_as (lv' := [(0, rf V v0), (1, .int v1), (2, .int v2), (3, .int v3), (4, .int v4), (5, .int v5)]) (st' := []) rfl rfl ?_
  unfold f_X8_copy at h
  refine g_iload_n (pc := 0) X 1 rfl dX8_copy_0 ?_
  obtain ⟨r1, w2, h3, h⟩ := bd2_i h
  refine g_callS (pc := 1) X mk_X8_isSheet q_674 q_673 (c_X8_isSheet h3) rfl rfl (by rw [Y.2.1]; decide)  rfl (rest := []) rfl (Nat.le_of_ble_eq_true rfl) (by rw [Y.2.1]; exact ⟨Nat.le_of_ble_eq_true rfl, Nat.le_of_ble_eq_true rfl⟩) dX8_copy_1 (st' := [.int r1]) rfl ?_
  refine g_if_eq (pc := 4) X (tgt := 14) dX8_copy_4 rfl (fun c => ?_) (fun c => ?_)
  · have h := br_y c h
    refine g_ldc (pc := 14) X q_359 dX8_copy_14 ?_
    obtain ⟨e1, e2⟩ := rt_i h
    exact g_iret (pc := 16) X Y.2.2.1 (Nat.le_of_ble_eq_true rfl) (Nat.le_of_ble_eq_true rfl) e1 e2 dX8_copy_16
  · have h := br_n c h
    refine g_iload_n (pc := 7) X 3 rfl dX8_copy_7 ?_
    obtain ⟨r4, w5, h6, h⟩ := bd2_i h
    refine g_callS (pc := 8) X mk_X8_isSheet q_674 q_673 (c_X8_isSheet h6) rfl rfl (by rw [Y.2.1]; decide)  rfl (rest := []) rfl (Nat.le_of_ble_eq_true rfl) (by rw [Y.2.1]; exact ⟨Nat.le_of_ble_eq_true rfl, Nat.le_of_ble_eq_true rfl⟩) dX8_copy_8 (st' := [.int r4]) rfl ?_
    refine g_if_ne (pc := 11) X (tgt := 17) dX8_copy_11 rfl (fun c => ?_) (fun c => ?_)
    · have h := br_n c h
      refine g_aload_n (pc := 17) X 0 rfl dX8_copy_17 ?_
      obtain ⟨k7, h⟩ := gd_i h
      obtain ⟨a8, e9, h⟩ := bd1_i h
      refine g_getR (pc := 18) X FcX8 k7 6 e9 (by decide) rfl q_327 dX8_copy_18 ?_
      refine g_iload_n (pc := 21) X 1 rfl dX8_copy_21 ?_
      obtain ⟨k10, h⟩ := gd_i h
      obtain ⟨a11, e12, h⟩ := bd1_i h
      refine g_aald (pc := 22) X (C := RX3) k10 (by decide) (by decide) rfl e12 dX8_copy_22 ?_
      refine g_astore (pc := 23) X (lv' := [(6, rf V a11), (0, rf V v0), (1, .int v1), (2, .int v2), (3, .int v3), (4, .int v4), (5, .int v5)]) dX8_copy_23 (by decide) rfl ?_
      refine g_aload_n (pc := 25) X 1 rfl dX8_copy_25 ?_
      obtain ⟨a13, e14, h⟩ := bd1_i h
      refine g_getR (pc := 26) X FcX8 k7 6 e14 (by decide) rfl q_327 dX8_copy_26 ?_
      refine g_iload_n (pc := 29) X 4 rfl dX8_copy_29 ?_
      obtain ⟨k15, h⟩ := gd_i h
      obtain ⟨a16, e17, h⟩ := bd1_i h
      refine g_aald (pc := 30) X (C := RX3) k15 (by decide) (by decide) rfl e17 dX8_copy_30 ?_
      refine g_astore (pc := 31) X (lv' := [(7, rf V a16), (6, rf V a11), (0, rf V v0), (1, .int v1), (2, .int v2), (3, .int v3), (4, .int v4), (5, .int v5)]) dX8_copy_31 (by decide) rfl ?_
      refine g_aload (pc := 33) X 1 rfl dX8_copy_33 ?_
      obtain ⟨k18, h⟩ := gd_i h
      refine g_getI (pc := 35) X FcX3 k18 0 (by decide) rfl q_285 dX8_copy_35 ?_
      refine g_iconst (pc := 38) X (v := (-1)) dX8_copy_38 rfl ?_
      refine g_icmp_eq (pc := 39) X (tgt := 51) dX8_copy_39 rfl (fun c => ?_) (fun c => ?_)
      · have h := br_y c h
        refine g_ldcw (pc := 51) X q_676 dX8_copy_51 ?_
        obtain ⟨e1, e2⟩ := rt_i h
        exact g_iret (pc := 54) X Y.2.2.1 (Nat.le_of_ble_eq_true rfl) (Nat.le_of_ble_eq_true rfl) e1 e2 dX8_copy_54
      · have h := br_n c h
        refine g_aload (pc := 42) X 0 rfl dX8_copy_42 ?_
        obtain ⟨k19, h⟩ := gd_i h
        refine g_getI (pc := 44) X FcX3 k19 0 (by decide) rfl q_285 dX8_copy_44 ?_
        refine g_iconst (pc := 47) X (v := (-1)) dX8_copy_47 rfl ?_
        refine g_icmp_ne (pc := 48) X (tgt := 55) dX8_copy_48 rfl (fun c => ?_) (fun c => ?_)
        · have h := br_n c h
          refine g_aload (pc := 55) X 1 rfl dX8_copy_55 ?_
          refine g_getI (pc := 57) X FcX3 k18 0 (by decide) rfl q_285 dX8_copy_57 ?_
          refine g_aload (pc := 60) X 0 rfl dX8_copy_60 ?_
          refine g_getI (pc := 62) X FcX3 k19 0 (by decide) rfl q_285 dX8_copy_62 ?_
          refine g_icmp_eq (pc := 65) X (tgt := 71) dX8_copy_65 rfl (fun c => ?_) (fun c => ?_)
          · have h := br_y c h
            refine g_aload (pc := 71) X 1 rfl dX8_copy_71 ?_
            refine g_iload_n (pc := 73) X 4 rfl dX8_copy_73 ?_
            refine g_iload (pc := 74) X 7 rfl dX8_copy_74 ?_
            obtain ⟨r20, w21, h22, h⟩ := bd2_i h
            refine g_callV (pc := 76) X FcX3 k18 mk_X3_hasPlaces q_961 q_962 q_960 (c_X3_hasPlaces h22) rfl rfl (by rw [Y.2.1]; decide)  rfl (rest := []) rfl (Nat.le_of_ble_eq_true rfl) (by rw [Y.2.1]; exact ⟨Nat.le_of_ble_eq_true rfl, Nat.le_of_ble_eq_true rfl⟩) dX8_copy_76 (st' := [.int r20]) rfl ?_
            refine g_if_eq (pc := 79) X (tgt := 94) dX8_copy_79 rfl (fun c => ?_) (fun c => ?_)
            · have h := br_y c h
              refine g_ldcw (pc := 94) X q_944 dX8_copy_94 ?_
              obtain ⟨e1, e2⟩ := rt_i h
              exact g_iret (pc := 97) X Y.2.2.1 (Nat.le_of_ble_eq_true rfl) (Nat.le_of_ble_eq_true rfl) e1 e2 dX8_copy_97
            · have h := br_n c h
              refine g_aload (pc := 82) X 0 rfl dX8_copy_82 ?_
              refine g_iload (pc := 84) X 6 rfl dX8_copy_84 ?_
              refine g_iload (pc := 86) X 7 rfl dX8_copy_86 ?_
              obtain ⟨k23, h⟩ := gd_i h
              obtain ⟨r24, w25, h26, h⟩ := bd2_i h
              refine g_callV (pc := 88) X FcX3 k23 mk_X3_hasPlaces q_961 q_962 q_960 (c_X3_hasPlaces h26) rfl rfl (by rw [Y.2.1]; decide)  rfl (rest := []) rfl (Nat.le_of_ble_eq_true rfl) (by rw [Y.2.1]; exact ⟨Nat.le_of_ble_eq_true rfl, Nat.le_of_ble_eq_true rfl⟩) dX8_copy_88 (st' := [.int r24]) rfl ?_
              refine g_if_ne (pc := 91) X (tgt := 98) dX8_copy_91 rfl (fun c => ?_) (fun c => ?_)
              · have h := br_n c h
                refine g_aload (pc := 98) X 1 rfl dX8_copy_98 ?_
                obtain ⟨k27, h⟩ := gd_i h
                obtain ⟨a28, e29, h⟩ := bd1_i h
                refine g_getR (pc := 100) X FcX3 k27 2 e29 (by decide) rfl q_289 dX8_copy_100 ?_
                refine g_iload_n (pc := 103) X 4 rfl dX8_copy_103 ?_
                refine g_aload (pc := 104) X 0 rfl dX8_copy_104 ?_
                obtain ⟨k30, h⟩ := gd_i h
                obtain ⟨a31, e32, h⟩ := bd1_i h
                refine g_getR (pc := 106) X FcX3 k30 2 e32 (by decide) rfl q_289 dX8_copy_106 ?_
                refine g_iload (pc := 109) X 6 rfl dX8_copy_109 ?_
                refine g_iload (pc := 111) X 7 rfl dX8_copy_111 ?_
                obtain ⟨k33, h⟩ := gd_i h
                refine g_copy (pc := 113) X k33 q_964 q_651 q_650 q_76 (by rw [Y.2.1]; decide) (by rw [Y.2.1]; exact Nat.le_of_ble_eq_true rfl) dX8_copy_113 ?_
                obtain ⟨w34, e35, h⟩ := lb_i h
                refine g_w e35 ?_
                refine g_iload (pc := 116) X 7 rfl dX8_copy_116 ?_
                obtain ⟨e1, e2⟩ := rt_i h
                exact g_iret (pc := 118) X Y.2.2.1 (Nat.le_of_ble_eq_true rfl) (Nat.le_of_ble_eq_true rfl) e1 e2 dX8_copy_118
              · have h := br_y c h
                refine g_ldcw (pc := 94) X q_944 dX8_copy_94 ?_
                obtain ⟨e1, e2⟩ := rt_i h
                exact g_iret (pc := 97) X Y.2.2.1 (Nat.le_of_ble_eq_true rfl) (Nat.le_of_ble_eq_true rfl) e1 e2 dX8_copy_97
          · have h := br_n c h
            refine g_ldc (pc := 68) X q_464 dX8_copy_68 ?_
            obtain ⟨e1, e2⟩ := rt_i h
            exact g_iret (pc := 70) X Y.2.2.1 (Nat.le_of_ble_eq_true rfl) (Nat.le_of_ble_eq_true rfl) e1 e2 dX8_copy_70
        · have h := br_y c h
          refine g_ldcw (pc := 51) X q_676 dX8_copy_51 ?_
          obtain ⟨e1, e2⟩ := rt_i h
          exact g_iret (pc := 54) X Y.2.2.1 (Nat.le_of_ble_eq_true rfl) (Nat.le_of_ble_eq_true rfl) e1 e2 dX8_copy_54
    · have h := br_y c h
      refine g_ldc (pc := 14) X q_359 dX8_copy_14 ?_
      obtain ⟨e1, e2⟩ := rt_i h
      exact g_iret (pc := 16) X Y.2.2.1 (Nat.le_of_ble_eq_true rfl) (Nat.le_of_ble_eq_true rfl) e1 e2 dX8_copy_16

def f_X8_isSlot (v0 : Int32) (w : Wd) : Option (Int32 × Wd) := (bd2 (f_X8_isWithin v0 0 4 w) fun r1 w2 =>
 (if r1 = 0 ∨ r1 = 1 then
 some (r1, w2)
 else none))
theorem c_X8_isSlot {l : Launch} {V : Vt} {v0 : Int32} {w w' : Wd} {r : Int32} (h : f_X8_isSlot v0 w = some (r, w')) : MetW l V yX8_isSlot cX8_isSlot 1 (some .boolean) { frames := 1, cells := 0, slots := 0, locals := 22 } w [.int v0] (some (.int r)) w' 0 0 := by
  refine g_start (by decide) (Nat.le_of_ble_eq_true rfl) ?_
  intro t _ hrm X hret hnm
  have Y : Hd_ t V cX8_isSlot 1 RX8 { frames := 1, cells := 0, slots := 0, locals := 22 } (some .boolean) "isSlot" := ⟨X, hrm, hret, hnm⟩
  refine g_as (lv' := [(0, .int v0)]) (st' := []) rfl rfl ?_
  unfold f_X8_isSlot at h
  refine g_iload_n (pc := 0) X 0 rfl dX8_isSlot_0 ?_
  refine g_iconst (pc := 1) X (v := 0) dX8_isSlot_1 rfl ?_
  refine g_iconst (pc := 2) X (v := 4) dX8_isSlot_2 rfl ?_
  obtain ⟨r1, w2, h3, h⟩ := bd2_i h
  refine g_callS (pc := 3) X mk_X8_isWithin q_357 q_356 (c_X8_isWithin h3) rfl rfl (by rw [Y.2.1]; decide)  rfl (rest := []) rfl (Nat.le_of_ble_eq_true rfl) (by rw [Y.2.1]; exact ⟨Nat.le_of_ble_eq_true rfl, Nat.le_of_ble_eq_true rfl⟩) dX8_isSlot_3 (st' := [.int r1]) rfl ?_
  obtain ⟨k4, h⟩ := gd_i h
  obtain ⟨e1, e2⟩ := rt_i h
  exact g_zret (pc := 6) X Y.2.2.1 k4 (Nat.le_of_ble_eq_true rfl) (Nat.le_of_ble_eq_true rfl) e1 e2 dX8_isSlot_6

def j_X8_lay_54  (v0 : Nat) (v1 : Int32) (v2 : Int32) (v3 : Int32) (w : Wd) : Option (Int32 × Wd) := (if wK w v0 = 8 then
 (bd1 (wR w v0 7) fun a8 =>
 (if aK 15 w a8 v1 = true then
 (bd1 (wR w a8 (nx v1)) fun a11 =>
 (if wK w a11 = 5 then
 (lb_ (wI w a11 0) fun x14 =>
 (lb_ (sI w a11 0 v2) fun w16 =>
 (if v2 = 1 then
 (bd1 (wR w16 a11 1) fun a31 =>
 (bd1 (wR w16 v0 0) fun a33 =>
 (if wK w16 a33 = 1 then
 (bd1 (wR w16 a33 1) fun a36 =>
 (if aK 14 w16 a36 v3 = true then
 (bd1 (wR w16 a36 (nx v3)) fun a39 =>
 (if wK w16 a31 = 4 then
 (bd2 (f_X4_become a31 a39 w16) fun r42 w43 =>
 some (x14, w43))
 else none))
 else none))
 else none)))
 else
 (if v2 = 2 then
 (bd1 (wR w16 a11 2) fun a20 =>
 (bd1 (wR w16 v0 6) fun a22 =>
 (if aK 13 w16 a22 v3 = true then
 (bd1 (wR w16 a22 (nx v3)) fun a25 =>
 (if wK w16 a20 = 3 then
 (bd2 (f_X3_become a20 a25 w16) fun r28 w29 =>
 some (x14, w29))
 else none))
 else none)))
 else
 (lb_ (sI w16 a11 3 v3) fun w18 =>
 some (x14, w18))))))
 else none))
 else none))
 else none)
theorem bj_X8_lay_54 {t : Ct} {V : Vt} {r : Int32} {w' : Wd} (Y : Hd_ t V cX8_lay 6 RX8 { frames := 3, cells := 0, slots := 0, locals := 85 } (some .int) "lay") {v0 : Nat} {v1 : Int32} {v2 : Int32} {v3 : Int32} {w : Wd} (h : j_X8_lay_54  v0 v1 v2 v3 w = some (r, w')) : Gd t V 6 0 0 (Qe t V (some (.int r)) w' 0 0) 54 [(0, rf V v0), (1, .int v1), (2, .int v2), (3, .int v3)] [] w := by
  have X := Y.1
  unfold j_X8_lay_54 at h
  refine g_aload_n (pc := 54) X 0 rfl dX8_lay_54 ?_
  obtain ⟨k7, h⟩ := gd_i h
  obtain ⟨a8, e9, h⟩ := bd1_i h
  refine g_getR (pc := 55) X FcX8 k7 7 e9 (by decide) rfl q_328 dX8_lay_55 ?_
  refine g_iload_n (pc := 58) X 1 rfl dX8_lay_58 ?_
  obtain ⟨k10, h⟩ := gd_i h
  obtain ⟨a11, e12, h⟩ := bd1_i h
  refine g_aald (pc := 59) X (C := RX5) k10 (by decide) (by decide) rfl e12 dX8_lay_59 ?_
  refine g_astore (pc := 60) X (lv' := [(4, rf V a11), (0, rf V v0), (1, .int v1), (2, .int v2), (3, .int v3)]) dX8_lay_60 (by decide) rfl ?_
  refine g_aload (pc := 62) X 0 rfl dX8_lay_62 ?_
  obtain ⟨k13, h⟩ := gd_i h
  refine g_getI (pc := 64) X FcX5 k13 0 (by decide) rfl q_306 dX8_lay_64 ?_
  obtain ⟨x14, e15, h⟩ := lb_i h
  refine g_top e15 ?_
  refine g_istore (pc := 67) X (lv' := [(5, .int x14), (4, rf V a11), (0, rf V v0), (1, .int v1), (2, .int v2), (3, .int v3)]) dX8_lay_67 (by decide) rfl ?_
  refine g_aload (pc := 69) X 1 rfl dX8_lay_69 ?_
  refine g_iload_n (pc := 71) X 4 rfl dX8_lay_71 ?_
  refine g_putI (pc := 72) X FcX5 k13 0 (by decide) rfl q_306 rfl rfl rfl dX8_lay_72 ?_
  obtain ⟨w16, e17, h⟩ := lb_i h
  refine g_w e17 ?_
  refine g_iload_n (pc := 75) X 4 rfl dX8_lay_75 ?_
  refine g_iconst (pc := 76) X (v := 1) dX8_lay_76 rfl ?_
  refine g_icmp_ne (pc := 77) X (tgt := 100) dX8_lay_77 rfl (fun c => ?_) (fun c => ?_)
  · have h := br_n c h
    refine g_iload_n (pc := 100) X 4 rfl dX8_lay_100 ?_
    refine g_iconst (pc := 101) X (v := 2) dX8_lay_101 rfl ?_
    refine g_icmp_ne (pc := 102) X (tgt := 122) dX8_lay_102 rfl (fun c => ?_) (fun c => ?_)
    · have h := br_n c h
      refine g_aload (pc := 122) X 1 rfl dX8_lay_122 ?_
      refine g_iload_n (pc := 124) X 5 rfl dX8_lay_124 ?_
      refine g_putI (pc := 125) X FcX5 (kd_I e17 k13) 3 (by decide) rfl q_311 rfl rfl rfl dX8_lay_125 ?_
      obtain ⟨w18, e19, h⟩ := lb_i h
      refine g_w e19 ?_
      refine g_iload (pc := 128) X 0 rfl dX8_lay_128 ?_
      obtain ⟨e1, e2⟩ := rt_i h
      exact g_iret (pc := 130) X Y.2.2.1 (Nat.le_of_ble_eq_true rfl) (Nat.le_of_ble_eq_true rfl) e1 e2 dX8_lay_130
    · have h := br_y c h
      refine g_aload (pc := 105) X 1 rfl dX8_lay_105 ?_
      obtain ⟨a20, e21, h⟩ := bd1_i h
      refine g_getR (pc := 107) X FcX5 (kd_I e17 k13) 2 e21 (by decide) rfl q_310 dX8_lay_107 ?_
      refine g_aload_n (pc := 110) X 2 rfl dX8_lay_110 ?_
      obtain ⟨a22, e23, h⟩ := bd1_i h
      refine g_getR (pc := 111) X FcX8 (kd_I e17 k7) 6 e23 (by decide) rfl q_327 dX8_lay_111 ?_
      refine g_iload_n (pc := 114) X 5 rfl dX8_lay_114 ?_
      obtain ⟨k24, h⟩ := gd_i h
      obtain ⟨a25, e26, h⟩ := bd1_i h
      refine g_aald (pc := 115) X (C := RX3) k24 (by decide) (by decide) rfl e26 dX8_lay_115 ?_
      obtain ⟨k27, h⟩ := gd_i h
      obtain ⟨r28, w29, h30, h⟩ := bd2_i h
      refine g_callV (pc := 116) X FcX3 k27 mk_X3_become q_974 q_975 q_973 (c_X3_become h30) rfl rfl (by rw [Y.2.1]; decide)  rfl (rest := []) rfl (Nat.le_of_ble_eq_true rfl) (by rw [Y.2.1]; exact ⟨Nat.le_of_ble_eq_true rfl, Nat.le_of_ble_eq_true rfl⟩) dX8_lay_116 (st' := []) rfl ?_
      refine g_goto (pc := 119) X (tgt := 128) dX8_lay_119 rfl ?_
      refine g_iload (pc := 128) X 0 rfl dX8_lay_128 ?_
      obtain ⟨e1, e2⟩ := rt_i h
      exact g_iret (pc := 130) X Y.2.2.1 (Nat.le_of_ble_eq_true rfl) (Nat.le_of_ble_eq_true rfl) e1 e2 dX8_lay_130
  · have h := br_y c h
    refine g_aload (pc := 80) X 1 rfl dX8_lay_80 ?_
    obtain ⟨a31, e32, h⟩ := bd1_i h
    refine g_getR (pc := 82) X FcX5 (kd_I e17 k13) 1 e32 (by decide) rfl q_308 dX8_lay_82 ?_
    refine g_aload_n (pc := 85) X 2 rfl dX8_lay_85 ?_
    obtain ⟨a33, e34, h⟩ := bd1_i h
    refine g_getR (pc := 86) X FcX8 (kd_I e17 k7) 0 e34 (by decide) rfl q_321 dX8_lay_86 ?_
    obtain ⟨k35, h⟩ := gd_i h
    obtain ⟨a36, e37, h⟩ := bd1_i h
    refine g_getR (pc := 89) X FcX1 k35 1 e37 (by decide) rfl q_160 dX8_lay_89 ?_
    refine g_iload_n (pc := 92) X 5 rfl dX8_lay_92 ?_
    obtain ⟨k38, h⟩ := gd_i h
    obtain ⟨a39, e40, h⟩ := bd1_i h
    refine g_aald (pc := 93) X (C := RX4) k38 (by decide) (by decide) rfl e40 dX8_lay_93 ?_
    obtain ⟨k41, h⟩ := gd_i h
    obtain ⟨r42, w43, h44, h⟩ := bd2_i h
    refine g_callV (pc := 94) X FcX4 k41 mk_X4_become q_646 q_647 q_972 (c_X4_become h44) rfl rfl (by rw [Y.2.1]; decide)  rfl (rest := []) rfl (Nat.le_of_ble_eq_true rfl) (by rw [Y.2.1]; exact ⟨Nat.le_of_ble_eq_true rfl, Nat.le_of_ble_eq_true rfl⟩) dX8_lay_94 (st' := []) rfl ?_
    refine g_goto (pc := 97) X (tgt := 128) dX8_lay_97 rfl ?_
    refine g_iload (pc := 128) X 0 rfl dX8_lay_128 ?_
    obtain ⟨e1, e2⟩ := rt_i h
    exact g_iret (pc := 130) X Y.2.2.1 (Nat.le_of_ble_eq_true rfl) (Nat.le_of_ble_eq_true rfl) e1 e2 dX8_lay_130

def j_X8_lay_35  (v0 : Nat) (v1 : Int32) (v2 : Int32) (v3 : Int32) (w : Wd) : Option (Int32 × Wd) := (if v2 = 2 then
 (if wK w v0 = 8 then
 (bd2 (f_X8_refusalOf v0 v3 w) fun r46 w47 =>
 (if r46 = 0 then
 j_X8_lay_54 v0 v1 v2 v3 w47
 else
 (if wK w47 v0 = 8 then
 (bd2 (f_X8_refusalOf v0 v3 w47) fun r50 w51 =>
 some (r50, w51))
 else none)))
 else none)
 else
 j_X8_lay_54 v0 v1 v2 v3 w)
theorem bj_X8_lay_35 {t : Ct} {V : Vt} {r : Int32} {w' : Wd} (Y : Hd_ t V cX8_lay 6 RX8 { frames := 3, cells := 0, slots := 0, locals := 85 } (some .int) "lay") {v0 : Nat} {v1 : Int32} {v2 : Int32} {v3 : Int32} {w : Wd} (h : j_X8_lay_35  v0 v1 v2 v3 w = some (r, w')) : Gd t V 6 0 0 (Qe t V (some (.int r)) w' 0 0) 35 [(0, rf V v0), (1, .int v1), (2, .int v2), (3, .int v3)] [] w := by
  have X := Y.1
  unfold j_X8_lay_35 at h
  refine g_iload_n (pc := 35) X 2 rfl dX8_lay_35 ?_
  refine g_iconst (pc := 36) X (v := 2) dX8_lay_36 rfl ?_
  refine g_icmp_ne (pc := 37) X (tgt := 54) dX8_lay_37 rfl (fun c => ?_) (fun c => ?_)
  · have h := br_n c h
    refine g_sub (lv' := [(0, rf V v0), (1, .int v1), (2, .int v2), (3, .int v3)]) [0, 1, 2, 3] rfl ?_
    exact bj_X8_lay_54 Y  h
  · have h := br_y c h
    refine g_aload_n (pc := 40) X 0 rfl dX8_lay_40 ?_
    refine g_iload_n (pc := 41) X 3 rfl dX8_lay_41 ?_
    obtain ⟨k45, h⟩ := gd_i h
    obtain ⟨r46, w47, h48, h⟩ := bd2_i h
    refine g_callV (pc := 42) X FcX8 k45 mk_X8_refusalOf q_671 q_6 q_669 (c_X8_refusalOf h48) rfl rfl (by rw [Y.2.1]; decide)  rfl (rest := []) rfl (Nat.le_of_ble_eq_true rfl) (by rw [Y.2.1]; exact ⟨Nat.le_of_ble_eq_true rfl, Nat.le_of_ble_eq_true rfl⟩) dX8_lay_42 (st' := [.int r46]) rfl ?_
    refine g_if_eq (pc := 45) X (tgt := 54) dX8_lay_45 rfl (fun c => ?_) (fun c => ?_)
    · have h := br_y c h
      refine g_sub (lv' := [(0, rf V v0), (1, .int v1), (2, .int v2), (3, .int v3)]) [0, 1, 2, 3] rfl ?_
      exact bj_X8_lay_54 Y  h
    · have h := br_n c h
      refine g_aload_n (pc := 48) X 0 rfl dX8_lay_48 ?_
      refine g_iload_n (pc := 49) X 3 rfl dX8_lay_49 ?_
      obtain ⟨k49, h⟩ := gd_i h
      obtain ⟨r50, w51, h52, h⟩ := bd2_i h
      refine g_callV (pc := 50) X FcX8 k49 mk_X8_refusalOf q_671 q_6 q_669 (c_X8_refusalOf h52) rfl rfl (by rw [Y.2.1]; decide)  rfl (rest := []) rfl (Nat.le_of_ble_eq_true rfl) (by rw [Y.2.1]; exact ⟨Nat.le_of_ble_eq_true rfl, Nat.le_of_ble_eq_true rfl⟩) dX8_lay_50 (st' := [.int r50]) rfl ?_
      obtain ⟨e1, e2⟩ := rt_i h
      exact g_iret (pc := 53) X Y.2.2.1 (Nat.le_of_ble_eq_true rfl) (Nat.le_of_ble_eq_true rfl) e1 e2 dX8_lay_53

def f_X8_lay (v0 : Nat) (v1 : Int32) (v2 : Int32) (v3 : Int32) (w : Wd) : Option (Int32 × Wd) := (bd2 (f_X8_isSlot v1 w) fun r1 w2 =>
 (if r1 = 0 then
 some ((-1000000001), w2)
 else
 (bd2 (f_X8_isWithin v2 0 3 w2) fun r4 w5 =>
 (if r4 = 0 then
 some ((-1000000001), w5)
 else
 (if v2 = 1 then
 (if wK w5 v0 = 8 then
 (bd2 (f_X8_isSitter v0 v3 w5) fun r54 w55 =>
 (if r54 = 0 then
 some ((-1000000001), w55)
 else
 j_X8_lay_35 v0 v1 v2 v3 w55))
 else none)
 else
 j_X8_lay_35 v0 v1 v2 v3 w5)))))
theorem c_X8_lay {l : Launch} {V : Vt} {v0 : Nat} {v1 : Int32} {v2 : Int32} {v3 : Int32} {w w' : Wd} {r : Int32} (h : f_X8_lay v0 v1 v2 v3 w = some (r, w')) : MetW l V yX8_lay cX8_lay 6 (some .int) { frames := 3, cells := 0, slots := 0, locals := 85 } w [rf V v0, .int v1, .int v2, .int v3] (some (.int r)) w' 0 0 := by
  refine g_start (by decide) (Nat.le_of_ble_eq_true rfl) ?_
  intro t _ hrm X hret hnm
  have Y : Hd_ t V cX8_lay 6 RX8 { frames := 3, cells := 0, slots := 0, locals := 85 } (some .int) "lay" := ⟨X, hrm, hret, hnm⟩
  refine g_as (lv' := [(0, rf V v0), (1, .int v1), (2, .int v2), (3, .int v3)]) (st' := []) rfl rfl ?_
  unfold f_X8_lay at h
  refine g_iload_n (pc := 0) X 1 rfl dX8_lay_0 ?_
  obtain ⟨r1, w2, h3, h⟩ := bd2_i h
  refine g_callS (pc := 1) X mk_X8_isSlot q_970 q_969 (c_X8_isSlot h3) rfl rfl (by rw [Y.2.1]; decide)  rfl (rest := []) rfl (Nat.le_of_ble_eq_true rfl) (by rw [Y.2.1]; exact ⟨Nat.le_of_ble_eq_true rfl, Nat.le_of_ble_eq_true rfl⟩) dX8_lay_1 (st' := [.int r1]) rfl ?_
  refine g_if_eq (pc := 4) X (tgt := 16) dX8_lay_4 rfl (fun c => ?_) (fun c => ?_)
  · have h := br_y c h
    refine g_ldc (pc := 16) X q_359 dX8_lay_16 ?_
    obtain ⟨e1, e2⟩ := rt_i h
    exact g_iret (pc := 18) X Y.2.2.1 (Nat.le_of_ble_eq_true rfl) (Nat.le_of_ble_eq_true rfl) e1 e2 dX8_lay_18
  · have h := br_n c h
    refine g_iload_n (pc := 7) X 2 rfl dX8_lay_7 ?_
    refine g_iconst (pc := 8) X (v := 0) dX8_lay_8 rfl ?_
    refine g_iconst (pc := 9) X (v := 3) dX8_lay_9 rfl ?_
    obtain ⟨r4, w5, h6, h⟩ := bd2_i h
    refine g_callS (pc := 10) X mk_X8_isWithin q_357 q_356 (c_X8_isWithin h6) rfl rfl (by rw [Y.2.1]; decide)  rfl (rest := []) rfl (Nat.le_of_ble_eq_true rfl) (by rw [Y.2.1]; exact ⟨Nat.le_of_ble_eq_true rfl, Nat.le_of_ble_eq_true rfl⟩) dX8_lay_10 (st' := [.int r4]) rfl ?_
    refine g_if_ne (pc := 13) X (tgt := 19) dX8_lay_13 rfl (fun c => ?_) (fun c => ?_)
    · have h := br_n c h
      refine g_iload_n (pc := 19) X 2 rfl dX8_lay_19 ?_
      refine g_iconst (pc := 20) X (v := 1) dX8_lay_20 rfl ?_
      refine g_icmp_ne (pc := 21) X (tgt := 35) dX8_lay_21 rfl (fun c => ?_) (fun c => ?_)
      · have h := br_n c h
        refine g_sub (lv' := [(0, rf V v0), (1, .int v1), (2, .int v2), (3, .int v3)]) [0, 1, 2, 3] rfl ?_
        exact bj_X8_lay_35 Y  h
      · have h := br_y c h
        refine g_aload_n (pc := 24) X 0 rfl dX8_lay_24 ?_
        refine g_iload_n (pc := 25) X 3 rfl dX8_lay_25 ?_
        obtain ⟨k53, h⟩ := gd_i h
        obtain ⟨r54, w55, h56, h⟩ := bd2_i h
        refine g_callV (pc := 26) X FcX8 k53 mk_X8_isSitter q_408 q_0 q_406 (c_X8_isSitter h56) rfl rfl (by rw [Y.2.1]; decide)  rfl (rest := []) rfl (Nat.le_of_ble_eq_true rfl) (by rw [Y.2.1]; exact ⟨Nat.le_of_ble_eq_true rfl, Nat.le_of_ble_eq_true rfl⟩) dX8_lay_26 (st' := [.int r54]) rfl ?_
        refine g_if_ne (pc := 29) X (tgt := 35) dX8_lay_29 rfl (fun c => ?_) (fun c => ?_)
        · have h := br_n c h
          refine g_sub (lv' := [(0, rf V v0), (1, .int v1), (2, .int v2), (3, .int v3)]) [0, 1, 2, 3] rfl ?_
          exact bj_X8_lay_35 Y  h
        · have h := br_y c h
          refine g_ldc (pc := 32) X q_359 dX8_lay_32 ?_
          obtain ⟨e1, e2⟩ := rt_i h
          exact g_iret (pc := 34) X Y.2.2.1 (Nat.le_of_ble_eq_true rfl) (Nat.le_of_ble_eq_true rfl) e1 e2 dX8_lay_34
    · have h := br_y c h
      refine g_ldc (pc := 16) X q_359 dX8_lay_16 ?_
      obtain ⟨e1, e2⟩ := rt_i h
      exact g_iret (pc := 18) X Y.2.2.1 (Nat.le_of_ble_eq_true rfl) (Nat.le_of_ble_eq_true rfl) e1 e2 dX8_lay_18

def f_X8_ask (v0 : Nat) (v1 : Int32) (v2 : Int32) (w : Wd) : Option (Int32 × Wd) := (bd2 (f_X8_isSlot v1 w) fun r1 w2 =>
 (if r1 = 0 then
 some ((-1000000001), w2)
 else
 (bd2 (f_X8_isKind v2 w2) fun r4 w5 =>
 (if r4 = 0 then
 some ((-1000000001), w5)
 else
 (if wK w5 v0 = 8 then
 (bd1 (wR w5 v0 7) fun a8 =>
 (if aK 15 w5 a8 v1 = true then
 (bd1 (wR w5 a8 (nx v1)) fun a11 =>
 (if wK w5 a11 = 5 then
 (if (wI w5 a11 0) = 0 then
 some ((-1000000011), w5)
 else
 (if (wI w5 a11 0) = 1 then
 (bd1 (wR w5 a11 1) fun a14 =>
 (if wK w5 a14 = 4 then
 (bd2 (f_X4_isOf a14 v2 w5) fun r17 w18 =>
 (if r17 = 0 then
 some ((-1000000012), w18)
 else
 (if wK w18 a11 = 5 then
 (bd1 (wR w18 a11 1) fun a21 =>
 (if wK w18 a21 = 4 then
 (bd2 (f_X4_worth a21 w18) fun r24 w25 =>
 some (r24, w25))
 else none))
 else none)))
 else none))
 else
 some ((-1000000012), w5)))
 else none))
 else none))
 else none)))))
theorem c_X8_ask {l : Launch} {V : Vt} {v0 : Nat} {v1 : Int32} {v2 : Int32} {w w' : Wd} {r : Int32} (h : f_X8_ask v0 v1 v2 w = some (r, w')) : MetW l V yX8_ask cX8_ask 4 (some .int) { frames := 2, cells := 0, slots := 0, locals := 42 } w [rf V v0, .int v1, .int v2] (some (.int r)) w' 0 0 := by
  refine g_start (by decide) (Nat.le_of_ble_eq_true rfl) ?_
  intro t _ hrm X hret hnm
  have Y : Hd_ t V cX8_ask 4 RX8 { frames := 2, cells := 0, slots := 0, locals := 42 } (some .int) "ask" := ⟨X, hrm, hret, hnm⟩
  refine g_as (lv' := [(0, rf V v0), (1, .int v1), (2, .int v2)]) (st' := []) rfl rfl ?_
  unfold f_X8_ask at h
  refine g_iload_n (pc := 0) X 1 rfl dX8_ask_0 ?_
  obtain ⟨r1, w2, h3, h⟩ := bd2_i h
  refine g_callS (pc := 1) X mk_X8_isSlot q_970 q_969 (c_X8_isSlot h3) rfl rfl (by rw [Y.2.1]; decide)  rfl (rest := []) rfl (Nat.le_of_ble_eq_true rfl) (by rw [Y.2.1]; exact ⟨Nat.le_of_ble_eq_true rfl, Nat.le_of_ble_eq_true rfl⟩) dX8_ask_1 (st' := [.int r1]) rfl ?_
  refine g_if_eq (pc := 4) X (tgt := 14) dX8_ask_4 rfl (fun c => ?_) (fun c => ?_)
  · have h := br_y c h
    refine g_ldc (pc := 14) X q_359 dX8_ask_14 ?_
    obtain ⟨e1, e2⟩ := rt_i h
    exact g_iret (pc := 16) X Y.2.2.1 (Nat.le_of_ble_eq_true rfl) (Nat.le_of_ble_eq_true rfl) e1 e2 dX8_ask_16
  · have h := br_n c h
    refine g_iload_n (pc := 7) X 2 rfl dX8_ask_7 ?_
    obtain ⟨r4, w5, h6, h⟩ := bd2_i h
    refine g_callS (pc := 8) X mk_X8_isKind q_391 q_390 (c_X8_isKind h6) rfl rfl (by rw [Y.2.1]; decide)  rfl (rest := []) rfl (Nat.le_of_ble_eq_true rfl) (by rw [Y.2.1]; exact ⟨Nat.le_of_ble_eq_true rfl, Nat.le_of_ble_eq_true rfl⟩) dX8_ask_8 (st' := [.int r4]) rfl ?_
    refine g_if_ne (pc := 11) X (tgt := 17) dX8_ask_11 rfl (fun c => ?_) (fun c => ?_)
    · have h := br_n c h
      refine g_aload_n (pc := 17) X 0 rfl dX8_ask_17 ?_
      obtain ⟨k7, h⟩ := gd_i h
      obtain ⟨a8, e9, h⟩ := bd1_i h
      refine g_getR (pc := 18) X FcX8 k7 7 e9 (by decide) rfl q_328 dX8_ask_18 ?_
      refine g_iload_n (pc := 21) X 1 rfl dX8_ask_21 ?_
      obtain ⟨k10, h⟩ := gd_i h
      obtain ⟨a11, e12, h⟩ := bd1_i h
      refine g_aald (pc := 22) X (C := RX5) k10 (by decide) (by decide) rfl e12 dX8_ask_22 ?_
      refine g_astore_n (pc := 23) X (lv' := [(3, rf V a11), (0, rf V v0), (1, .int v1), (2, .int v2)]) dX8_ask_23 (by decide) rfl ?_
      refine g_aload_n (pc := 24) X 0 rfl dX8_ask_24 ?_
      obtain ⟨k13, h⟩ := gd_i h
      refine g_getI (pc := 25) X FcX5 k13 0 (by decide) rfl q_306 dX8_ask_25 ?_
      refine g_if_ne (pc := 28) X (tgt := 35) dX8_ask_28 rfl (fun c => ?_) (fun c => ?_)
      · have h := br_n c h
        refine g_aload_n (pc := 35) X 0 rfl dX8_ask_35 ?_
        refine g_getI (pc := 36) X FcX5 k13 0 (by decide) rfl q_306 dX8_ask_36 ?_
        refine g_iconst (pc := 39) X (v := 1) dX8_ask_39 rfl ?_
        refine g_icmp_ne (pc := 40) X (tgt := 64) dX8_ask_40 rfl (fun c => ?_) (fun c => ?_)
        · have h := br_n c h
          refine g_ldc (pc := 64) X q_464 dX8_ask_64 ?_
          obtain ⟨e1, e2⟩ := rt_i h
          exact g_iret (pc := 66) X Y.2.2.1 (Nat.le_of_ble_eq_true rfl) (Nat.le_of_ble_eq_true rfl) e1 e2 dX8_ask_66
        · have h := br_y c h
          refine g_aload_n (pc := 43) X 0 rfl dX8_ask_43 ?_
          obtain ⟨a14, e15, h⟩ := bd1_i h
          refine g_getR (pc := 44) X FcX5 k13 1 e15 (by decide) rfl q_308 dX8_ask_44 ?_
          refine g_iload_n (pc := 47) X 3 rfl dX8_ask_47 ?_
          obtain ⟨k16, h⟩ := gd_i h
          obtain ⟨r17, w18, h19, h⟩ := bd2_i h
          refine g_callV (pc := 48) X FcX4 k16 mk_X4_isOf q_415 q_416 q_463 (c_X4_isOf h19) rfl rfl (by rw [Y.2.1]; decide)  rfl (rest := []) rfl (Nat.le_of_ble_eq_true rfl) (by rw [Y.2.1]; exact ⟨Nat.le_of_ble_eq_true rfl, Nat.le_of_ble_eq_true rfl⟩) dX8_ask_48 (st' := [.int r17]) rfl ?_
          refine g_if_eq (pc := 51) X (tgt := 64) dX8_ask_51 rfl (fun c => ?_) (fun c => ?_)
          · have h := br_y c h
            refine g_ldc (pc := 64) X q_464 dX8_ask_64 ?_
            obtain ⟨e1, e2⟩ := rt_i h
            exact g_iret (pc := 66) X Y.2.2.1 (Nat.le_of_ble_eq_true rfl) (Nat.le_of_ble_eq_true rfl) e1 e2 dX8_ask_66
          · have h := br_n c h
            refine g_aload_n (pc := 54) X 0 rfl dX8_ask_54 ?_
            obtain ⟨k20, h⟩ := gd_i h
            obtain ⟨a21, e22, h⟩ := bd1_i h
            refine g_getR (pc := 55) X FcX5 k20 1 e22 (by decide) rfl q_308 dX8_ask_55 ?_
            obtain ⟨k23, h⟩ := gd_i h
            obtain ⟨r24, w25, h26, h⟩ := bd2_i h
            refine g_callV (pc := 58) X FcX4 k23 mk_X4_worth q_456 q_457 q_455 (c_X4_worth h26) rfl rfl (by rw [Y.2.1]; decide)  rfl (rest := []) rfl (Nat.le_of_ble_eq_true rfl) (by rw [Y.2.1]; exact ⟨Nat.le_of_ble_eq_true rfl, Nat.le_of_ble_eq_true rfl⟩) dX8_ask_58 (st' := [.int r24]) rfl ?_
            refine g_goto (pc := 61) X (tgt := 66) dX8_ask_61 rfl ?_
            obtain ⟨e1, e2⟩ := rt_i h
            exact g_iret (pc := 66) X Y.2.2.1 (Nat.le_of_ble_eq_true rfl) (Nat.le_of_ble_eq_true rfl) e1 e2 dX8_ask_66
      · have h := br_y c h
        refine g_ldcw (pc := 31) X q_676 dX8_ask_31 ?_
        obtain ⟨e1, e2⟩ := rt_i h
        exact g_iret (pc := 34) X Y.2.2.1 (Nat.le_of_ble_eq_true rfl) (Nat.le_of_ble_eq_true rfl) e1 e2 dX8_ask_34
    · have h := br_y c h
      refine g_ldc (pc := 14) X q_359 dX8_ask_14 ?_
      obtain ⟨e1, e2⟩ := rt_i h
      exact g_iret (pc := 16) X Y.2.2.1 (Nat.le_of_ble_eq_true rfl) (Nat.le_of_ble_eq_true rfl) e1 e2 dX8_ask_16

def f_X8_item (v0 : Nat) (v1 : Int32) (v2 : Int32) (w : Wd) : Option (Int32 × Wd) := (bd2 (f_X8_isSlot v1 w) fun r1 w2 =>
 (if r1 = 0 then
 some ((-1000000001), w2)
 else
 (if wK w2 v0 = 8 then
 (bd1 (wR w2 v0 7) fun a5 =>
 (if aK 15 w2 a5 v1 = true then
 (bd1 (wR w2 a5 (nx v1)) fun a8 =>
 (if wK w2 a8 = 5 then
 (if (wI w2 a8 0) = 0 then
 some ((-1000000011), w2)
 else
 (if (wI w2 a8 0) = 2 then
 (bd1 (wR w2 a8 2) fun a11 =>
 (if wK w2 a11 = 3 then
 (bd2 (f_X3_hasPlace a11 v2 w2) fun r14 w15 =>
 (if r14 = 0 then
 some ((-1000000013), w15)
 else
 (if wK w15 a8 = 5 then
 (bd1 (wR w15 a8 2) fun a18 =>
 (if wK w15 a18 = 3 then
 (bd1 (wR w15 a18 2) fun a21 =>
 (if aK 11 w15 a21 v2 = true then
 (lb_ (wI w15 a21 (nx v2)) fun x24 =>
 some ((if x24 = (-1000000005) then (-1000000012) else x24 : Int32), w15))
 else none))
 else none))
 else none)))
 else none))
 else
 some ((-1000000012), w2)))
 else none))
 else none))
 else none)))
theorem c_X8_item {l : Launch} {V : Vt} {v0 : Nat} {v1 : Int32} {v2 : Int32} {w w' : Wd} {r : Int32} (h : f_X8_item v0 v1 v2 w = some (r, w')) : MetW l V yX8_item cX8_item 5 (some .int) { frames := 2, cells := 0, slots := 0, locals := 43 } w [rf V v0, .int v1, .int v2] (some (.int r)) w' 0 0 := by
  refine g_start (by decide) (Nat.le_of_ble_eq_true rfl) ?_
  intro t _ hrm X hret hnm
  have Y : Hd_ t V cX8_item 5 RX8 { frames := 2, cells := 0, slots := 0, locals := 43 } (some .int) "item" := ⟨X, hrm, hret, hnm⟩
  refine g_as (lv' := [(0, rf V v0), (1, .int v1), (2, .int v2)]) (st' := []) rfl rfl ?_
  unfold f_X8_item at h
  refine g_iload_n (pc := 0) X 1 rfl dX8_item_0 ?_
  obtain ⟨r1, w2, h3, h⟩ := bd2_i h
  refine g_callS (pc := 1) X mk_X8_isSlot q_970 q_969 (c_X8_isSlot h3) rfl rfl (by rw [Y.2.1]; decide)  rfl (rest := []) rfl (Nat.le_of_ble_eq_true rfl) (by rw [Y.2.1]; exact ⟨Nat.le_of_ble_eq_true rfl, Nat.le_of_ble_eq_true rfl⟩) dX8_item_1 (st' := [.int r1]) rfl ?_
  refine g_if_ne (pc := 4) X (tgt := 10) dX8_item_4 rfl (fun c => ?_) (fun c => ?_)
  · have h := br_n c h
    refine g_aload_n (pc := 10) X 0 rfl dX8_item_10 ?_
    obtain ⟨k4, h⟩ := gd_i h
    obtain ⟨a5, e6, h⟩ := bd1_i h
    refine g_getR (pc := 11) X FcX8 k4 7 e6 (by decide) rfl q_328 dX8_item_11 ?_
    refine g_iload_n (pc := 14) X 1 rfl dX8_item_14 ?_
    obtain ⟨k7, h⟩ := gd_i h
    obtain ⟨a8, e9, h⟩ := bd1_i h
    refine g_aald (pc := 15) X (C := RX5) k7 (by decide) (by decide) rfl e9 dX8_item_15 ?_
    refine g_astore_n (pc := 16) X (lv' := [(3, rf V a8), (0, rf V v0), (1, .int v1), (2, .int v2)]) dX8_item_16 (by decide) rfl ?_
    refine g_aload_n (pc := 17) X 0 rfl dX8_item_17 ?_
    obtain ⟨k10, h⟩ := gd_i h
    refine g_getI (pc := 18) X FcX5 k10 0 (by decide) rfl q_306 dX8_item_18 ?_
    refine g_if_ne (pc := 21) X (tgt := 28) dX8_item_21 rfl (fun c => ?_) (fun c => ?_)
    · have h := br_n c h
      refine g_aload_n (pc := 28) X 0 rfl dX8_item_28 ?_
      refine g_getI (pc := 29) X FcX5 k10 0 (by decide) rfl q_306 dX8_item_29 ?_
      refine g_iconst (pc := 32) X (v := 2) dX8_item_32 rfl ?_
      refine g_icmp_eq (pc := 33) X (tgt := 39) dX8_item_33 rfl (fun c => ?_) (fun c => ?_)
      · have h := br_y c h
        refine g_aload_n (pc := 39) X 0 rfl dX8_item_39 ?_
        obtain ⟨a11, e12, h⟩ := bd1_i h
        refine g_getR (pc := 40) X FcX5 k10 2 e12 (by decide) rfl q_310 dX8_item_40 ?_
        refine g_iload_n (pc := 43) X 3 rfl dX8_item_43 ?_
        obtain ⟨k13, h⟩ := gd_i h
        obtain ⟨r14, w15, h16, h⟩ := bd2_i h
        refine g_callV (pc := 44) X FcX3 k13 mk_X3_hasPlace q_940 q_941 q_939 (c_X3_hasPlace h16) rfl rfl (by rw [Y.2.1]; decide)  rfl (rest := []) rfl (Nat.le_of_ble_eq_true rfl) (by rw [Y.2.1]; exact ⟨Nat.le_of_ble_eq_true rfl, Nat.le_of_ble_eq_true rfl⟩) dX8_item_44 (st' := [.int r14]) rfl ?_
        refine g_if_ne (pc := 47) X (tgt := 54) dX8_item_47 rfl (fun c => ?_) (fun c => ?_)
        · have h := br_n c h
          refine g_aload_n (pc := 54) X 0 rfl dX8_item_54 ?_
          obtain ⟨k17, h⟩ := gd_i h
          obtain ⟨a18, e19, h⟩ := bd1_i h
          refine g_getR (pc := 55) X FcX5 k17 2 e19 (by decide) rfl q_310 dX8_item_55 ?_
          obtain ⟨k20, h⟩ := gd_i h
          obtain ⟨a21, e22, h⟩ := bd1_i h
          refine g_getR (pc := 58) X FcX3 k20 2 e22 (by decide) rfl q_289 dX8_item_58 ?_
          refine g_iload_n (pc := 61) X 3 rfl dX8_item_61 ?_
          obtain ⟨k23, h⟩ := gd_i h
          refine g_iald (pc := 62) X k23 dX8_item_62 ?_
          obtain ⟨x24, e25, h⟩ := lb_i h
          refine g_top e25 ?_
          refine g_istore (pc := 63) X (lv' := [(4, .int x24), (3, rf V a8), (0, rf V v0), (1, .int v1), (2, .int v2)]) dX8_item_63 (by decide) rfl ?_
          refine g_iload (pc := 65) X 0 rfl dX8_item_65 ?_
          refine g_ldc (pc := 67) X q_516 dX8_item_67 ?_
          have kJ : Gd t V 5 0 0 (Qe t V (some (.int r)) w' 0 0) 79 [(4, .int x24), (3, rf V a8), (0, rf V v0), (1, .int v1), (2, .int v2)] [.int (if x24 = (-1000000005) then (-1000000012) else x24 : Int32)] w15 := by
            obtain ⟨e1, e2⟩ := rt_i h
            exact g_iret (pc := 79) X Y.2.2.1 (Nat.le_of_ble_eq_true rfl) (Nat.le_of_ble_eq_true rfl) e1 e2 dX8_item_79
          refine g_icmp_ne (pc := 69) X (tgt := 77) dX8_item_69 rfl (fun c0 => ?_) (fun c0 => ?_)
          · refine g_iload (pc := 77) X 0 rfl dX8_item_77 ?_
            exact g_top (by rw [if_neg c0]) kJ
          · refine g_ldc (pc := 72) X q_464 dX8_item_72 ?_
            refine g_goto (pc := 74) X (tgt := 79) dX8_item_74 rfl ?_
            exact g_top (by rw [if_pos c0]) kJ
        · have h := br_y c h
          refine g_ldcw (pc := 50) X q_944 dX8_item_50 ?_
          obtain ⟨e1, e2⟩ := rt_i h
          exact g_iret (pc := 53) X Y.2.2.1 (Nat.le_of_ble_eq_true rfl) (Nat.le_of_ble_eq_true rfl) e1 e2 dX8_item_53
      · have h := br_n c h
        refine g_ldc (pc := 36) X q_464 dX8_item_36 ?_
        obtain ⟨e1, e2⟩ := rt_i h
        exact g_iret (pc := 38) X Y.2.2.1 (Nat.le_of_ble_eq_true rfl) (Nat.le_of_ble_eq_true rfl) e1 e2 dX8_item_38
    · have h := br_y c h
      refine g_ldcw (pc := 24) X q_676 dX8_item_24 ?_
      obtain ⟨e1, e2⟩ := rt_i h
      exact g_iret (pc := 27) X Y.2.2.1 (Nat.le_of_ble_eq_true rfl) (Nat.le_of_ble_eq_true rfl) e1 e2 dX8_item_27
  · have h := br_y c h
    refine g_ldc (pc := 7) X q_359 dX8_item_7 ?_
    obtain ⟨e1, e2⟩ := rt_i h
    exact g_iret (pc := 9) X Y.2.2.1 (Nat.le_of_ble_eq_true rfl) (Nat.le_of_ble_eq_true rfl) e1 e2 dX8_item_9

def f_X8_rest (v0 : Nat) (v1 : Int32) (v2 : Int32) (w : Wd) : Option (Int32 × Wd) := (bd2 (f_X8_isSlot v1 w) fun r1 w2 =>
 (if r1 = 0 then
 some ((-1000000001), w2)
 else
 (if wK w2 v0 = 8 then
 (bd1 (wR w2 v0 7) fun a5 =>
 (if aK 15 w2 a5 v1 = true then
 (bd1 (wR w2 a5 (nx v1)) fun a8 =>
 (if wK w2 a8 = 5 then
 (if (wI w2 a8 0) = 0 then
 some ((-1000000011), w2)
 else
 (if (wI w2 a8 0) = 3 then
 (if v2 = 0 then
 some ((-1000000002), w2)
 else
 (if ¬ v2 = 0 then
 some (irem (wI w2 a8 3) v2, w2)
 else none))
 else
 some ((-1000000012), w2)))
 else none))
 else none))
 else none)))
theorem c_X8_rest {l : Launch} {V : Vt} {v0 : Nat} {v1 : Int32} {v2 : Int32} {w w' : Wd} {r : Int32} (h : f_X8_rest v0 v1 v2 w = some (r, w')) : MetW l V yX8_rest cX8_rest 4 (some .int) { frames := 2, cells := 0, slots := 0, locals := 42 } w [rf V v0, .int v1, .int v2] (some (.int r)) w' 0 0 := by
  refine g_start (by decide) (Nat.le_of_ble_eq_true rfl) ?_
  intro t _ hrm X hret hnm
  have Y : Hd_ t V cX8_rest 4 RX8 { frames := 2, cells := 0, slots := 0, locals := 42 } (some .int) "rest" := ⟨X, hrm, hret, hnm⟩
  refine g_as (lv' := [(0, rf V v0), (1, .int v1), (2, .int v2)]) (st' := []) rfl rfl ?_
  unfold f_X8_rest at h
  refine g_iload_n (pc := 0) X 1 rfl dX8_rest_0 ?_
  obtain ⟨r1, w2, h3, h⟩ := bd2_i h
  refine g_callS (pc := 1) X mk_X8_isSlot q_970 q_969 (c_X8_isSlot h3) rfl rfl (by rw [Y.2.1]; decide)  rfl (rest := []) rfl (Nat.le_of_ble_eq_true rfl) (by rw [Y.2.1]; exact ⟨Nat.le_of_ble_eq_true rfl, Nat.le_of_ble_eq_true rfl⟩) dX8_rest_1 (st' := [.int r1]) rfl ?_
  refine g_if_ne (pc := 4) X (tgt := 10) dX8_rest_4 rfl (fun c => ?_) (fun c => ?_)
  · have h := br_n c h
    refine g_aload_n (pc := 10) X 0 rfl dX8_rest_10 ?_
    obtain ⟨k4, h⟩ := gd_i h
    obtain ⟨a5, e6, h⟩ := bd1_i h
    refine g_getR (pc := 11) X FcX8 k4 7 e6 (by decide) rfl q_328 dX8_rest_11 ?_
    refine g_iload_n (pc := 14) X 1 rfl dX8_rest_14 ?_
    obtain ⟨k7, h⟩ := gd_i h
    obtain ⟨a8, e9, h⟩ := bd1_i h
    refine g_aald (pc := 15) X (C := RX5) k7 (by decide) (by decide) rfl e9 dX8_rest_15 ?_
    refine g_astore_n (pc := 16) X (lv' := [(3, rf V a8), (0, rf V v0), (1, .int v1), (2, .int v2)]) dX8_rest_16 (by decide) rfl ?_
    refine g_aload_n (pc := 17) X 0 rfl dX8_rest_17 ?_
    obtain ⟨k10, h⟩ := gd_i h
    refine g_getI (pc := 18) X FcX5 k10 0 (by decide) rfl q_306 dX8_rest_18 ?_
    refine g_if_ne (pc := 21) X (tgt := 28) dX8_rest_21 rfl (fun c => ?_) (fun c => ?_)
    · have h := br_n c h
      refine g_aload_n (pc := 28) X 0 rfl dX8_rest_28 ?_
      refine g_getI (pc := 29) X FcX5 k10 0 (by decide) rfl q_306 dX8_rest_29 ?_
      refine g_iconst (pc := 32) X (v := 3) dX8_rest_32 rfl ?_
      refine g_icmp_eq (pc := 33) X (tgt := 39) dX8_rest_33 rfl (fun c => ?_) (fun c => ?_)
      · have h := br_y c h
        refine g_iload_n (pc := 39) X 3 rfl dX8_rest_39 ?_
        refine g_if_ne (pc := 40) X (tgt := 48) dX8_rest_40 rfl (fun c => ?_) (fun c => ?_)
        · have h := br_n c h
          refine g_aload_n (pc := 48) X 0 rfl dX8_rest_48 ?_
          refine g_getI (pc := 49) X FcX5 k10 3 (by decide) rfl q_311 dX8_rest_49 ?_
          refine g_iload_n (pc := 52) X 3 rfl dX8_rest_52 ?_
          obtain ⟨k11, h⟩ := gd_i h
          refine g_irem (pc := 53) X k11 dX8_rest_53 ?_
          obtain ⟨e1, e2⟩ := rt_i h
          exact g_iret (pc := 54) X Y.2.2.1 (Nat.le_of_ble_eq_true rfl) (Nat.le_of_ble_eq_true rfl) e1 e2 dX8_rest_54
        · have h := br_y c h
          refine g_ldc (pc := 43) X q_470 dX8_rest_43 ?_
          refine g_goto (pc := 45) X (tgt := 54) dX8_rest_45 rfl ?_
          obtain ⟨e1, e2⟩ := rt_i h
          exact g_iret (pc := 54) X Y.2.2.1 (Nat.le_of_ble_eq_true rfl) (Nat.le_of_ble_eq_true rfl) e1 e2 dX8_rest_54
      · have h := br_n c h
        refine g_ldc (pc := 36) X q_464 dX8_rest_36 ?_
        obtain ⟨e1, e2⟩ := rt_i h
        exact g_iret (pc := 38) X Y.2.2.1 (Nat.le_of_ble_eq_true rfl) (Nat.le_of_ble_eq_true rfl) e1 e2 dX8_rest_38
    · have h := br_y c h
      refine g_ldcw (pc := 24) X q_676 dX8_rest_24 ?_
      obtain ⟨e1, e2⟩ := rt_i h
      exact g_iret (pc := 27) X Y.2.2.1 (Nat.le_of_ble_eq_true rfl) (Nat.le_of_ble_eq_true rfl) e1 e2 dX8_rest_27
  · have h := br_y c h
    refine g_ldc (pc := 7) X q_359 dX8_rest_7 ?_
    obtain ⟨e1, e2⟩ := rt_i h
    exact g_iret (pc := 9) X Y.2.2.1 (Nat.le_of_ble_eq_true rfl) (Nat.le_of_ble_eq_true rfl) e1 e2 dX8_rest_9

def f_X8_tell (v0 : Nat) (v1 : Int32) (w : Wd) : Option (Int32 × Wd) := (if wK w v0 = 8 then
 (if (wI w v0 9) < 60 then
 (bd1 (wR w v0 8) fun a2 =>
 (if aK 11 w a2 (wI w v0 9) = true then
 (lb_ (sI w a2 (nx (wI w v0 9)) v1) fun w5 =>
 (lb_ (sI w5 v0 9 ((wI w5 v0 9) + 1)) fun w7 =>
 some (wI w7 v0 9, w7)))
 else none))
 else
 some ((-1000000003), w))
 else none)
theorem c_X8_tell {l : Launch} {V : Vt} {v0 : Nat} {v1 : Int32} {w w' : Wd} {r : Int32} (h : f_X8_tell v0 v1 w = some (r, w')) : MetW l V yX8_tell cX8_tell 2 (some .int) { frames := 0, cells := 0, slots := 0, locals := 0 } w [rf V v0, .int v1] (some (.int r)) w' 0 0 := by
  refine g_start (by decide) (Nat.le_of_ble_eq_true rfl) ?_
  intro t _ hrm X hret hnm
  have Y : Hd_ t V cX8_tell 2 RX8 { frames := 0, cells := 0, slots := 0, locals := 0 } (some .int) "tell" := ⟨X, hrm, hret, hnm⟩
  refine g_as (lv' := [(0, rf V v0), (1, .int v1)]) (st' := []) rfl rfl ?_
  unfold f_X8_tell at h
  refine g_aload_n (pc := 0) X 0 rfl dX8_tell_0 ?_
  obtain ⟨k1, h⟩ := gd_i h
  refine g_getI (pc := 1) X FcX8 k1 9 (by decide) rfl q_330 dX8_tell_1 ?_
  refine g_bipush (pc := 4) X (v := 60) dX8_tell_4 rfl ?_
  refine g_icmp_lt (pc := 6) X (tgt := 12) dX8_tell_6 rfl (fun c => ?_) (fun c => ?_)
  · have h := br_y c h
    refine g_aload_n (pc := 12) X 0 rfl dX8_tell_12 ?_
    obtain ⟨a2, e3, h⟩ := bd1_i h
    refine g_getR (pc := 13) X FcX8 k1 8 e3 (by decide) rfl q_329 dX8_tell_13 ?_
    refine g_aload_n (pc := 16) X 0 rfl dX8_tell_16 ?_
    refine g_getI (pc := 17) X FcX8 k1 9 (by decide) rfl q_330 dX8_tell_17 ?_
    refine g_iload_n (pc := 20) X 1 rfl dX8_tell_20 ?_
    obtain ⟨k4, h⟩ := gd_i h
    refine g_iast (pc := 21) X k4 dX8_tell_21 ?_
    obtain ⟨w5, e6, h⟩ := lb_i h
    refine g_w e6 ?_
    refine g_aload_n (pc := 22) X 0 rfl dX8_tell_22 ?_
    refine g_dup (pc := 23) X rfl dX8_tell_23 ?_
    refine g_getI (pc := 24) X FcX8 (kd_I e6 k1) 9 (by decide) rfl q_330 dX8_tell_24 ?_
    refine g_iconst (pc := 27) X (v := 1) dX8_tell_27 rfl ?_
    refine g_iadd (pc := 28) X dX8_tell_28 ?_
    refine g_putI (pc := 29) X FcX8 (kd_I e6 k1) 9 (by decide) rfl q_330 rfl rfl rfl dX8_tell_29 ?_
    obtain ⟨w7, e8, h⟩ := lb_i h
    refine g_w e8 ?_
    refine g_aload_n (pc := 32) X 0 rfl dX8_tell_32 ?_
    refine g_getI (pc := 33) X FcX8 (kd_I e8 (kd_I e6 k1)) 9 (by decide) rfl q_330 dX8_tell_33 ?_
    obtain ⟨e1, e2⟩ := rt_i h
    exact g_iret (pc := 36) X Y.2.2.1 (Nat.le_of_ble_eq_true rfl) (Nat.le_of_ble_eq_true rfl) e1 e2 dX8_tell_36
  · have h := br_n c h
    refine g_ldc (pc := 9) X q_692 dX8_tell_9 ?_
    obtain ⟨e1, e2⟩ := rt_i h
    exact g_iret (pc := 11) X Y.2.2.1 (Nat.le_of_ble_eq_true rfl) (Nat.le_of_ble_eq_true rfl) e1 e2 dX8_tell_11

def L_X8_compare_16  (n : Nat) (v0 : Nat) (v1 : Int32) (v2 : Int32) (v3 : Int32) (v4 : Int32) (w : Wd) : Option (Int32 × Wd) := match n with
  | 0 => none
  | n + 1 => (if v2 ≤ v4 then
 some ((if v1 ≤ v3 then 0 else 1 + v3 : Int32), w)
 else
 (if wK w v0 = 8 then
 (bd1 (wR w v0 2) fun a11 =>
 (if wK w a11 = 1 then
 (bd2 (f_X1_passOne a11 w) fun r14 w15 =>
 (if v1 ≤ v3 then
 some (1 + v3, w15)
 else
 (if wK w15 v0 = 8 then
 (bd1 (wR w15 v0 8) fun a18 =>
 (if aK 11 w15 a18 v3 = true then
 (bd1 (wR w15 v0 2) fun a21 =>
 (if wK w15 a21 = 1 then
 (bd2 (f_X1_taken a21 w15) fun r24 w25 =>
 (if (wI w15 a18 (nx v3)) = r24 then
 (lb_ (v3 + 1) fun x27 =>
 (if v1 ≤ x27 then
 some (1 + x27, w25)
 else
 (if wK w25 v0 = 8 then
 (bd1 (wR w25 v0 8) fun a30 =>
 (if aK 11 w25 a30 x27 = true then
 (bd1 (wR w25 v0 2) fun a33 =>
 (if wK w25 a33 = 1 then
 (if (wI w25 a30 (nx x27)) = (wI w25 a33 5) then
 (lb_ (x27 + 1) fun x36 =>
 (lb_ (v4 + 1) fun x38 =>
 L_X8_compare_16 n v0 v1 v2 x36 x38 w25))
 else
 some (1 + x27, w25))
 else none))
 else none))
 else none)))
 else
 some (1 + v3, w25)))
 else none))
 else none))
 else none)))
 else none))
 else none))
theorem bL_X8_compare_16 {t : Ct} {V : Vt} {r : Int32} {w' : Wd} (Y : Hd_ t V cX8_compare 5 RX8 { frames := 6, cells := 0, slots := 0, locals := 139 } (some .int) "compare") : ∀ {n : Nat} {v0 : Nat} {v1 : Int32} {v2 : Int32} {v3 : Int32} {v4 : Int32} {w : Wd}, L_X8_compare_16  n v0 v1 v2 v3 v4 w = some (r, w') → Gd t V 5 0 0 (Qe t V (some (.int r)) w' 0 0) 16 [(0, rf V v0), (1, .int v1), (2, .int v2), (3, .int v3), (4, .int v4)] [] w := by
  have X := Y.1
  intro n
  induction n with
  | zero => intro v0 v1 v2 v3 v4 w h; cases h
  | succ n ih0 =>
    have ih : ∀ (v0 : Nat) (v1 : Int32) (v2 : Int32) (v3 : Int32) (v4 : Int32) (w : Wd), L_X8_compare_16  n v0 v1 v2 v3 v4 w = some (r, w') → Gd t V 5 0 0 (Qe t V (some (.int r)) w' 0 0) 16 [(0, rf V v0), (1, .int v1), (2, .int v2), (3, .int v3), (4, .int v4)] [] w := fun v0 v1 v2 v3 v4 w h => ih0 h
    clear ih0
    intro v0 v1 v2 v3 v4 w h
    unfold L_X8_compare_16 at h
    refine g_iload (pc := 16) X 4 rfl dX8_compare_16 ?_
    refine g_iload_n (pc := 18) X 2 rfl dX8_compare_18 ?_
    refine g_icmp_ge (pc := 19) X (tgt := 92) dX8_compare_19 rfl (fun c => ?_) (fun c => ?_)
    · have h := br_y c h
      refine g_iload_n (pc := 92) X 3 rfl dX8_compare_92 ?_
      refine g_iload_n (pc := 93) X 1 rfl dX8_compare_93 ?_
      have kJ : Gd t V 5 0 0 (Qe t V (some (.int r)) w' 0 0) 104 [(0, rf V v0), (1, .int v1), (2, .int v2), (3, .int v3), (4, .int v4)] [.int (if v1 ≤ v3 then 0 else 1 + v3 : Int32)] w := by
        obtain ⟨e1, e2⟩ := rt_i h
        exact g_iret (pc := 104) X Y.2.2.1 (Nat.le_of_ble_eq_true rfl) (Nat.le_of_ble_eq_true rfl) e1 e2 dX8_compare_104
      refine g_icmp_ge (pc := 94) X (tgt := 103) dX8_compare_94 rfl (fun c0 => ?_) (fun c0 => ?_)
      · refine g_iconst (pc := 103) X (v := 0) dX8_compare_103 rfl ?_
        exact g_top (by rw [if_pos c0]) kJ
      · refine g_iconst (pc := 97) X (v := 1) dX8_compare_97 rfl ?_
        refine g_iload_n (pc := 98) X 3 rfl dX8_compare_98 ?_
        refine g_iadd (pc := 99) X dX8_compare_99 ?_
        refine g_goto (pc := 100) X (tgt := 104) dX8_compare_100 rfl ?_
        exact g_top (by rw [if_neg c0]) kJ
    · have h := br_n c h
      refine g_aload_n (pc := 22) X 0 rfl dX8_compare_22 ?_
      obtain ⟨k10, h⟩ := gd_i h
      obtain ⟨a11, e12, h⟩ := bd1_i h
      refine g_getR (pc := 23) X FcX8 k10 2 e12 (by decide) rfl q_323 dX8_compare_23 ?_
      obtain ⟨k13, h⟩ := gd_i h
      obtain ⟨r14, w15, h16, h⟩ := bd2_i h
      refine g_callV (pc := 26) X FcX1 k13 mk_X1_passOne q_552 q_553 q_660 (c_X1_passOne h16) rfl rfl (by rw [Y.2.1]; decide)  rfl (rest := []) rfl (Nat.le_of_ble_eq_true rfl) (by rw [Y.2.1]; exact ⟨Nat.le_of_ble_eq_true rfl, Nat.le_of_ble_eq_true rfl⟩) dX8_compare_26 (st' := [.int r14]) rfl ?_
      refine g_pop (pc := 29) X rfl dX8_compare_29 ?_
      refine g_iload_n (pc := 30) X 3 rfl dX8_compare_30 ?_
      refine g_iload_n (pc := 31) X 1 rfl dX8_compare_31 ?_
      refine g_icmp_ge (pc := 32) X (tgt := 51) dX8_compare_32 rfl (fun c => ?_) (fun c => ?_)
      · have h := br_y c h
        refine g_iconst (pc := 51) X (v := 1) dX8_compare_51 rfl ?_
        refine g_iload_n (pc := 52) X 3 rfl dX8_compare_52 ?_
        refine g_iadd (pc := 53) X dX8_compare_53 ?_
        obtain ⟨e1, e2⟩ := rt_i h
        exact g_iret (pc := 54) X Y.2.2.1 (Nat.le_of_ble_eq_true rfl) (Nat.le_of_ble_eq_true rfl) e1 e2 dX8_compare_54
      · have h := br_n c h
        refine g_aload_n (pc := 35) X 0 rfl dX8_compare_35 ?_
        obtain ⟨k17, h⟩ := gd_i h
        obtain ⟨a18, e19, h⟩ := bd1_i h
        refine g_getR (pc := 36) X FcX8 k17 8 e19 (by decide) rfl q_329 dX8_compare_36 ?_
        refine g_iload_n (pc := 39) X 3 rfl dX8_compare_39 ?_
        obtain ⟨k20, h⟩ := gd_i h
        refine g_iald (pc := 40) X k20 dX8_compare_40 ?_
        refine g_aload_n (pc := 41) X 0 rfl dX8_compare_41 ?_
        obtain ⟨a21, e22, h⟩ := bd1_i h
        refine g_getR (pc := 42) X FcX8 k17 2 e22 (by decide) rfl q_323 dX8_compare_42 ?_
        obtain ⟨k23, h⟩ := gd_i h
        obtain ⟨r24, w25, h26, h⟩ := bd2_i h
        refine g_callV (pc := 45) X FcX1 k23 mk_X1_taken q_425 q_426 q_583 (c_X1_taken h26) rfl rfl (by rw [Y.2.1]; decide)  rfl (rest := [.int (wI w15 a18 (nx v3))]) rfl (Nat.le_of_ble_eq_true rfl) (by rw [Y.2.1]; exact ⟨Nat.le_of_ble_eq_true rfl, Nat.le_of_ble_eq_true rfl⟩) dX8_compare_45 (st' := [.int r24, .int (wI w15 a18 (nx v3))]) rfl ?_
        refine g_icmp_eq (pc := 48) X (tgt := 55) dX8_compare_48 rfl (fun c => ?_) (fun c => ?_)
        · have h := br_y c h
          obtain ⟨x27, e28, h⟩ := lb_i h
          refine g_iinc (pc := 55) X 3 rfl dX8_compare_55 (v := x27) e28.symm (by decide) (lv' := [(3, .int x27), (0, rf V v0), (1, .int v1), (2, .int v2), (4, .int v4)]) rfl ?_
          refine g_iload_n (pc := 58) X 0 rfl dX8_compare_58 ?_
          refine g_iload_n (pc := 59) X 2 rfl dX8_compare_59 ?_
          refine g_icmp_ge (pc := 60) X (tgt := 79) dX8_compare_60 rfl (fun c => ?_) (fun c => ?_)
          · have h := br_y c h
            refine g_iconst (pc := 79) X (v := 1) dX8_compare_79 rfl ?_
            refine g_iload_n (pc := 80) X 0 rfl dX8_compare_80 ?_
            refine g_iadd (pc := 81) X dX8_compare_81 ?_
            obtain ⟨e1, e2⟩ := rt_i h
            exact g_iret (pc := 82) X Y.2.2.1 (Nat.le_of_ble_eq_true rfl) (Nat.le_of_ble_eq_true rfl) e1 e2 dX8_compare_82
          · have h := br_n c h
            refine g_aload_n (pc := 63) X 1 rfl dX8_compare_63 ?_
            obtain ⟨k29, h⟩ := gd_i h
            obtain ⟨a30, e31, h⟩ := bd1_i h
            refine g_getR (pc := 64) X FcX8 k29 8 e31 (by decide) rfl q_329 dX8_compare_64 ?_
            refine g_iload_n (pc := 67) X 0 rfl dX8_compare_67 ?_
            obtain ⟨k32, h⟩ := gd_i h
            refine g_iald (pc := 68) X k32 dX8_compare_68 ?_
            refine g_aload_n (pc := 69) X 1 rfl dX8_compare_69 ?_
            obtain ⟨a33, e34, h⟩ := bd1_i h
            refine g_getR (pc := 70) X FcX8 k29 2 e34 (by decide) rfl q_323 dX8_compare_70 ?_
            obtain ⟨k35, h⟩ := gd_i h
            refine g_getI (pc := 73) X FcX1 k35 5 (by decide) rfl q_170 dX8_compare_73 ?_
            refine g_icmp_eq (pc := 76) X (tgt := 83) dX8_compare_76 rfl (fun c => ?_) (fun c => ?_)
            · have h := br_y c h
              obtain ⟨x36, e37, h⟩ := lb_i h
              refine g_iinc (pc := 83) X 0 rfl dX8_compare_83 (v := x36) e37.symm (by decide) (lv' := [(3, .int x36), (0, rf V v0), (1, .int v1), (2, .int v2), (4, .int v4)]) rfl ?_
              obtain ⟨x38, e39, h⟩ := lb_i h
              refine g_iinc (pc := 86) X 4 rfl dX8_compare_86 (v := x38) e39.symm (by decide) (lv' := [(4, .int x38), (3, .int x36), (0, rf V v0), (1, .int v1), (2, .int v2)]) rfl ?_
              refine g_goto (pc := 89) X (tgt := 16) dX8_compare_89 rfl ?_
              refine g_sub (lv' := [(0, rf V v0), (1, .int v1), (2, .int v2), (3, .int x36), (4, .int x38)]) [2, 3, 4, 1, 0] rfl ?_
              exact ih _ _ _ _ _ _ h
            · have h := br_n c h
              refine g_iconst (pc := 79) X (v := 1) dX8_compare_79 rfl ?_
              refine g_iload_n (pc := 80) X 0 rfl dX8_compare_80 ?_
              refine g_iadd (pc := 81) X dX8_compare_81 ?_
              obtain ⟨e1, e2⟩ := rt_i h
              exact g_iret (pc := 82) X Y.2.2.1 (Nat.le_of_ble_eq_true rfl) (Nat.le_of_ble_eq_true rfl) e1 e2 dX8_compare_82
        · have h := br_n c h
          refine g_iconst (pc := 51) X (v := 1) dX8_compare_51 rfl ?_
          refine g_iload_n (pc := 52) X 3 rfl dX8_compare_52 ?_
          refine g_iadd (pc := 53) X dX8_compare_53 ?_
          obtain ⟨e1, e2⟩ := rt_i h
          exact g_iret (pc := 54) X Y.2.2.1 (Nat.le_of_ble_eq_true rfl) (Nat.le_of_ble_eq_true rfl) e1 e2 dX8_compare_54

def f_X8_compare (v0 : Nat) (v1 : Int32) (v2 : Int32) (w : Wd) : Option (Int32 × Wd) := (if wK w v0 = 8 then
 (bd1 (wR w v0 2) fun a2 =>
 (bd1 (wR w v0 1) fun a4 =>
 (if wK w a2 = 1 then
 (bd2 (f_X1_become a2 a4 w) fun r7 w8 =>
 L_X8_compare_16 FU v0 v1 v2 0 0 w8)
 else none)))
 else none)
theorem c_X8_compare {l : Launch} {V : Vt} {v0 : Nat} {v1 : Int32} {v2 : Int32} {w w' : Wd} {r : Int32} (h : f_X8_compare v0 v1 v2 w = some (r, w')) : MetW l V yX8_compare cX8_compare 5 (some .int) { frames := 6, cells := 0, slots := 0, locals := 139 } w [rf V v0, .int v1, .int v2] (some (.int r)) w' 0 0 := by
  refine g_start (by decide) (Nat.le_of_ble_eq_true rfl) ?_
  intro t _ hrm X hret hnm
  have Y : Hd_ t V cX8_compare 5 RX8 { frames := 6, cells := 0, slots := 0, locals := 139 } (some .int) "compare" := ⟨X, hrm, hret, hnm⟩
  refine g_as (lv' := [(0, rf V v0), (1, .int v1), (2, .int v2)]) (st' := []) rfl rfl ?_
  unfold f_X8_compare at h
  refine g_aload_n (pc := 0) X 0 rfl dX8_compare_0 ?_
  obtain ⟨k1, h⟩ := gd_i h
  obtain ⟨a2, e3, h⟩ := bd1_i h
  refine g_getR (pc := 1) X FcX8 k1 2 e3 (by decide) rfl q_323 dX8_compare_1 ?_
  refine g_aload_n (pc := 4) X 0 rfl dX8_compare_4 ?_
  obtain ⟨a4, e5, h⟩ := bd1_i h
  refine g_getR (pc := 5) X FcX8 k1 1 e5 (by decide) rfl q_322 dX8_compare_5 ?_
  obtain ⟨k6, h⟩ := gd_i h
  obtain ⟨r7, w8, h9, h⟩ := bd2_i h
  refine g_callV (pc := 8) X FcX1 k6 mk_X1_become q_637 q_638 q_636 (c_X1_become h9) rfl rfl (by rw [Y.2.1]; decide)  rfl (rest := []) rfl (Nat.le_of_ble_eq_true rfl) (by rw [Y.2.1]; exact ⟨Nat.le_of_ble_eq_true rfl, Nat.le_of_ble_eq_true rfl⟩) dX8_compare_8 (st' := []) rfl ?_
  refine g_iconst (pc := 11) X (v := 0) dX8_compare_11 rfl ?_
  refine g_istore_n (pc := 12) X (lv' := [(3, .int 0), (0, rf V v0), (1, .int v1), (2, .int v2)]) dX8_compare_12 (by decide) rfl ?_
  refine g_iconst (pc := 13) X (v := 0) dX8_compare_13 rfl ?_
  refine g_istore (pc := 14) X (lv' := [(4, .int 0), (3, .int 0), (0, rf V v0), (1, .int v1), (2, .int v2)]) dX8_compare_14 (by decide) rfl ?_
  refine g_sub (lv' := [(0, rf V v0), (1, .int v1), (2, .int v2), (3, .int 0), (4, .int 0)]) [2, 3, 4, 1, 0] rfl ?_
  exact bL_X8_compare_16 Y  h

def f_X8_check (v0 : Nat) (v1 : Int32) (w : Wd) : Option (Int32 × Wd) := (if wK w v0 = 8 then
 (lb_ (wI w v0 9) fun x2 =>
 (lb_ (sI w v0 9 0) fun w4 =>
 (bd2 (f_X8_isWithin v1 1 30 w4) fun r6 w7 =>
 (if r6 = 0 then
 some ((-1000000001), w7)
 else
 (if wK w7 v0 = 8 then
 (if (wI w7 v0 3) = 0 then
 some ((-1000000002), w7)
 else
 (bd1 (wR w7 v0 1) fun a10 =>
 (if wK w7 a10 = 1 then
 (bd2 (f_X8_compare v0 x2 (if 9999 - (wI w7 a10 6) < v1 then 9999 - (wI w7 a10 6) else v1) w7) fun r13 w14 =>
 some (r13, w14))
 else none)))
 else none)))))
 else none)
theorem c_X8_check {l : Launch} {V : Vt} {v0 : Nat} {v1 : Int32} {w w' : Wd} {r : Int32} (h : f_X8_check v0 v1 w = some (r, w')) : MetW l V yX8_check cX8_check 3 (some .int) { frames := 7, cells := 0, slots := 0, locals := 163 } w [rf V v0, .int v1] (some (.int r)) w' 0 0 := by
  refine g_start (by decide) (Nat.le_of_ble_eq_true rfl) ?_
  intro t _ hrm X hret hnm
  have Y : Hd_ t V cX8_check 3 RX8 { frames := 7, cells := 0, slots := 0, locals := 163 } (some .int) "check" := ⟨X, hrm, hret, hnm⟩
  refine g_as (lv' := [(0, rf V v0), (1, .int v1)]) (st' := []) rfl rfl ?_
  unfold f_X8_check at h
  refine g_aload_n (pc := 0) X 0 rfl dX8_check_0 ?_
  obtain ⟨k1, h⟩ := gd_i h
  refine g_getI (pc := 1) X FcX8 k1 9 (by decide) rfl q_330 dX8_check_1 ?_
  obtain ⟨x2, e3, h⟩ := lb_i h
  refine g_top e3 ?_
  refine g_istore_n (pc := 4) X (lv' := [(2, .int x2), (0, rf V v0), (1, .int v1)]) dX8_check_4 (by decide) rfl ?_
  refine g_aload_n (pc := 5) X 1 rfl dX8_check_5 ?_
  refine g_iconst (pc := 6) X (v := 0) dX8_check_6 rfl ?_
  refine g_putI (pc := 7) X FcX8 k1 9 (by decide) rfl q_330 rfl rfl rfl dX8_check_7 ?_
  obtain ⟨w4, e5, h⟩ := lb_i h
  refine g_w e5 ?_
  refine g_iload_n (pc := 10) X 2 rfl dX8_check_10 ?_
  refine g_iconst (pc := 11) X (v := 1) dX8_check_11 rfl ?_
  refine g_bipush (pc := 12) X (v := 30) dX8_check_12 rfl ?_
  obtain ⟨r6, w7, h8, h⟩ := bd2_i h
  refine g_callS (pc := 14) X mk_X8_isWithin q_357 q_356 (c_X8_isWithin h8) rfl rfl (by rw [Y.2.1]; decide)  rfl (rest := []) rfl (Nat.le_of_ble_eq_true rfl) (by rw [Y.2.1]; exact ⟨Nat.le_of_ble_eq_true rfl, Nat.le_of_ble_eq_true rfl⟩) dX8_check_14 (st' := [.int r6]) rfl ?_
  refine g_if_ne (pc := 17) X (tgt := 23) dX8_check_17 rfl (fun c => ?_) (fun c => ?_)
  · have h := br_n c h
    refine g_aload_n (pc := 23) X 1 rfl dX8_check_23 ?_
    obtain ⟨k9, h⟩ := gd_i h
    refine g_getI (pc := 24) X FcX8 k9 3 (by decide) rfl q_324 dX8_check_24 ?_
    refine g_if_eq (pc := 27) X (tgt := 53) dX8_check_27 rfl (fun c => ?_) (fun c => ?_)
    · have h := br_y c h
      refine g_ldc (pc := 53) X q_470 dX8_check_53 ?_
      obtain ⟨e1, e2⟩ := rt_i h
      exact g_iret (pc := 55) X Y.2.2.1 (Nat.le_of_ble_eq_true rfl) (Nat.le_of_ble_eq_true rfl) e1 e2 dX8_check_55
    · have h := br_n c h
      refine g_aload_n (pc := 30) X 1 rfl dX8_check_30 ?_
      refine g_iload_n (pc := 31) X 0 rfl dX8_check_31 ?_
      refine g_iload_n (pc := 32) X 2 rfl dX8_check_32 ?_
      refine g_sipush (pc := 33) X (v := 9999) dX8_check_33 rfl ?_
      refine g_aload_n (pc := 36) X 1 rfl dX8_check_36 ?_
      obtain ⟨a10, e11, h⟩ := bd1_i h
      refine g_getR (pc := 37) X FcX8 k9 1 e11 (by decide) rfl q_322 dX8_check_37 ?_
      obtain ⟨k12, h⟩ := gd_i h
      refine g_getI (pc := 40) X FcX1 k12 6 (by decide) rfl q_172 dX8_check_40 ?_
      refine g_isub (pc := 43) X dX8_check_43 ?_
      refine g_mmin (pc := 44) X q_531 q_532 q_75 q_533 (by rw [Y.2.1]; decide) (by rw [Y.2.1]; exact Nat.le_of_ble_eq_true rfl) (by rw [Y.2.1]; exact ⟨Nat.le_of_ble_eq_true rfl, Nat.le_of_ble_eq_true rfl⟩) dX8_check_44 ?_
      obtain ⟨r13, w14, h15, h⟩ := bd2_i h
      refine g_callV (pc := 47) X FcX8 k9 mk_X8_compare q_1000 q_22 q_998 (c_X8_compare h15) rfl rfl (by rw [Y.2.1]; decide)  rfl (rest := []) rfl (Nat.le_of_ble_eq_true rfl) (by rw [Y.2.1]; exact ⟨Nat.le_of_ble_eq_true rfl, Nat.le_of_ble_eq_true rfl⟩) dX8_check_47 (st' := [.int r13]) rfl ?_
      refine g_goto (pc := 50) X (tgt := 55) dX8_check_50 rfl ?_
      obtain ⟨e1, e2⟩ := rt_i h
      exact g_iret (pc := 55) X Y.2.2.1 (Nat.le_of_ble_eq_true rfl) (Nat.le_of_ble_eq_true rfl) e1 e2 dX8_check_55
  · have h := br_y c h
    refine g_ldc (pc := 20) X q_359 dX8_check_20 ?_
    obtain ⟨e1, e2⟩ := rt_i h
    exact g_iret (pc := 22) X Y.2.2.1 (Nat.le_of_ble_eq_true rfl) (Nat.le_of_ble_eq_true rfl) e1 e2 dX8_check_22

def f_X8_keep (v0 : Nat) (w : Wd) : Option (Int32 × Wd) := (if wK w v0 = 8 then
 (bd1 (wR w v0 1) fun a2 =>
 (bd1 (wR w v0 0) fun a4 =>
 (if wK w a2 = 1 then
 (bd2 (f_X1_become a2 a4 w) fun r7 w8 =>
 (if wK w8 v0 = 8 then
 (lb_ (sI w8 v0 3 1) fun w11 =>
 (bd1 (wR w11 v0 1) fun a13 =>
 (if wK w11 a13 = 1 then
 some (wI w11 a13 2, w11)
 else none)))
 else none))
 else none)))
 else none)
theorem c_X8_keep {l : Launch} {V : Vt} {v0 : Nat} {w w' : Wd} {r : Int32} (h : f_X8_keep v0 w = some (r, w')) : MetW l V yX8_keep cX8_keep 1 (some .int) { frames := 3, cells := 0, slots := 0, locals := 86 } w [rf V v0] (some (.int r)) w' 0 0 := by
  refine g_start (by decide) (Nat.le_of_ble_eq_true rfl) ?_
  intro t _ hrm X hret hnm
  have Y : Hd_ t V cX8_keep 1 RX8 { frames := 3, cells := 0, slots := 0, locals := 86 } (some .int) "keep" := ⟨X, hrm, hret, hnm⟩
  refine g_as (lv' := [(0, rf V v0)]) (st' := []) rfl rfl ?_
  unfold f_X8_keep at h
  refine g_aload_n (pc := 0) X 0 rfl dX8_keep_0 ?_
  obtain ⟨k1, h⟩ := gd_i h
  obtain ⟨a2, e3, h⟩ := bd1_i h
  refine g_getR (pc := 1) X FcX8 k1 1 e3 (by decide) rfl q_322 dX8_keep_1 ?_
  refine g_aload_n (pc := 4) X 0 rfl dX8_keep_4 ?_
  obtain ⟨a4, e5, h⟩ := bd1_i h
  refine g_getR (pc := 5) X FcX8 k1 0 e5 (by decide) rfl q_321 dX8_keep_5 ?_
  obtain ⟨k6, h⟩ := gd_i h
  obtain ⟨r7, w8, h9, h⟩ := bd2_i h
  refine g_callV (pc := 8) X FcX1 k6 mk_X1_become q_637 q_638 q_636 (c_X1_become h9) rfl rfl (by rw [Y.2.1]; decide)  rfl (rest := []) rfl (Nat.le_of_ble_eq_true rfl) (by rw [Y.2.1]; exact ⟨Nat.le_of_ble_eq_true rfl, Nat.le_of_ble_eq_true rfl⟩) dX8_keep_8 (st' := []) rfl ?_
  refine g_aload_n (pc := 11) X 0 rfl dX8_keep_11 ?_
  refine g_iconst (pc := 12) X (v := 1) dX8_keep_12 rfl ?_
  obtain ⟨k10, h⟩ := gd_i h
  refine g_putI (pc := 13) X FcX8 k10 3 (by decide) rfl q_324 rfl (bz_n (Or.inr rfl)) rfl dX8_keep_13 ?_
  obtain ⟨w11, e12, h⟩ := lb_i h
  refine g_w e12 ?_
  refine g_aload_n (pc := 16) X 0 rfl dX8_keep_16 ?_
  obtain ⟨a13, e14, h⟩ := bd1_i h
  refine g_getR (pc := 17) X FcX8 (kd_I e12 k10) 1 e14 (by decide) rfl q_322 dX8_keep_17 ?_
  obtain ⟨k15, h⟩ := gd_i h
  refine g_getI (pc := 20) X FcX1 k15 2 (by decide) rfl q_162 dX8_keep_20 ?_
  obtain ⟨e1, e2⟩ := rt_i h
  exact g_iret (pc := 23) X Y.2.2.1 (Nat.le_of_ble_eq_true rfl) (Nat.le_of_ble_eq_true rfl) e1 e2 dX8_keep_23

def f_X8_back (v0 : Nat) (w : Wd) : Option (Int32 × Wd) := (if wK w v0 = 8 then
 (if (wI w v0 3) = 0 then
 some ((-1000000002), w)
 else
 (bd1 (wR w v0 0) fun a2 =>
 (bd1 (wR w v0 1) fun a4 =>
 (if wK w a2 = 1 then
 (bd2 (f_X1_become a2 a4 w) fun r7 w8 =>
 (if wK w8 v0 = 8 then
 (bd1 (wR w8 v0 0) fun a11 =>
 (if wK w8 a11 = 1 then
 some (wI w8 a11 2, w8)
 else none))
 else none))
 else none))))
 else none)
theorem c_X8_back {l : Launch} {V : Vt} {v0 : Nat} {w w' : Wd} {r : Int32} (h : f_X8_back v0 w = some (r, w')) : MetW l V yX8_back cX8_back 1 (some .int) { frames := 3, cells := 0, slots := 0, locals := 86 } w [rf V v0] (some (.int r)) w' 0 0 := by
  refine g_start (by decide) (Nat.le_of_ble_eq_true rfl) ?_
  intro t _ hrm X hret hnm
  have Y : Hd_ t V cX8_back 1 RX8 { frames := 3, cells := 0, slots := 0, locals := 86 } (some .int) "back" := ⟨X, hrm, hret, hnm⟩
  refine g_as (lv' := [(0, rf V v0)]) (st' := []) rfl rfl ?_
  unfold f_X8_back at h
  refine g_aload_n (pc := 0) X 0 rfl dX8_back_0 ?_
  obtain ⟨k1, h⟩ := gd_i h
  refine g_getI (pc := 1) X FcX8 k1 3 (by decide) rfl q_324 dX8_back_1 ?_
  refine g_if_ne (pc := 4) X (tgt := 10) dX8_back_4 rfl (fun c => ?_) (fun c => ?_)
  · have h := br_n c h
    refine g_aload_n (pc := 10) X 0 rfl dX8_back_10 ?_
    obtain ⟨a2, e3, h⟩ := bd1_i h
    refine g_getR (pc := 11) X FcX8 k1 0 e3 (by decide) rfl q_321 dX8_back_11 ?_
    refine g_aload_n (pc := 14) X 0 rfl dX8_back_14 ?_
    obtain ⟨a4, e5, h⟩ := bd1_i h
    refine g_getR (pc := 15) X FcX8 k1 1 e5 (by decide) rfl q_322 dX8_back_15 ?_
    obtain ⟨k6, h⟩ := gd_i h
    obtain ⟨r7, w8, h9, h⟩ := bd2_i h
    refine g_callV (pc := 18) X FcX1 k6 mk_X1_become q_637 q_638 q_636 (c_X1_become h9) rfl rfl (by rw [Y.2.1]; decide)  rfl (rest := []) rfl (Nat.le_of_ble_eq_true rfl) (by rw [Y.2.1]; exact ⟨Nat.le_of_ble_eq_true rfl, Nat.le_of_ble_eq_true rfl⟩) dX8_back_18 (st' := []) rfl ?_
    refine g_aload_n (pc := 21) X 0 rfl dX8_back_21 ?_
    obtain ⟨k10, h⟩ := gd_i h
    obtain ⟨a11, e12, h⟩ := bd1_i h
    refine g_getR (pc := 22) X FcX8 k10 0 e12 (by decide) rfl q_321 dX8_back_22 ?_
    obtain ⟨k13, h⟩ := gd_i h
    refine g_getI (pc := 25) X FcX1 k13 2 (by decide) rfl q_162 dX8_back_25 ?_
    obtain ⟨e1, e2⟩ := rt_i h
    exact g_iret (pc := 28) X Y.2.2.1 (Nat.le_of_ble_eq_true rfl) (Nat.le_of_ble_eq_true rfl) e1 e2 dX8_back_28
  · have h := br_y c h
    refine g_ldc (pc := 7) X q_470 dX8_back_7 ?_
    obtain ⟨e1, e2⟩ := rt_i h
    exact g_iret (pc := 9) X Y.2.2.1 (Nat.le_of_ble_eq_true rfl) (Nat.le_of_ble_eq_true rfl) e1 e2 dX8_back_9

def f_X8_count (v0 : Nat) (v1 : Int32) (w : Wd) : Option (Int32 × Wd) := (if v1 = 0 then
 (if wK w v0 = 8 then
 (bd1 (wR w v0 0) fun a3 =>
 (if wK w a3 = 1 then
 some (wI w a3 2, w)
 else none))
 else none)
 else
 (if v1 = 1 then
 (if wK w v0 = 8 then
 (bd1 (wR w v0 0) fun a8 =>
 (if wK w a8 = 1 then
 (bd1 (wR w a8 0) fun a11 =>
 (if wK w a11 = 0 then
 some (wI w a11 0, w)
 else none))
 else none))
 else none)
 else
 (if v1 = 2 then
 (if wK w v0 = 8 then
 (bd1 (wR w v0 0) fun a16 =>
 (if wK w a16 = 1 then
 (bd1 (wR w a16 0) fun a19 =>
 (if wK w a19 = 0 then
 some (wI w a19 1, w)
 else none))
 else none))
 else none)
 else
 (if v1 = 3 then
 (if wK w v0 = 8 then
 (bd1 (wR w v0 0) fun a24 =>
 (if wK w a24 = 1 then
 (bd1 (wR w a24 0) fun a27 =>
 (if wK w a27 = 0 then
 some (wI w a27 2, w)
 else none))
 else none))
 else none)
 else
 (if v1 = 4 then
 (if wK w v0 = 8 then
 (bd1 (wR w v0 0) fun a32 =>
 (if wK w a32 = 1 then
 some (wI w a32 6, w)
 else none))
 else none)
 else
 (if v1 = 5 then
 (if wK w v0 = 8 then
 (bd1 (wR w v0 0) fun a37 =>
 (if wK w a37 = 1 then
 (bd1 (wR w a37 4) fun a40 =>
 (if aK 11 w a40 0 = true then
 some (wI w a40 (nx 0), w)
 else none))
 else none))
 else none)
 else
 (if v1 = 6 then
 (if wK w v0 = 8 then
 (bd1 (wR w v0 0) fun a45 =>
 (if wK w a45 = 1 then
 (bd1 (wR w a45 4) fun a48 =>
 (if aK 11 w a48 1 = true then
 some (wI w a48 (nx 1), w)
 else none))
 else none))
 else none)
 else
 (if v1 = 7 then
 (if wK w v0 = 8 then
 (bd1 (wR w v0 0) fun a53 =>
 (if wK w a53 = 1 then
 (bd1 (wR w a53 4) fun a56 =>
 (if aK 11 w a56 2 = true then
 some (wI w a56 (nx 2), w)
 else none))
 else none))
 else none)
 else
 (if v1 = 8 then
 (if wK w v0 = 8 then
 (bd1 (wR w v0 0) fun a61 =>
 (if wK w a61 = 1 then
 (bd1 (wR w a61 4) fun a64 =>
 (if aK 11 w a64 3 = true then
 some (wI w a64 (nx 3), w)
 else none))
 else none))
 else none)
 else
 (if v1 = 9 then
 (if wK w v0 = 8 then
 (bd1 (wR w v0 0) fun a69 =>
 (if wK w a69 = 1 then
 some (wI w a69 9, w)
 else none))
 else none)
 else
 (if v1 = 10 then
 (if wK w v0 = 8 then
 some (wI w v0 9, w)
 else none)
 else
 (if v1 = 11 then
 (if wK w v0 = 8 then
 (bd1 (wR w v0 5) fun a76 =>
 (if wK w a76 = 6 then
 some (wI w a76 1, w)
 else none))
 else none)
 else
 (if v1 = 12 then
 (if wK w v0 = 8 then
 (bd1 (wR w v0 0) fun a81 =>
 (if wK w a81 = 1 then
 some (wI w a81 7, w)
 else none))
 else none)
 else
 some ((-1000000001), w))))))))))))))
theorem c_X8_count {l : Launch} {V : Vt} {v0 : Nat} {v1 : Int32} {w w' : Wd} {r : Int32} (h : f_X8_count v0 v1 w = some (r, w')) : MetW l V yX8_count cX8_count 2 (some .int) { frames := 0, cells := 0, slots := 0, locals := 0 } w [rf V v0, .int v1] (some (.int r)) w' 0 0 := by
  refine g_start (by decide) (Nat.le_of_ble_eq_true rfl) ?_
  intro t _ hrm X hret hnm
  have Y : Hd_ t V cX8_count 2 RX8 { frames := 0, cells := 0, slots := 0, locals := 0 } (some .int) "count" := ⟨X, hrm, hret, hnm⟩
  refine g_as (lv' := [(0, rf V v0), (1, .int v1)]) (st' := []) rfl rfl ?_
  unfold f_X8_count at h
  refine g_iload_n (pc := 0) X 1 rfl dX8_count_0 ?_
  by_cases c1 : v1 = 0
  · have h := br_y c1 h
    refine g_tswI (pc := 1) X 0 (tgt := 68) dX8_count_1 c1 (by decide) (by decide) rfl rfl ?_
    refine g_aload_n (pc := 68) X 0 rfl dX8_count_68 ?_
    obtain ⟨k2, h⟩ := gd_i h
    obtain ⟨a3, e4, h⟩ := bd1_i h
    refine g_getR (pc := 69) X FcX8 k2 0 e4 (by decide) rfl q_321 dX8_count_69 ?_
    obtain ⟨k5, h⟩ := gd_i h
    refine g_getI (pc := 72) X FcX1 k5 2 (by decide) rfl q_162 dX8_count_72 ?_
    obtain ⟨e1, e2⟩ := rt_i h
    exact g_iret (pc := 75) X Y.2.2.1 (Nat.le_of_ble_eq_true rfl) (Nat.le_of_ble_eq_true rfl) e1 e2 dX8_count_75
  · have h := br_n c1 h
    by_cases c6 : v1 = 1
    · have h := br_y c6 h
      refine g_tswI (pc := 1) X 1 (tgt := 76) dX8_count_1 c6 (by decide) (by decide) rfl rfl ?_
      refine g_aload_n (pc := 76) X 0 rfl dX8_count_76 ?_
      obtain ⟨k7, h⟩ := gd_i h
      obtain ⟨a8, e9, h⟩ := bd1_i h
      refine g_getR (pc := 77) X FcX8 k7 0 e9 (by decide) rfl q_321 dX8_count_77 ?_
      obtain ⟨k10, h⟩ := gd_i h
      obtain ⟨a11, e12, h⟩ := bd1_i h
      refine g_getR (pc := 80) X FcX1 k10 0 e12 (by decide) rfl q_158 dX8_count_80 ?_
      obtain ⟨k13, h⟩ := gd_i h
      refine g_getI (pc := 83) X FcX0 k13 0 (by decide) rfl q_105 dX8_count_83 ?_
      obtain ⟨e1, e2⟩ := rt_i h
      exact g_iret (pc := 86) X Y.2.2.1 (Nat.le_of_ble_eq_true rfl) (Nat.le_of_ble_eq_true rfl) e1 e2 dX8_count_86
    · have h := br_n c6 h
      by_cases c14 : v1 = 2
      · have h := br_y c14 h
        refine g_tswI (pc := 1) X 2 (tgt := 87) dX8_count_1 c14 (by decide) (by decide) rfl rfl ?_
        refine g_aload_n (pc := 87) X 0 rfl dX8_count_87 ?_
        obtain ⟨k15, h⟩ := gd_i h
        obtain ⟨a16, e17, h⟩ := bd1_i h
        refine g_getR (pc := 88) X FcX8 k15 0 e17 (by decide) rfl q_321 dX8_count_88 ?_
        obtain ⟨k18, h⟩ := gd_i h
        obtain ⟨a19, e20, h⟩ := bd1_i h
        refine g_getR (pc := 91) X FcX1 k18 0 e20 (by decide) rfl q_158 dX8_count_91 ?_
        obtain ⟨k21, h⟩ := gd_i h
        refine g_getI (pc := 94) X FcX0 k21 1 (by decide) rfl q_107 dX8_count_94 ?_
        obtain ⟨e1, e2⟩ := rt_i h
        exact g_iret (pc := 97) X Y.2.2.1 (Nat.le_of_ble_eq_true rfl) (Nat.le_of_ble_eq_true rfl) e1 e2 dX8_count_97
      · have h := br_n c14 h
        by_cases c22 : v1 = 3
        · have h := br_y c22 h
          refine g_tswI (pc := 1) X 3 (tgt := 98) dX8_count_1 c22 (by decide) (by decide) rfl rfl ?_
          refine g_aload_n (pc := 98) X 0 rfl dX8_count_98 ?_
          obtain ⟨k23, h⟩ := gd_i h
          obtain ⟨a24, e25, h⟩ := bd1_i h
          refine g_getR (pc := 99) X FcX8 k23 0 e25 (by decide) rfl q_321 dX8_count_99 ?_
          obtain ⟨k26, h⟩ := gd_i h
          obtain ⟨a27, e28, h⟩ := bd1_i h
          refine g_getR (pc := 102) X FcX1 k26 0 e28 (by decide) rfl q_158 dX8_count_102 ?_
          obtain ⟨k29, h⟩ := gd_i h
          refine g_getI (pc := 105) X FcX0 k29 2 (by decide) rfl q_110 dX8_count_105 ?_
          obtain ⟨e1, e2⟩ := rt_i h
          exact g_iret (pc := 108) X Y.2.2.1 (Nat.le_of_ble_eq_true rfl) (Nat.le_of_ble_eq_true rfl) e1 e2 dX8_count_108
        · have h := br_n c22 h
          by_cases c30 : v1 = 4
          · have h := br_y c30 h
            refine g_tswI (pc := 1) X 4 (tgt := 109) dX8_count_1 c30 (by decide) (by decide) rfl rfl ?_
            refine g_aload_n (pc := 109) X 0 rfl dX8_count_109 ?_
            obtain ⟨k31, h⟩ := gd_i h
            obtain ⟨a32, e33, h⟩ := bd1_i h
            refine g_getR (pc := 110) X FcX8 k31 0 e33 (by decide) rfl q_321 dX8_count_110 ?_
            obtain ⟨k34, h⟩ := gd_i h
            refine g_getI (pc := 113) X FcX1 k34 6 (by decide) rfl q_172 dX8_count_113 ?_
            obtain ⟨e1, e2⟩ := rt_i h
            exact g_iret (pc := 116) X Y.2.2.1 (Nat.le_of_ble_eq_true rfl) (Nat.le_of_ble_eq_true rfl) e1 e2 dX8_count_116
          · have h := br_n c30 h
            by_cases c35 : v1 = 5
            · have h := br_y c35 h
              refine g_tswI (pc := 1) X 5 (tgt := 117) dX8_count_1 c35 (by decide) (by decide) rfl rfl ?_
              refine g_aload_n (pc := 117) X 0 rfl dX8_count_117 ?_
              obtain ⟨k36, h⟩ := gd_i h
              obtain ⟨a37, e38, h⟩ := bd1_i h
              refine g_getR (pc := 118) X FcX8 k36 0 e38 (by decide) rfl q_321 dX8_count_118 ?_
              obtain ⟨k39, h⟩ := gd_i h
              obtain ⟨a40, e41, h⟩ := bd1_i h
              refine g_getR (pc := 121) X FcX1 k39 4 e41 (by decide) rfl q_168 dX8_count_121 ?_
              refine g_iconst (pc := 124) X (v := 0) dX8_count_124 rfl ?_
              obtain ⟨k42, h⟩ := gd_i h
              refine g_iald (pc := 125) X k42 dX8_count_125 ?_
              obtain ⟨e1, e2⟩ := rt_i h
              exact g_iret (pc := 126) X Y.2.2.1 (Nat.le_of_ble_eq_true rfl) (Nat.le_of_ble_eq_true rfl) e1 e2 dX8_count_126
            · have h := br_n c35 h
              by_cases c43 : v1 = 6
              · have h := br_y c43 h
                refine g_tswI (pc := 1) X 6 (tgt := 127) dX8_count_1 c43 (by decide) (by decide) rfl rfl ?_
                refine g_aload_n (pc := 127) X 0 rfl dX8_count_127 ?_
                obtain ⟨k44, h⟩ := gd_i h
                obtain ⟨a45, e46, h⟩ := bd1_i h
                refine g_getR (pc := 128) X FcX8 k44 0 e46 (by decide) rfl q_321 dX8_count_128 ?_
                obtain ⟨k47, h⟩ := gd_i h
                obtain ⟨a48, e49, h⟩ := bd1_i h
                refine g_getR (pc := 131) X FcX1 k47 4 e49 (by decide) rfl q_168 dX8_count_131 ?_
                refine g_iconst (pc := 134) X (v := 1) dX8_count_134 rfl ?_
                obtain ⟨k50, h⟩ := gd_i h
                refine g_iald (pc := 135) X k50 dX8_count_135 ?_
                obtain ⟨e1, e2⟩ := rt_i h
                exact g_iret (pc := 136) X Y.2.2.1 (Nat.le_of_ble_eq_true rfl) (Nat.le_of_ble_eq_true rfl) e1 e2 dX8_count_136
              · have h := br_n c43 h
                by_cases c51 : v1 = 7
                · have h := br_y c51 h
                  refine g_tswI (pc := 1) X 7 (tgt := 137) dX8_count_1 c51 (by decide) (by decide) rfl rfl ?_
                  refine g_aload_n (pc := 137) X 0 rfl dX8_count_137 ?_
                  obtain ⟨k52, h⟩ := gd_i h
                  obtain ⟨a53, e54, h⟩ := bd1_i h
                  refine g_getR (pc := 138) X FcX8 k52 0 e54 (by decide) rfl q_321 dX8_count_138 ?_
                  obtain ⟨k55, h⟩ := gd_i h
                  obtain ⟨a56, e57, h⟩ := bd1_i h
                  refine g_getR (pc := 141) X FcX1 k55 4 e57 (by decide) rfl q_168 dX8_count_141 ?_
                  refine g_iconst (pc := 144) X (v := 2) dX8_count_144 rfl ?_
                  obtain ⟨k58, h⟩ := gd_i h
                  refine g_iald (pc := 145) X k58 dX8_count_145 ?_
                  obtain ⟨e1, e2⟩ := rt_i h
                  exact g_iret (pc := 146) X Y.2.2.1 (Nat.le_of_ble_eq_true rfl) (Nat.le_of_ble_eq_true rfl) e1 e2 dX8_count_146
                · have h := br_n c51 h
                  by_cases c59 : v1 = 8
                  · have h := br_y c59 h
                    refine g_tswI (pc := 1) X 8 (tgt := 147) dX8_count_1 c59 (by decide) (by decide) rfl rfl ?_
                    refine g_aload_n (pc := 147) X 0 rfl dX8_count_147 ?_
                    obtain ⟨k60, h⟩ := gd_i h
                    obtain ⟨a61, e62, h⟩ := bd1_i h
                    refine g_getR (pc := 148) X FcX8 k60 0 e62 (by decide) rfl q_321 dX8_count_148 ?_
                    obtain ⟨k63, h⟩ := gd_i h
                    obtain ⟨a64, e65, h⟩ := bd1_i h
                    refine g_getR (pc := 151) X FcX1 k63 4 e65 (by decide) rfl q_168 dX8_count_151 ?_
                    refine g_iconst (pc := 154) X (v := 3) dX8_count_154 rfl ?_
                    obtain ⟨k66, h⟩ := gd_i h
                    refine g_iald (pc := 155) X k66 dX8_count_155 ?_
                    obtain ⟨e1, e2⟩ := rt_i h
                    exact g_iret (pc := 156) X Y.2.2.1 (Nat.le_of_ble_eq_true rfl) (Nat.le_of_ble_eq_true rfl) e1 e2 dX8_count_156
                  · have h := br_n c59 h
                    by_cases c67 : v1 = 9
                    · have h := br_y c67 h
                      refine g_tswI (pc := 1) X 9 (tgt := 157) dX8_count_1 c67 (by decide) (by decide) rfl rfl ?_
                      refine g_aload_n (pc := 157) X 0 rfl dX8_count_157 ?_
                      obtain ⟨k68, h⟩ := gd_i h
                      obtain ⟨a69, e70, h⟩ := bd1_i h
                      refine g_getR (pc := 158) X FcX8 k68 0 e70 (by decide) rfl q_321 dX8_count_158 ?_
                      obtain ⟨k71, h⟩ := gd_i h
                      refine g_getI (pc := 161) X FcX1 k71 9 (by decide) rfl q_178 dX8_count_161 ?_
                      obtain ⟨e1, e2⟩ := rt_i h
                      exact g_iret (pc := 164) X Y.2.2.1 (Nat.le_of_ble_eq_true rfl) (Nat.le_of_ble_eq_true rfl) e1 e2 dX8_count_164
                    · have h := br_n c67 h
                      by_cases c72 : v1 = 10
                      · have h := br_y c72 h
                        refine g_tswI (pc := 1) X 10 (tgt := 165) dX8_count_1 c72 (by decide) (by decide) rfl rfl ?_
                        refine g_aload_n (pc := 165) X 0 rfl dX8_count_165 ?_
                        obtain ⟨k73, h⟩ := gd_i h
                        refine g_getI (pc := 166) X FcX8 k73 9 (by decide) rfl q_330 dX8_count_166 ?_
                        obtain ⟨e1, e2⟩ := rt_i h
                        exact g_iret (pc := 169) X Y.2.2.1 (Nat.le_of_ble_eq_true rfl) (Nat.le_of_ble_eq_true rfl) e1 e2 dX8_count_169
                      · have h := br_n c72 h
                        by_cases c74 : v1 = 11
                        · have h := br_y c74 h
                          refine g_tswI (pc := 1) X 11 (tgt := 170) dX8_count_1 c74 (by decide) (by decide) rfl rfl ?_
                          refine g_aload_n (pc := 170) X 0 rfl dX8_count_170 ?_
                          obtain ⟨k75, h⟩ := gd_i h
                          obtain ⟨a76, e77, h⟩ := bd1_i h
                          refine g_getR (pc := 171) X FcX8 k75 5 e77 (by decide) rfl q_326 dX8_count_171 ?_
                          obtain ⟨k78, h⟩ := gd_i h
                          refine g_getI (pc := 174) X FcX6 k78 1 (by decide) rfl q_233 dX8_count_174 ?_
                          obtain ⟨e1, e2⟩ := rt_i h
                          exact g_iret (pc := 177) X Y.2.2.1 (Nat.le_of_ble_eq_true rfl) (Nat.le_of_ble_eq_true rfl) e1 e2 dX8_count_177
                        · have h := br_n c74 h
                          by_cases c79 : v1 = 12
                          · have h := br_y c79 h
                            refine g_tswI (pc := 1) X 12 (tgt := 178) dX8_count_1 c79 (by decide) (by decide) rfl rfl ?_
                            refine g_aload_n (pc := 178) X 0 rfl dX8_count_178 ?_
                            obtain ⟨k80, h⟩ := gd_i h
                            obtain ⟨a81, e82, h⟩ := bd1_i h
                            refine g_getR (pc := 179) X FcX8 k80 0 e82 (by decide) rfl q_321 dX8_count_179 ?_
                            obtain ⟨k83, h⟩ := gd_i h
                            refine g_getI (pc := 182) X FcX1 k83 7 (by decide) rfl q_174 dX8_count_182 ?_
                            obtain ⟨e1, e2⟩ := rt_i h
                            exact g_iret (pc := 185) X Y.2.2.1 (Nat.le_of_ble_eq_true rfl) (Nat.le_of_ble_eq_true rfl) e1 e2 dX8_count_185
                          · have h := br_n c79 h
                            refine g_tswO (pc := 1) X (tgt := 186) dX8_count_1 (by have n0 : Int32.toInt v1 ≠ 0 := nt_ c1; have n1 : Int32.toInt v1 ≠ 1 := nt_ c6; have n2 : Int32.toInt v1 ≠ 2 := nt_ c14; have n3 : Int32.toInt v1 ≠ 3 := nt_ c22; have n4 : Int32.toInt v1 ≠ 4 := nt_ c30; have n5 : Int32.toInt v1 ≠ 5 := nt_ c35; have n6 : Int32.toInt v1 ≠ 6 := nt_ c43; have n7 : Int32.toInt v1 ≠ 7 := nt_ c51; have n8 : Int32.toInt v1 ≠ 8 := nt_ c59; have n9 : Int32.toInt v1 ≠ 9 := nt_ c67; have n10 : Int32.toInt v1 ≠ 10 := nt_ c72; have n11 : Int32.toInt v1 ≠ 11 := nt_ c74; have n12 : Int32.toInt v1 ≠ 12 := nt_ c79; omega) rfl ?_
                            refine g_ldc (pc := 186) X q_359 dX8_count_186 ?_
                            obtain ⟨e1, e2⟩ := rt_i h
                            exact g_iret (pc := 188) X Y.2.2.1 (Nat.le_of_ble_eq_true rfl) (Nat.le_of_ble_eq_true rfl) e1 e2 dX8_count_188

set_option maxHeartbeats 4000000 in
set_option maxRecDepth 100000 in
def f_X9_init (v0 : Nat) (w : Wd) : Option (Unit × Wd) := (lb_ (wN w) fun a1 =>
 (lb_ (nC w 11 1444) fun w3 =>
 (if wK w3 v0 = 9 then
 (lb_ (sR w3 v0 0 (some a1)) fun w6 =>
 (lb_ (wN w6) fun a8 =>
 (lb_ (nC w6 11 1444) fun w10 =>
 (if wK w10 v0 = 9 then
 (lb_ (sR w10 v0 1 (some a8)) fun w13 =>
 (lb_ (wN w13) fun a15 =>
 (lb_ (nC w13 11 1444) fun w17 =>
 (if wK w17 v0 = 9 then
 (lb_ (sR w17 v0 2 (some a15)) fun w20 =>
 (lb_ (wN w20) fun a22 =>
 (lb_ (nC w20 11 4096) fun w24 =>
 (if wK w24 v0 = 9 then
 (lb_ (sR w24 v0 5 (some a22)) fun w27 =>
 (lb_ (wN w27) fun a29 =>
 (lb_ (nC w27 11 72) fun w31 =>
 (if wK w31 v0 = 9 then
 (lb_ (sR w31 v0 6 (some a29)) fun w34 =>
 (lb_ (wN w34) fun a36 =>
 (lb_ (nC w34 11 96) fun w38 =>
 (if wK w38 v0 = 9 then
 (lb_ (sR w38 v0 7 (some a36)) fun w41 =>
 (lb_ (wN w41) fun a43 =>
 (lb_ (nC w41 10 11) fun w45 =>
 (if aK 10 w45 a43 0 = true then
 (lb_ (sI w45 a43 (nx 0) 102) fun w48 =>
 (if aK 10 w48 a43 1 = true then
 (lb_ (sI w48 a43 (nx 1) 97) fun w51 =>
 (if aK 10 w51 a43 2 = true then
 (lb_ (sI w51 a43 (nx 2) 114) fun w54 =>
 (if aK 10 w54 a43 3 = true then
 (lb_ (sI w54 a43 (nx 3) 101) fun w57 =>
 (if aK 10 w57 a43 4 = true then
 (lb_ (sI w57 a43 (nx 4) 102) fun w60 =>
 (if aK 10 w60 a43 5 = true then
 (lb_ (sI w60 a43 (nx 5) 101) fun w63 =>
 (if aK 10 w63 a43 6 = true then
 (lb_ (sI w63 a43 (nx 6) 101) fun w66 =>
 (if aK 10 w66 a43 7 = true then
 (lb_ (sI w66 a43 (nx 7) 102) fun w69 =>
 (if aK 10 w69 a43 8 = true then
 (lb_ (sI w69 a43 (nx 8) 105) fun w72 =>
 (if aK 10 w72 a43 9 = true then
 (lb_ (sI w72 a43 (nx 9) 110) fun w75 =>
 (if aK 10 w75 a43 10 = true then
 (lb_ (sI w75 a43 (nx 10) 101) fun w78 =>
 (if wK w78 v0 = 9 then
 (lb_ (sR w78 v0 15 (some a43)) fun w81 =>
 (lb_ (wN w81) fun a83 =>
 (lb_ (nC w81 11 4) fun w85 =>
 (if aK 11 w85 a83 0 = true then
 (lb_ (sI w85 a83 (nx 0) 0) fun w88 =>
 (if aK 11 w88 a83 1 = true then
 (lb_ (sI w88 a83 (nx 1) 4) fun w91 =>
 (if aK 11 w91 a83 2 = true then
 (lb_ (sI w91 a83 (nx 2) 7) fun w94 =>
 (if aK 11 w94 a83 3 = true then
 (lb_ (sI w94 a83 (nx 3) 11) fun w97 =>
 (if wK w97 v0 = 9 then
 (lb_ (sR w97 v0 16 (some a83)) fun w100 =>
 (lb_ (wN w100) fun a102 =>
 (lb_ (nC w100 11 96) fun w104 =>
 (if wK w104 v0 = 9 then
 (lb_ (sR w104 v0 17 (some a102)) fun w107 =>
 (lb_ (wN w107) fun a109 =>
 (lb_ (nC w107 11 96) fun w111 =>
 (if wK w111 v0 = 9 then
 (lb_ (sR w111 v0 20 (some a109)) fun w114 =>
 (lb_ (wN w114) fun a116 =>
 (lb_ (nC w114 12 10) fun w118 =>
 (if wK w118 v0 = 9 then
 (lb_ (sR w118 v0 22 (some a116)) fun w121 =>
 (lb_ (wN w121) fun a123 =>
 (lb_ (nC w121 11 96) fun w125 =>
 (if wK w125 v0 = 9 then
 (lb_ (sR w125 v0 23 (some a123)) fun w128 =>
 (lb_ (wN w128) fun a130 =>
 (lb_ (nC w128 11 4) fun w132 =>
 (if wK w132 v0 = 9 then
 (lb_ (sR w132 v0 24 (some a130)) fun w135 =>
 (lb_ (wN w135) fun a137 =>
 (lb_ (nC w135 11 4) fun w139 =>
 (if aK 11 w139 a137 0 = true then
 (lb_ (sI w139 a137 (nx 0) (-1)) fun w142 =>
 (if aK 11 w142 a137 1 = true then
 (lb_ (sI w142 a137 (nx 1) (-1)) fun w145 =>
 (if aK 11 w145 a137 2 = true then
 (lb_ (sI w145 a137 (nx 2) (-1)) fun w148 =>
 (if aK 11 w148 a137 3 = true then
 (lb_ (sI w148 a137 (nx 3) (-1)) fun w151 =>
 (if wK w151 v0 = 9 then
 (lb_ (sR w151 v0 25 (some a137)) fun w154 =>
 (lb_ (wN w154) fun a156 =>
 (lb_ (nC w154 11 4) fun w158 =>
 (if wK w158 v0 = 9 then
 (lb_ (sR w158 v0 26 (some a156)) fun w161 =>
 (lb_ (wN w161) fun a163 =>
 (lb_ (nC w161 11 96) fun w165 =>
 (if wK w165 v0 = 9 then
 (lb_ (sR w165 v0 27 (some a163)) fun w168 =>
 (lb_ (wN w168) fun a170 =>
 (lb_ (nC w168 11 5) fun w172 =>
 (if wK w172 v0 = 9 then
 (lb_ (sR w172 v0 28 (some a170)) fun w175 =>
 (lb_ (wN w175) fun a177 =>
 (lb_ (nC w175 11 5) fun w179 =>
 (if wK w179 v0 = 9 then
 (lb_ (sR w179 v0 29 (some a177)) fun w182 =>
 (lb_ (wN w182) fun a184 =>
 (lb_ (nC w182 11 5) fun w186 =>
 (if wK w186 v0 = 9 then
 (lb_ (sR w186 v0 30 (some a184)) fun w189 =>
 (lb_ (wN w189) fun a191 =>
 (lb_ (nC w189 11 120) fun w193 =>
 (if wK w193 v0 = 9 then
 (lb_ (sR w193 v0 31 (some a191)) fun w196 =>
 (lb_ (wN w196) fun a198 =>
 (lb_ (nC w196 11 24) fun w200 =>
 (if wK w200 v0 = 9 then
 (lb_ (sR w200 v0 32 (some a198)) fun w203 =>
 (lb_ (wN w203) fun a205 =>
 (lb_ (nC w203 11 60) fun w207 =>
 (if wK w207 v0 = 9 then
 (lb_ (sR w207 v0 33 (some a205)) fun w210 =>
 (bd1 (wR w210 v0 0) fun a212 =>
 (if aK 11 w210 a212 0 = true then
 (lb_ (sI w210 a212 (nx 0) 1) fun w215 =>
 (bd1 (wR w215 v0 0) fun a217 =>
 (if aK 11 w215 a217 2 = true then
 (lb_ (sI w215 a217 (nx 2) 9) fun w220 =>
 (bd1 (wR w220 v0 0) fun a222 =>
 (if aK 11 w220 a222 6 = true then
 (lb_ (sI w220 a222 (nx 6) 1) fun w225 =>
 (bd1 (wR w225 v0 0) fun a227 =>
 (if aK 11 w225 a227 8 = true then
 (lb_ (sI w225 a227 (nx 8) 50) fun w230 =>
 (bd1 (wR w230 v0 0) fun a232 =>
 (if aK 11 w230 a232 9 = true then
 (lb_ (sI w230 a232 (nx 9) 10) fun w235 =>
 some ((), w235))
 else none)))
 else none)))
 else none)))
 else none)))
 else none)))
 else none))))
 else none))))
 else none))))
 else none))))
 else none))))
 else none))))
 else none))))
 else none))))
 else none))
 else none))
 else none))
 else none))
 else none))))
 else none))))
 else none))))
 else none))))
 else none))))
 else none))))
 else none))
 else none))
 else none))
 else none))
 else none))))
 else none))
 else none))
 else none))
 else none))
 else none))
 else none))
 else none))
 else none))
 else none))
 else none))
 else none))
 else none))))
 else none))))
 else none))))
 else none))))
 else none))))
 else none))))
 else none)))
set_option maxHeartbeats 4000000 in
set_option maxRecDepth 100000 in
theorem c_X9_init {l : Launch} {V : Vt} {v0 : Nat} {w w' : Wd} {r : Unit} (h : f_X9_init v0 w = some (r, w')) : MetW l V yX9_init cX9_init 1 (none) { frames := 1, cells := 22, slots := 9236, locals := 20 } w [rf V v0] none w' 22 9236 := by
  refine g_start (by decide) (Nat.le_of_ble_eq_true rfl) ?_
  intro t _ hrm X hret hnm
  have Y : Hd_ t V cX9_init 1 RX9 { frames := 1, cells := 22, slots := 9236, locals := 20 } (none) "<init>" := ⟨X, hrm, hret, hnm⟩
  refine g_as (lv' := [(0, rf V v0)]) (st' := []) rfl rfl ?_
  unfold f_X9_init at h
  refine g_aload_n (pc := 0) X 0 rfl dX9_init_0 ?_
  refine g_objInit (pc := 1) X q_1019 q_88 q_89 (by rw [Y.2.1]; decide) (by rw [Y.2.1]; exact Nat.le_of_ble_eq_true rfl) dX9_init_1 ?_
  refine g_aload_n (pc := 4) X 0 rfl dX9_init_4 ?_
  refine g_sipush (pc := 5) X (v := 1444) dX9_init_5 rfl ?_
  refine g_newarr (pc := 8) X (atype := .int) (k := 11) (fty := .int) rfl (by decide) (by decide) rfl ra_int rfl q_155 (N := 1444) (by decide) rfl (Nat.le_of_ble_eq_true rfl) (by rw [Y.2.1]; exact Nat.le_of_ble_eq_true rfl) (by rw [Y.2.1]; exact Nat.le_of_ble_eq_true rfl) dX9_init_8 ?_
  obtain ⟨a1, e2, h⟩ := lb_i h
  obtain ⟨w3, e4, h⟩ := lb_i h
  refine g_w e4 ?_
  refine g_topr e2 ?_
  obtain ⟨k5, h⟩ := gd_i h
  refine g_putFR (pc := 10) X FcX9 k5 0 (by decide) rfl q_1020 rfl Y.2.2.2 rfl rfl rfl dX9_init_10 ?_
  obtain ⟨w6, e7, h⟩ := lb_i h
  refine g_w e7 ?_
  refine g_aload_n (pc := 13) X 0 rfl dX9_init_13 ?_
  refine g_sipush (pc := 14) X (v := 1444) dX9_init_14 rfl ?_
  refine g_newarr (pc := 17) X (atype := .int) (k := 11) (fty := .int) rfl (by decide) (by decide) rfl ra_int rfl q_155 (N := 1444) (by decide) rfl (Nat.le_of_ble_eq_true rfl) (by rw [Y.2.1]; exact Nat.le_of_ble_eq_true rfl) (by rw [Y.2.1]; exact Nat.le_of_ble_eq_true rfl) dX9_init_17 ?_
  obtain ⟨a8, e9, h⟩ := lb_i h
  obtain ⟨w10, e11, h⟩ := lb_i h
  refine g_w e11 ?_
  refine g_topr e9 ?_
  obtain ⟨k12, h⟩ := gd_i h
  refine g_putFR (pc := 19) X FcX9 k12 1 (by decide) rfl q_1021 rfl Y.2.2.2 rfl rfl rfl dX9_init_19 ?_
  obtain ⟨w13, e14, h⟩ := lb_i h
  refine g_w e14 ?_
  refine g_aload_n (pc := 22) X 0 rfl dX9_init_22 ?_
  refine g_sipush (pc := 23) X (v := 1444) dX9_init_23 rfl ?_
  refine g_newarr (pc := 26) X (atype := .int) (k := 11) (fty := .int) rfl (by decide) (by decide) rfl ra_int rfl q_155 (N := 1444) (by decide) rfl (Nat.le_of_ble_eq_true rfl) (by rw [Y.2.1]; exact Nat.le_of_ble_eq_true rfl) (by rw [Y.2.1]; exact Nat.le_of_ble_eq_true rfl) dX9_init_26 ?_
  obtain ⟨a15, e16, h⟩ := lb_i h
  obtain ⟨w17, e18, h⟩ := lb_i h
  refine g_w e18 ?_
  refine g_topr e16 ?_
  obtain ⟨k19, h⟩ := gd_i h
  refine g_putFR (pc := 28) X FcX9 k19 2 (by decide) rfl q_1022 rfl Y.2.2.2 rfl rfl rfl dX9_init_28 ?_
  obtain ⟨w20, e21, h⟩ := lb_i h
  refine g_w e21 ?_
  refine g_aload_n (pc := 31) X 0 rfl dX9_init_31 ?_
  refine g_sipush (pc := 32) X (v := 4096) dX9_init_32 rfl ?_
  refine g_newarr (pc := 35) X (atype := .int) (k := 11) (fty := .int) rfl (by decide) (by decide) rfl ra_int rfl q_155 (N := 4096) (by decide) rfl (Nat.le_of_ble_eq_true rfl) (by rw [Y.2.1]; exact Nat.le_of_ble_eq_true rfl) (by rw [Y.2.1]; exact Nat.le_of_ble_eq_true rfl) dX9_init_35 ?_
  obtain ⟨a22, e23, h⟩ := lb_i h
  obtain ⟨w24, e25, h⟩ := lb_i h
  refine g_w e25 ?_
  refine g_topr e23 ?_
  obtain ⟨k26, h⟩ := gd_i h
  refine g_putFR (pc := 37) X FcX9 k26 5 (by decide) rfl q_1025 rfl Y.2.2.2 rfl rfl rfl dX9_init_37 ?_
  obtain ⟨w27, e28, h⟩ := lb_i h
  refine g_w e28 ?_
  refine g_aload_n (pc := 40) X 0 rfl dX9_init_40 ?_
  refine g_bipush (pc := 41) X (v := 72) dX9_init_41 rfl ?_
  refine g_newarr (pc := 43) X (atype := .int) (k := 11) (fty := .int) rfl (by decide) (by decide) rfl ra_int rfl q_155 (N := 72) (by decide) rfl (Nat.le_of_ble_eq_true rfl) (by rw [Y.2.1]; exact Nat.le_of_ble_eq_true rfl) (by rw [Y.2.1]; exact Nat.le_of_ble_eq_true rfl) dX9_init_43 ?_
  obtain ⟨a29, e30, h⟩ := lb_i h
  obtain ⟨w31, e32, h⟩ := lb_i h
  refine g_w e32 ?_
  refine g_topr e30 ?_
  obtain ⟨k33, h⟩ := gd_i h
  refine g_putFR (pc := 45) X FcX9 k33 6 (by decide) rfl q_1026 rfl Y.2.2.2 rfl rfl rfl dX9_init_45 ?_
  obtain ⟨w34, e35, h⟩ := lb_i h
  refine g_w e35 ?_
  refine g_aload_n (pc := 48) X 0 rfl dX9_init_48 ?_
  refine g_bipush (pc := 49) X (v := 96) dX9_init_49 rfl ?_
  refine g_newarr (pc := 51) X (atype := .int) (k := 11) (fty := .int) rfl (by decide) (by decide) rfl ra_int rfl q_155 (N := 96) (by decide) rfl (Nat.le_of_ble_eq_true rfl) (by rw [Y.2.1]; exact Nat.le_of_ble_eq_true rfl) (by rw [Y.2.1]; exact Nat.le_of_ble_eq_true rfl) dX9_init_51 ?_
  obtain ⟨a36, e37, h⟩ := lb_i h
  obtain ⟨w38, e39, h⟩ := lb_i h
  refine g_w e39 ?_
  refine g_topr e37 ?_
  obtain ⟨k40, h⟩ := gd_i h
  refine g_putFR (pc := 53) X FcX9 k40 7 (by decide) rfl q_1027 rfl Y.2.2.2 rfl rfl rfl dX9_init_53 ?_
  obtain ⟨w41, e42, h⟩ := lb_i h
  refine g_w e42 ?_
  refine g_aload_n (pc := 56) X 0 rfl dX9_init_56 ?_
  refine g_bipush (pc := 57) X (v := 11) dX9_init_57 rfl ?_
  refine g_newarr (pc := 59) X (atype := .char) (k := 10) (fty := .char) rfl (by decide) (by decide) rfl ra_char rfl q_1126 (N := 11) (by decide) rfl (Nat.le_of_ble_eq_true rfl) (by rw [Y.2.1]; exact Nat.le_of_ble_eq_true rfl) (by rw [Y.2.1]; exact Nat.le_of_ble_eq_true rfl) dX9_init_59 ?_
  obtain ⟨a43, e44, h⟩ := lb_i h
  obtain ⟨w45, e46, h⟩ := lb_i h
  refine g_w e46 ?_
  refine g_topr e44 ?_
  refine g_dup (pc := 61) X rfl dX9_init_61 ?_
  refine g_iconst (pc := 62) X (v := 0) dX9_init_62 rfl ?_
  refine g_bipush (pc := 63) X (v := 102) dX9_init_63 rfl ?_
  obtain ⟨k47, h⟩ := gd_i h
  refine g_cast (pc := 65) X k47 (by decide +kernel) dX9_init_65 ?_
  obtain ⟨w48, e49, h⟩ := lb_i h
  refine g_w e49 ?_
  refine g_dup (pc := 66) X rfl dX9_init_66 ?_
  refine g_iconst (pc := 67) X (v := 1) dX9_init_67 rfl ?_
  refine g_bipush (pc := 68) X (v := 97) dX9_init_68 rfl ?_
  obtain ⟨k50, h⟩ := gd_i h
  refine g_cast (pc := 70) X k50 (by decide +kernel) dX9_init_70 ?_
  obtain ⟨w51, e52, h⟩ := lb_i h
  refine g_w e52 ?_
  refine g_dup (pc := 71) X rfl dX9_init_71 ?_
  refine g_iconst (pc := 72) X (v := 2) dX9_init_72 rfl ?_
  refine g_bipush (pc := 73) X (v := 114) dX9_init_73 rfl ?_
  obtain ⟨k53, h⟩ := gd_i h
  refine g_cast (pc := 75) X k53 (by decide +kernel) dX9_init_75 ?_
  obtain ⟨w54, e55, h⟩ := lb_i h
  refine g_w e55 ?_
  refine g_dup (pc := 76) X rfl dX9_init_76 ?_
  refine g_iconst (pc := 77) X (v := 3) dX9_init_77 rfl ?_
  refine g_bipush (pc := 78) X (v := 101) dX9_init_78 rfl ?_
  obtain ⟨k56, h⟩ := gd_i h
  refine g_cast (pc := 80) X k56 (by decide +kernel) dX9_init_80 ?_
  obtain ⟨w57, e58, h⟩ := lb_i h
  refine g_w e58 ?_
  refine g_dup (pc := 81) X rfl dX9_init_81 ?_
  refine g_iconst (pc := 82) X (v := 4) dX9_init_82 rfl ?_
  refine g_bipush (pc := 83) X (v := 102) dX9_init_83 rfl ?_
  obtain ⟨k59, h⟩ := gd_i h
  refine g_cast (pc := 85) X k59 (by decide +kernel) dX9_init_85 ?_
  obtain ⟨w60, e61, h⟩ := lb_i h
  refine g_w e61 ?_
  refine g_dup (pc := 86) X rfl dX9_init_86 ?_
  refine g_iconst (pc := 87) X (v := 5) dX9_init_87 rfl ?_
  refine g_bipush (pc := 88) X (v := 101) dX9_init_88 rfl ?_
  obtain ⟨k62, h⟩ := gd_i h
  refine g_cast (pc := 90) X k62 (by decide +kernel) dX9_init_90 ?_
  obtain ⟨w63, e64, h⟩ := lb_i h
  refine g_w e64 ?_
  refine g_dup (pc := 91) X rfl dX9_init_91 ?_
  refine g_bipush (pc := 92) X (v := 6) dX9_init_92 rfl ?_
  refine g_bipush (pc := 94) X (v := 101) dX9_init_94 rfl ?_
  obtain ⟨k65, h⟩ := gd_i h
  refine g_cast (pc := 96) X k65 (by decide +kernel) dX9_init_96 ?_
  obtain ⟨w66, e67, h⟩ := lb_i h
  refine g_w e67 ?_
  refine g_dup (pc := 97) X rfl dX9_init_97 ?_
  refine g_bipush (pc := 98) X (v := 7) dX9_init_98 rfl ?_
  refine g_bipush (pc := 100) X (v := 102) dX9_init_100 rfl ?_
  obtain ⟨k68, h⟩ := gd_i h
  refine g_cast (pc := 102) X k68 (by decide +kernel) dX9_init_102 ?_
  obtain ⟨w69, e70, h⟩ := lb_i h
  refine g_w e70 ?_
  refine g_dup (pc := 103) X rfl dX9_init_103 ?_
  refine g_bipush (pc := 104) X (v := 8) dX9_init_104 rfl ?_
  refine g_bipush (pc := 106) X (v := 105) dX9_init_106 rfl ?_
  obtain ⟨k71, h⟩ := gd_i h
  refine g_cast (pc := 108) X k71 (by decide +kernel) dX9_init_108 ?_
  obtain ⟨w72, e73, h⟩ := lb_i h
  refine g_w e73 ?_
  refine g_dup (pc := 109) X rfl dX9_init_109 ?_
  refine g_bipush (pc := 110) X (v := 9) dX9_init_110 rfl ?_
  refine g_bipush (pc := 112) X (v := 110) dX9_init_112 rfl ?_
  obtain ⟨k74, h⟩ := gd_i h
  refine g_cast (pc := 114) X k74 (by decide +kernel) dX9_init_114 ?_
  obtain ⟨w75, e76, h⟩ := lb_i h
  refine g_w e76 ?_
  refine g_dup (pc := 115) X rfl dX9_init_115 ?_
  refine g_bipush (pc := 116) X (v := 10) dX9_init_116 rfl ?_
  refine g_bipush (pc := 118) X (v := 101) dX9_init_118 rfl ?_
  obtain ⟨k77, h⟩ := gd_i h
  refine g_cast (pc := 120) X k77 (by decide +kernel) dX9_init_120 ?_
  obtain ⟨w78, e79, h⟩ := lb_i h
  refine g_w e79 ?_
  obtain ⟨k80, h⟩ := gd_i h
  refine g_putFR (pc := 121) X FcX9 k80 15 (by decide) rfl q_1035 rfl Y.2.2.2 rfl rfl rfl dX9_init_121 ?_
  obtain ⟨w81, e82, h⟩ := lb_i h
  refine g_w e82 ?_
  refine g_aload_n (pc := 124) X 0 rfl dX9_init_124 ?_
  refine g_iconst (pc := 125) X (v := 4) dX9_init_125 rfl ?_
  refine g_newarr (pc := 126) X (atype := .int) (k := 11) (fty := .int) rfl (by decide) (by decide) rfl ra_int rfl q_155 (N := 4) (by decide) rfl (Nat.le_of_ble_eq_true rfl) (by rw [Y.2.1]; exact Nat.le_of_ble_eq_true rfl) (by rw [Y.2.1]; exact Nat.le_of_ble_eq_true rfl) dX9_init_126 ?_
  obtain ⟨a83, e84, h⟩ := lb_i h
  obtain ⟨w85, e86, h⟩ := lb_i h
  refine g_w e86 ?_
  refine g_topr e84 ?_
  refine g_dup (pc := 128) X rfl dX9_init_128 ?_
  refine g_iconst (pc := 129) X (v := 0) dX9_init_129 rfl ?_
  refine g_iconst (pc := 130) X (v := 0) dX9_init_130 rfl ?_
  obtain ⟨k87, h⟩ := gd_i h
  refine g_iast (pc := 131) X k87 dX9_init_131 ?_
  obtain ⟨w88, e89, h⟩ := lb_i h
  refine g_w e89 ?_
  refine g_dup (pc := 132) X rfl dX9_init_132 ?_
  refine g_iconst (pc := 133) X (v := 1) dX9_init_133 rfl ?_
  refine g_iconst (pc := 134) X (v := 4) dX9_init_134 rfl ?_
  obtain ⟨k90, h⟩ := gd_i h
  refine g_iast (pc := 135) X k90 dX9_init_135 ?_
  obtain ⟨w91, e92, h⟩ := lb_i h
  refine g_w e92 ?_
  refine g_dup (pc := 136) X rfl dX9_init_136 ?_
  refine g_iconst (pc := 137) X (v := 2) dX9_init_137 rfl ?_
  refine g_bipush (pc := 138) X (v := 7) dX9_init_138 rfl ?_
  obtain ⟨k93, h⟩ := gd_i h
  refine g_iast (pc := 140) X k93 dX9_init_140 ?_
  obtain ⟨w94, e95, h⟩ := lb_i h
  refine g_w e95 ?_
  refine g_dup (pc := 141) X rfl dX9_init_141 ?_
  refine g_iconst (pc := 142) X (v := 3) dX9_init_142 rfl ?_
  refine g_bipush (pc := 143) X (v := 11) dX9_init_143 rfl ?_
  obtain ⟨k96, h⟩ := gd_i h
  refine g_iast (pc := 145) X k96 dX9_init_145 ?_
  obtain ⟨w97, e98, h⟩ := lb_i h
  refine g_w e98 ?_
  obtain ⟨k99, h⟩ := gd_i h
  refine g_putFR (pc := 146) X FcX9 k99 16 (by decide) rfl q_1036 rfl Y.2.2.2 rfl rfl rfl dX9_init_146 ?_
  obtain ⟨w100, e101, h⟩ := lb_i h
  refine g_w e101 ?_
  refine g_aload_n (pc := 149) X 0 rfl dX9_init_149 ?_
  refine g_bipush (pc := 150) X (v := 96) dX9_init_150 rfl ?_
  refine g_newarr (pc := 152) X (atype := .int) (k := 11) (fty := .int) rfl (by decide) (by decide) rfl ra_int rfl q_155 (N := 96) (by decide) rfl (Nat.le_of_ble_eq_true rfl) (by rw [Y.2.1]; exact Nat.le_of_ble_eq_true rfl) (by rw [Y.2.1]; exact Nat.le_of_ble_eq_true rfl) dX9_init_152 ?_
  obtain ⟨a102, e103, h⟩ := lb_i h
  obtain ⟨w104, e105, h⟩ := lb_i h
  refine g_w e105 ?_
  refine g_topr e103 ?_
  obtain ⟨k106, h⟩ := gd_i h
  refine g_putFR (pc := 154) X FcX9 k106 17 (by decide) rfl q_1037 rfl Y.2.2.2 rfl rfl rfl dX9_init_154 ?_
  obtain ⟨w107, e108, h⟩ := lb_i h
  refine g_w e108 ?_
  refine g_aload_n (pc := 157) X 0 rfl dX9_init_157 ?_
  refine g_bipush (pc := 158) X (v := 96) dX9_init_158 rfl ?_
  refine g_newarr (pc := 160) X (atype := .int) (k := 11) (fty := .int) rfl (by decide) (by decide) rfl ra_int rfl q_155 (N := 96) (by decide) rfl (Nat.le_of_ble_eq_true rfl) (by rw [Y.2.1]; exact Nat.le_of_ble_eq_true rfl) (by rw [Y.2.1]; exact Nat.le_of_ble_eq_true rfl) dX9_init_160 ?_
  obtain ⟨a109, e110, h⟩ := lb_i h
  obtain ⟨w111, e112, h⟩ := lb_i h
  refine g_w e112 ?_
  refine g_topr e110 ?_
  obtain ⟨k113, h⟩ := gd_i h
  refine g_putFR (pc := 162) X FcX9 k113 20 (by decide) rfl q_1040 rfl Y.2.2.2 rfl rfl rfl dX9_init_162 ?_
  obtain ⟨w114, e115, h⟩ := lb_i h
  refine g_w e115 ?_
  refine g_aload_n (pc := 165) X 0 rfl dX9_init_165 ?_
  refine g_bipush (pc := 166) X (v := 10) dX9_init_166 rfl ?_
  refine g_newarr (pc := 168) X (atype := .boolean) (k := 12) (fty := .boolean) rfl (by decide) (by decide) rfl ra_boolean rfl q_1127 (N := 10) (by decide) rfl (Nat.le_of_ble_eq_true rfl) (by rw [Y.2.1]; exact Nat.le_of_ble_eq_true rfl) (by rw [Y.2.1]; exact Nat.le_of_ble_eq_true rfl) dX9_init_168 ?_
  obtain ⟨a116, e117, h⟩ := lb_i h
  obtain ⟨w118, e119, h⟩ := lb_i h
  refine g_w e119 ?_
  refine g_topr e117 ?_
  obtain ⟨k120, h⟩ := gd_i h
  refine g_putFR (pc := 170) X FcX9 k120 22 (by decide) rfl q_1042 rfl Y.2.2.2 rfl rfl rfl dX9_init_170 ?_
  obtain ⟨w121, e122, h⟩ := lb_i h
  refine g_w e122 ?_
  refine g_aload_n (pc := 173) X 0 rfl dX9_init_173 ?_
  refine g_bipush (pc := 174) X (v := 96) dX9_init_174 rfl ?_
  refine g_newarr (pc := 176) X (atype := .int) (k := 11) (fty := .int) rfl (by decide) (by decide) rfl ra_int rfl q_155 (N := 96) (by decide) rfl (Nat.le_of_ble_eq_true rfl) (by rw [Y.2.1]; exact Nat.le_of_ble_eq_true rfl) (by rw [Y.2.1]; exact Nat.le_of_ble_eq_true rfl) dX9_init_176 ?_
  obtain ⟨a123, e124, h⟩ := lb_i h
  obtain ⟨w125, e126, h⟩ := lb_i h
  refine g_w e126 ?_
  refine g_topr e124 ?_
  obtain ⟨k127, h⟩ := gd_i h
  refine g_putFR (pc := 178) X FcX9 k127 23 (by decide) rfl q_1043 rfl Y.2.2.2 rfl rfl rfl dX9_init_178 ?_
  obtain ⟨w128, e129, h⟩ := lb_i h
  refine g_w e129 ?_
  refine g_aload_n (pc := 181) X 0 rfl dX9_init_181 ?_
  refine g_iconst (pc := 182) X (v := 4) dX9_init_182 rfl ?_
  refine g_newarr (pc := 183) X (atype := .int) (k := 11) (fty := .int) rfl (by decide) (by decide) rfl ra_int rfl q_155 (N := 4) (by decide) rfl (Nat.le_of_ble_eq_true rfl) (by rw [Y.2.1]; exact Nat.le_of_ble_eq_true rfl) (by rw [Y.2.1]; exact Nat.le_of_ble_eq_true rfl) dX9_init_183 ?_
  obtain ⟨a130, e131, h⟩ := lb_i h
  obtain ⟨w132, e133, h⟩ := lb_i h
  refine g_w e133 ?_
  refine g_topr e131 ?_
  obtain ⟨k134, h⟩ := gd_i h
  refine g_putFR (pc := 185) X FcX9 k134 24 (by decide) rfl q_1044 rfl Y.2.2.2 rfl rfl rfl dX9_init_185 ?_
  obtain ⟨w135, e136, h⟩ := lb_i h
  refine g_w e136 ?_
  refine g_aload_n (pc := 188) X 0 rfl dX9_init_188 ?_
  refine g_iconst (pc := 189) X (v := 4) dX9_init_189 rfl ?_
  refine g_newarr (pc := 190) X (atype := .int) (k := 11) (fty := .int) rfl (by decide) (by decide) rfl ra_int rfl q_155 (N := 4) (by decide) rfl (Nat.le_of_ble_eq_true rfl) (by rw [Y.2.1]; exact Nat.le_of_ble_eq_true rfl) (by rw [Y.2.1]; exact Nat.le_of_ble_eq_true rfl) dX9_init_190 ?_
  obtain ⟨a137, e138, h⟩ := lb_i h
  obtain ⟨w139, e140, h⟩ := lb_i h
  refine g_w e140 ?_
  refine g_topr e138 ?_
  refine g_dup (pc := 192) X rfl dX9_init_192 ?_
  refine g_iconst (pc := 193) X (v := 0) dX9_init_193 rfl ?_
  refine g_iconst (pc := 194) X (v := (-1)) dX9_init_194 rfl ?_
  obtain ⟨k141, h⟩ := gd_i h
  refine g_iast (pc := 195) X k141 dX9_init_195 ?_
  obtain ⟨w142, e143, h⟩ := lb_i h
  refine g_w e143 ?_
  refine g_dup (pc := 196) X rfl dX9_init_196 ?_
  refine g_iconst (pc := 197) X (v := 1) dX9_init_197 rfl ?_
  refine g_iconst (pc := 198) X (v := (-1)) dX9_init_198 rfl ?_
  obtain ⟨k144, h⟩ := gd_i h
  refine g_iast (pc := 199) X k144 dX9_init_199 ?_
  obtain ⟨w145, e146, h⟩ := lb_i h
  refine g_w e146 ?_
  refine g_dup (pc := 200) X rfl dX9_init_200 ?_
  refine g_iconst (pc := 201) X (v := 2) dX9_init_201 rfl ?_
  refine g_iconst (pc := 202) X (v := (-1)) dX9_init_202 rfl ?_
  obtain ⟨k147, h⟩ := gd_i h
  refine g_iast (pc := 203) X k147 dX9_init_203 ?_
  obtain ⟨w148, e149, h⟩ := lb_i h
  refine g_w e149 ?_
  refine g_dup (pc := 204) X rfl dX9_init_204 ?_
  refine g_iconst (pc := 205) X (v := 3) dX9_init_205 rfl ?_
  refine g_iconst (pc := 206) X (v := (-1)) dX9_init_206 rfl ?_
  obtain ⟨k150, h⟩ := gd_i h
  refine g_iast (pc := 207) X k150 dX9_init_207 ?_
  obtain ⟨w151, e152, h⟩ := lb_i h
  refine g_w e152 ?_
  obtain ⟨k153, h⟩ := gd_i h
  refine g_putFR (pc := 208) X FcX9 k153 25 (by decide) rfl q_1045 rfl Y.2.2.2 rfl rfl rfl dX9_init_208 ?_
  obtain ⟨w154, e155, h⟩ := lb_i h
  refine g_w e155 ?_
  refine g_aload_n (pc := 211) X 0 rfl dX9_init_211 ?_
  refine g_iconst (pc := 212) X (v := 4) dX9_init_212 rfl ?_
  refine g_newarr (pc := 213) X (atype := .int) (k := 11) (fty := .int) rfl (by decide) (by decide) rfl ra_int rfl q_155 (N := 4) (by decide) rfl (Nat.le_of_ble_eq_true rfl) (by rw [Y.2.1]; exact Nat.le_of_ble_eq_true rfl) (by rw [Y.2.1]; exact Nat.le_of_ble_eq_true rfl) dX9_init_213 ?_
  obtain ⟨a156, e157, h⟩ := lb_i h
  obtain ⟨w158, e159, h⟩ := lb_i h
  refine g_w e159 ?_
  refine g_topr e157 ?_
  obtain ⟨k160, h⟩ := gd_i h
  refine g_putFR (pc := 215) X FcX9 k160 26 (by decide) rfl q_1046 rfl Y.2.2.2 rfl rfl rfl dX9_init_215 ?_
  obtain ⟨w161, e162, h⟩ := lb_i h
  refine g_w e162 ?_
  refine g_aload_n (pc := 218) X 0 rfl dX9_init_218 ?_
  refine g_bipush (pc := 219) X (v := 96) dX9_init_219 rfl ?_
  refine g_newarr (pc := 221) X (atype := .int) (k := 11) (fty := .int) rfl (by decide) (by decide) rfl ra_int rfl q_155 (N := 96) (by decide) rfl (Nat.le_of_ble_eq_true rfl) (by rw [Y.2.1]; exact Nat.le_of_ble_eq_true rfl) (by rw [Y.2.1]; exact Nat.le_of_ble_eq_true rfl) dX9_init_221 ?_
  obtain ⟨a163, e164, h⟩ := lb_i h
  obtain ⟨w165, e166, h⟩ := lb_i h
  refine g_w e166 ?_
  refine g_topr e164 ?_
  obtain ⟨k167, h⟩ := gd_i h
  refine g_putFR (pc := 223) X FcX9 k167 27 (by decide) rfl q_1047 rfl Y.2.2.2 rfl rfl rfl dX9_init_223 ?_
  obtain ⟨w168, e169, h⟩ := lb_i h
  refine g_w e169 ?_
  refine g_aload_n (pc := 226) X 0 rfl dX9_init_226 ?_
  refine g_iconst (pc := 227) X (v := 5) dX9_init_227 rfl ?_
  refine g_newarr (pc := 228) X (atype := .int) (k := 11) (fty := .int) rfl (by decide) (by decide) rfl ra_int rfl q_155 (N := 5) (by decide) rfl (Nat.le_of_ble_eq_true rfl) (by rw [Y.2.1]; exact Nat.le_of_ble_eq_true rfl) (by rw [Y.2.1]; exact Nat.le_of_ble_eq_true rfl) dX9_init_228 ?_
  obtain ⟨a170, e171, h⟩ := lb_i h
  obtain ⟨w172, e173, h⟩ := lb_i h
  refine g_w e173 ?_
  refine g_topr e171 ?_
  obtain ⟨k174, h⟩ := gd_i h
  refine g_putFR (pc := 230) X FcX9 k174 28 (by decide) rfl q_1048 rfl Y.2.2.2 rfl rfl rfl dX9_init_230 ?_
  obtain ⟨w175, e176, h⟩ := lb_i h
  refine g_w e176 ?_
  refine g_aload_n (pc := 233) X 0 rfl dX9_init_233 ?_
  refine g_iconst (pc := 234) X (v := 5) dX9_init_234 rfl ?_
  refine g_newarr (pc := 235) X (atype := .int) (k := 11) (fty := .int) rfl (by decide) (by decide) rfl ra_int rfl q_155 (N := 5) (by decide) rfl (Nat.le_of_ble_eq_true rfl) (by rw [Y.2.1]; exact Nat.le_of_ble_eq_true rfl) (by rw [Y.2.1]; exact Nat.le_of_ble_eq_true rfl) dX9_init_235 ?_
  obtain ⟨a177, e178, h⟩ := lb_i h
  obtain ⟨w179, e180, h⟩ := lb_i h
  refine g_w e180 ?_
  refine g_topr e178 ?_
  obtain ⟨k181, h⟩ := gd_i h
  refine g_putFR (pc := 237) X FcX9 k181 29 (by decide) rfl q_1049 rfl Y.2.2.2 rfl rfl rfl dX9_init_237 ?_
  obtain ⟨w182, e183, h⟩ := lb_i h
  refine g_w e183 ?_
  refine g_aload_n (pc := 240) X 0 rfl dX9_init_240 ?_
  refine g_iconst (pc := 241) X (v := 5) dX9_init_241 rfl ?_
  refine g_newarr (pc := 242) X (atype := .int) (k := 11) (fty := .int) rfl (by decide) (by decide) rfl ra_int rfl q_155 (N := 5) (by decide) rfl (Nat.le_of_ble_eq_true rfl) (by rw [Y.2.1]; exact Nat.le_of_ble_eq_true rfl) (by rw [Y.2.1]; exact Nat.le_of_ble_eq_true rfl) dX9_init_242 ?_
  obtain ⟨a184, e185, h⟩ := lb_i h
  obtain ⟨w186, e187, h⟩ := lb_i h
  refine g_w e187 ?_
  refine g_topr e185 ?_
  obtain ⟨k188, h⟩ := gd_i h
  refine g_putFR (pc := 244) X FcX9 k188 30 (by decide) rfl q_1050 rfl Y.2.2.2 rfl rfl rfl dX9_init_244 ?_
  obtain ⟨w189, e190, h⟩ := lb_i h
  refine g_w e190 ?_
  refine g_aload_n (pc := 247) X 0 rfl dX9_init_247 ?_
  refine g_bipush (pc := 248) X (v := 120) dX9_init_248 rfl ?_
  refine g_newarr (pc := 250) X (atype := .int) (k := 11) (fty := .int) rfl (by decide) (by decide) rfl ra_int rfl q_155 (N := 120) (by decide) rfl (Nat.le_of_ble_eq_true rfl) (by rw [Y.2.1]; exact Nat.le_of_ble_eq_true rfl) (by rw [Y.2.1]; exact Nat.le_of_ble_eq_true rfl) dX9_init_250 ?_
  obtain ⟨a191, e192, h⟩ := lb_i h
  obtain ⟨w193, e194, h⟩ := lb_i h
  refine g_w e194 ?_
  refine g_topr e192 ?_
  obtain ⟨k195, h⟩ := gd_i h
  refine g_putFR (pc := 252) X FcX9 k195 31 (by decide) rfl q_1051 rfl Y.2.2.2 rfl rfl rfl dX9_init_252 ?_
  obtain ⟨w196, e197, h⟩ := lb_i h
  refine g_w e197 ?_
  refine g_aload_n (pc := 255) X 0 rfl dX9_init_255 ?_
  refine g_bipush (pc := 256) X (v := 24) dX9_init_256 rfl ?_
  refine g_newarr (pc := 258) X (atype := .int) (k := 11) (fty := .int) rfl (by decide) (by decide) rfl ra_int rfl q_155 (N := 24) (by decide) rfl (Nat.le_of_ble_eq_true rfl) (by rw [Y.2.1]; exact Nat.le_of_ble_eq_true rfl) (by rw [Y.2.1]; exact Nat.le_of_ble_eq_true rfl) dX9_init_258 ?_
  obtain ⟨a198, e199, h⟩ := lb_i h
  obtain ⟨w200, e201, h⟩ := lb_i h
  refine g_w e201 ?_
  refine g_topr e199 ?_
  obtain ⟨k202, h⟩ := gd_i h
  refine g_putFR (pc := 260) X FcX9 k202 32 (by decide) rfl q_1052 rfl Y.2.2.2 rfl rfl rfl dX9_init_260 ?_
  obtain ⟨w203, e204, h⟩ := lb_i h
  refine g_w e204 ?_
  refine g_aload_n (pc := 263) X 0 rfl dX9_init_263 ?_
  refine g_bipush (pc := 264) X (v := 60) dX9_init_264 rfl ?_
  refine g_newarr (pc := 266) X (atype := .int) (k := 11) (fty := .int) rfl (by decide) (by decide) rfl ra_int rfl q_155 (N := 60) (by decide) rfl (Nat.le_of_ble_eq_true rfl) (by rw [Y.2.1]; exact Nat.le_of_ble_eq_true rfl) (by rw [Y.2.1]; exact Nat.le_of_ble_eq_true rfl) dX9_init_266 ?_
  obtain ⟨a205, e206, h⟩ := lb_i h
  obtain ⟨w207, e208, h⟩ := lb_i h
  refine g_w e208 ?_
  refine g_topr e206 ?_
  obtain ⟨k209, h⟩ := gd_i h
  refine g_putFR (pc := 268) X FcX9 k209 33 (by decide) rfl q_1053 rfl Y.2.2.2 rfl rfl rfl dX9_init_268 ?_
  obtain ⟨w210, e211, h⟩ := lb_i h
  refine g_w e211 ?_
  refine g_aload_n (pc := 271) X 0 rfl dX9_init_271 ?_
  obtain ⟨a212, e213, h⟩ := bd1_i h
  refine g_getR (pc := 272) X FcX9 (kd_R e211 k209) 0 e213 (by decide) rfl q_1020 dX9_init_272 ?_
  refine g_iconst (pc := 275) X (v := 0) dX9_init_275 rfl ?_
  refine g_iconst (pc := 276) X (v := 1) dX9_init_276 rfl ?_
  obtain ⟨k214, h⟩ := gd_i h
  refine g_iast (pc := 277) X k214 dX9_init_277 ?_
  obtain ⟨w215, e216, h⟩ := lb_i h
  refine g_w e216 ?_
  refine g_aload_n (pc := 278) X 0 rfl dX9_init_278 ?_
  obtain ⟨a217, e218, h⟩ := bd1_i h
  refine g_getR (pc := 279) X FcX9 (kd_I e216 (kd_R e211 k209)) 0 e218 (by decide) rfl q_1020 dX9_init_279 ?_
  refine g_iconst (pc := 282) X (v := 2) dX9_init_282 rfl ?_
  refine g_bipush (pc := 283) X (v := 9) dX9_init_283 rfl ?_
  obtain ⟨k219, h⟩ := gd_i h
  refine g_iast (pc := 285) X k219 dX9_init_285 ?_
  obtain ⟨w220, e221, h⟩ := lb_i h
  refine g_w e221 ?_
  refine g_aload_n (pc := 286) X 0 rfl dX9_init_286 ?_
  obtain ⟨a222, e223, h⟩ := bd1_i h
  refine g_getR (pc := 287) X FcX9 (kd_I e221 (kd_I e216 (kd_R e211 k209))) 0 e223 (by decide) rfl q_1020 dX9_init_287 ?_
  refine g_bipush (pc := 290) X (v := 6) dX9_init_290 rfl ?_
  refine g_iconst (pc := 292) X (v := 1) dX9_init_292 rfl ?_
  obtain ⟨k224, h⟩ := gd_i h
  refine g_iast (pc := 293) X k224 dX9_init_293 ?_
  obtain ⟨w225, e226, h⟩ := lb_i h
  refine g_w e226 ?_
  refine g_aload_n (pc := 294) X 0 rfl dX9_init_294 ?_
  obtain ⟨a227, e228, h⟩ := bd1_i h
  refine g_getR (pc := 295) X FcX9 (kd_I e226 (kd_I e221 (kd_I e216 (kd_R e211 k209)))) 0 e228 (by decide) rfl q_1020 dX9_init_295 ?_
  refine g_bipush (pc := 298) X (v := 8) dX9_init_298 rfl ?_
  refine g_bipush (pc := 300) X (v := 50) dX9_init_300 rfl ?_
  obtain ⟨k229, h⟩ := gd_i h
  refine g_iast (pc := 302) X k229 dX9_init_302 ?_
  obtain ⟨w230, e231, h⟩ := lb_i h
  refine g_w e231 ?_
  refine g_aload_n (pc := 303) X 0 rfl dX9_init_303 ?_
  obtain ⟨a232, e233, h⟩ := bd1_i h
  refine g_getR (pc := 304) X FcX9 (kd_I e231 (kd_I e226 (kd_I e221 (kd_I e216 (kd_R e211 k209))))) 0 e233 (by decide) rfl q_1020 dX9_init_304 ?_
  refine g_bipush (pc := 307) X (v := 9) dX9_init_307 rfl ?_
  refine g_bipush (pc := 309) X (v := 10) dX9_init_309 rfl ?_
  obtain ⟨k234, h⟩ := gd_i h
  refine g_iast (pc := 311) X k234 dX9_init_311 ?_
  obtain ⟨w235, e236, h⟩ := lb_i h
  refine g_w e236 ?_
  obtain ⟨e1, e2⟩ := rt_i h
  exact g_vret (pc := 312) X Y.2.2.1 (Nat.le_of_ble_eq_true rfl) (Nat.le_of_ble_eq_true rfl) e2 dX9_init_312

def f_X9_in (v0 : Int32) (v1 : Int32) (v2 : Int32) (w : Wd) : Option (Int32 × Wd) := some ((if v0 < v1 then 0 else (if v2 < v0 then 0 else 1 : Int32) : Int32), w)
theorem c_X9_in {l : Launch} {V : Vt} {v0 : Int32} {v1 : Int32} {v2 : Int32} {w w' : Wd} {r : Int32} (h : f_X9_in v0 v1 v2 w = some (r, w')) : MetW l V yX9_in cX9_in 3 (some .boolean) { frames := 0, cells := 0, slots := 0, locals := 0 } w [.int v0, .int v1, .int v2] (some (.int r)) w' 0 0 := by
  refine g_start (by decide) (Nat.le_of_ble_eq_true rfl) ?_
  intro t _ hrm X hret hnm
  have Y : Hd_ t V cX9_in 3 RX9 { frames := 0, cells := 0, slots := 0, locals := 0 } (some .boolean) "in" := ⟨X, hrm, hret, hnm⟩
  refine g_as (lv' := [(0, .int v0), (1, .int v1), (2, .int v2)]) (st' := []) rfl rfl ?_
  unfold f_X9_in at h
  refine g_iload_n (pc := 0) X 0 rfl dX9_in_0 ?_
  refine g_iload_n (pc := 1) X 1 rfl dX9_in_1 ?_
  have kJ : Gd t V 3 0 0 (Qe t V (some (.int r)) w' 0 0) 15 [(0, .int v0), (1, .int v1), (2, .int v2)] [.int (if v0 < v1 then 0 else (if v2 < v0 then 0 else 1 : Int32) : Int32)] w := by
    obtain ⟨e1, e2⟩ := rt_i h
    exact g_zret (pc := 15) X Y.2.2.1 (bz_ite (Or.inl rfl) (bz_ite (Or.inl rfl) (Or.inr rfl))) (Nat.le_of_ble_eq_true rfl) (Nat.le_of_ble_eq_true rfl) e1 e2 dX9_in_15
  refine g_icmp_lt (pc := 2) X (tgt := 14) dX9_in_2 rfl (fun c0 => ?_) (fun c0 => ?_)
  · refine g_iconst (pc := 14) X (v := 0) dX9_in_14 rfl ?_
    exact g_top (by rw [if_pos c0]) kJ
  · refine g_iload_n (pc := 5) X 0 rfl dX9_in_5 ?_
    refine g_iload_n (pc := 6) X 2 rfl dX9_in_6 ?_
    refine g_icmp_gt (pc := 7) X (tgt := 14) dX9_in_7 rfl (fun c1 => ?_) (fun c1 => ?_)
    · refine g_iconst (pc := 14) X (v := 0) dX9_in_14 rfl ?_
      exact g_top (by rw [if_neg c0, if_pos c1]) kJ
    · refine g_iconst (pc := 10) X (v := 1) dX9_in_10 rfl ?_
      refine g_goto (pc := 11) X (tgt := 15) dX9_in_11 rfl ?_
      exact g_top (by rw [if_neg c0, if_neg c1]) kJ

def f_X9_within (v0 : Int32) (v1 : Int32) (v2 : Int32) (w : Wd) : Option (Int32 × Wd) := some ((if v1 ≤ v0 then (if v0 ≤ v2 then v0 else v2 : Int32) else v1 : Int32), w)
theorem c_X9_within {l : Launch} {V : Vt} {v0 : Int32} {v1 : Int32} {v2 : Int32} {w w' : Wd} {r : Int32} (h : f_X9_within v0 v1 v2 w = some (r, w')) : MetW l V yX9_within cX9_within 3 (some .int) { frames := 0, cells := 0, slots := 0, locals := 0 } w [.int v0, .int v1, .int v2] (some (.int r)) w' 0 0 := by
  refine g_start (by decide) (Nat.le_of_ble_eq_true rfl) ?_
  intro t _ hrm X hret hnm
  have Y : Hd_ t V cX9_within 3 RX9 { frames := 0, cells := 0, slots := 0, locals := 0 } (some .int) "within" := ⟨X, hrm, hret, hnm⟩
  refine g_as (lv' := [(0, .int v0), (1, .int v1), (2, .int v2)]) (st' := []) rfl rfl ?_
  unfold f_X9_within at h
  refine g_iload_n (pc := 0) X 0 rfl dX9_within_0 ?_
  refine g_iload_n (pc := 1) X 1 rfl dX9_within_1 ?_
  have kJ : Gd t V 3 0 0 (Qe t V (some (.int r)) w' 0 0) 19 [(0, .int v0), (1, .int v1), (2, .int v2)] [.int (if v1 ≤ v0 then (if v0 ≤ v2 then v0 else v2 : Int32) else v1 : Int32)] w := by
    obtain ⟨e1, e2⟩ := rt_i h
    exact g_iret (pc := 19) X Y.2.2.1 (Nat.le_of_ble_eq_true rfl) (Nat.le_of_ble_eq_true rfl) e1 e2 dX9_within_19
  refine g_icmp_ge (pc := 2) X (tgt := 9) dX9_within_2 rfl (fun c0 => ?_) (fun c0 => ?_)
  · refine g_iload_n (pc := 9) X 0 rfl dX9_within_9 ?_
    refine g_iload_n (pc := 10) X 2 rfl dX9_within_10 ?_
    refine g_icmp_le (pc := 11) X (tgt := 18) dX9_within_11 rfl (fun c1 => ?_) (fun c1 => ?_)
    · refine g_iload_n (pc := 18) X 0 rfl dX9_within_18 ?_
      exact g_top (by rw [if_pos c0, if_pos c1]) kJ
    · refine g_iload_n (pc := 14) X 2 rfl dX9_within_14 ?_
      refine g_goto (pc := 15) X (tgt := 19) dX9_within_15 rfl ?_
      exact g_top (by rw [if_pos c0, if_neg c1]) kJ
  · refine g_iload_n (pc := 5) X 1 rfl dX9_within_5 ?_
    refine g_goto (pc := 6) X (tgt := 19) dX9_within_6 rfl ?_
    exact g_top (by rw [if_neg c0]) kJ

def L_X9_copyAll_2  (n : Nat) (v0 : Nat) (v1 : Nat) (v2 : Int32) (w : Wd) : Option (Unit × Wd) := match n with
  | 0 => none
  | n + 1 => (if 1444 ≤ v2 then
 some ((), w)
 else
 (if aK 11 w v0 v2 = true then
 (if aK 11 w v1 v2 = true then
 (lb_ (sI w v1 (nx v2) (wI w v0 (nx v2))) fun w3 =>
 (lb_ (v2 + 1) fun x5 =>
 L_X9_copyAll_2 n v0 v1 x5 w3))
 else none)
 else none))
theorem bL_X9_copyAll_2 {t : Ct} {V : Vt} {r : Unit} {w' : Wd} (Y : Hd_ t V cX9_copyAll 3 RX9 { frames := 0, cells := 0, slots := 0, locals := 0 } (none) "copyAll") : ∀ {n : Nat} {v0 : Nat} {v1 : Nat} {v2 : Int32} {w : Wd}, L_X9_copyAll_2  n v0 v1 v2 w = some (r, w') → Gd t V 3 0 0 (Qe t V none w' 0 0) 2 [(0, rf V v0), (1, rf V v1), (2, .int v2)] [] w := by
  have X := Y.1
  intro n
  induction n with
  | zero => intro v0 v1 v2 w h; cases h
  | succ n ih0 =>
    have ih : ∀ (v0 : Nat) (v1 : Nat) (v2 : Int32) (w : Wd), L_X9_copyAll_2  n v0 v1 v2 w = some (r, w') → Gd t V 3 0 0 (Qe t V none w' 0 0) 2 [(0, rf V v0), (1, rf V v1), (2, .int v2)] [] w := fun v0 v1 v2 w h => ih0 h
    clear ih0
    intro v0 v1 v2 w h
    unfold L_X9_copyAll_2 at h
    refine g_iload_n (pc := 2) X 2 rfl dX9_copyAll_2 ?_
    refine g_sipush (pc := 3) X (v := 1444) dX9_copyAll_3 rfl ?_
    refine g_icmp_ge (pc := 6) X (tgt := 21) dX9_copyAll_6 rfl (fun c => ?_) (fun c => ?_)
    · have h := br_y c h
      obtain ⟨e1, e2⟩ := rt_i h
      exact g_vret (pc := 21) X Y.2.2.1 (Nat.le_of_ble_eq_true rfl) (Nat.le_of_ble_eq_true rfl) e2 dX9_copyAll_21
    · have h := br_n c h
      refine g_aload_n (pc := 9) X 1 rfl dX9_copyAll_9 ?_
      refine g_iload_n (pc := 10) X 2 rfl dX9_copyAll_10 ?_
      refine g_aload_n (pc := 11) X 0 rfl dX9_copyAll_11 ?_
      refine g_iload_n (pc := 12) X 2 rfl dX9_copyAll_12 ?_
      obtain ⟨k1, h⟩ := gd_i h
      refine g_iald (pc := 13) X k1 dX9_copyAll_13 ?_
      obtain ⟨k2, h⟩ := gd_i h
      refine g_iast (pc := 14) X k2 dX9_copyAll_14 ?_
      obtain ⟨w3, e4, h⟩ := lb_i h
      refine g_w e4 ?_
      obtain ⟨x5, e6, h⟩ := lb_i h
      refine g_iinc (pc := 15) X 2 rfl dX9_copyAll_15 (v := x5) e6.symm (by decide) (lv' := [(2, .int x5), (0, rf V v0), (1, rf V v1)]) rfl ?_
      refine g_goto (pc := 18) X (tgt := 2) dX9_copyAll_18 rfl ?_
      refine g_sub (lv' := [(0, rf V v0), (1, rf V v1), (2, .int x5)]) [1, 2, 0] rfl ?_
      exact ih _ _ _ _ h

def f_X9_copyAll (v0 : Nat) (v1 : Nat) (w : Wd) : Option (Unit × Wd) := L_X9_copyAll_2 FU v0 v1 0 w
theorem c_X9_copyAll {l : Launch} {V : Vt} {v0 : Nat} {v1 : Nat} {w w' : Wd} {r : Unit} (h : f_X9_copyAll v0 v1 w = some (r, w')) : MetW l V yX9_copyAll cX9_copyAll 3 (none) { frames := 0, cells := 0, slots := 0, locals := 0 } w [rf V v0, rf V v1] none w' 0 0 := by
  refine g_start (by decide) (Nat.le_of_ble_eq_true rfl) ?_
  intro t _ hrm X hret hnm
  have Y : Hd_ t V cX9_copyAll 3 RX9 { frames := 0, cells := 0, slots := 0, locals := 0 } (none) "copyAll" := ⟨X, hrm, hret, hnm⟩
  refine g_as (lv' := [(0, rf V v0), (1, rf V v1)]) (st' := []) rfl rfl ?_
  unfold f_X9_copyAll at h
  refine g_iconst (pc := 0) X (v := 0) dX9_copyAll_0 rfl ?_
  refine g_istore_n (pc := 1) X (lv' := [(2, .int 0), (0, rf V v0), (1, rf V v1)]) dX9_copyAll_1 (by decide) rfl ?_
  refine g_sub (lv' := [(0, rf V v0), (1, rf V v1), (2, .int 0)]) [1, 2, 0] rfl ?_
  exact bL_X9_copyAll_2 Y  h

def f_X9_told0 (v0 : Int32) (w : Wd) : Option (Int32 × Wd) := some ((if 0 ≤ v0 then v0 else (-1000000005) : Int32), w)
theorem c_X9_told0 {l : Launch} {V : Vt} {v0 : Int32} {w w' : Wd} {r : Int32} (h : f_X9_told0 v0 w = some (r, w')) : MetW l V yX9_told0 cX9_told0 1 (some .int) { frames := 0, cells := 0, slots := 0, locals := 0 } w [.int v0] (some (.int r)) w' 0 0 := by
  refine g_start (by decide) (Nat.le_of_ble_eq_true rfl) ?_
  intro t _ hrm X hret hnm
  have Y : Hd_ t V cX9_told0 1 RX9 { frames := 0, cells := 0, slots := 0, locals := 0 } (some .int) "told0" := ⟨X, hrm, hret, hnm⟩
  refine g_as (lv' := [(0, .int v0)]) (st' := []) rfl rfl ?_
  unfold f_X9_told0 at h
  refine g_iload_n (pc := 0) X 0 rfl dX9_told0_0 ?_
  have kJ : Gd t V 1 0 0 (Qe t V (some (.int r)) w' 0 0) 10 [(0, .int v0)] [.int (if 0 ≤ v0 then v0 else (-1000000005) : Int32)] w := by
    obtain ⟨e1, e2⟩ := rt_i h
    exact g_iret (pc := 10) X Y.2.2.1 (Nat.le_of_ble_eq_true rfl) (Nat.le_of_ble_eq_true rfl) e1 e2 dX9_told0_10
  refine g_if_ge (pc := 1) X (tgt := 9) dX9_told0_1 rfl (fun c0 => ?_) (fun c0 => ?_)
  · refine g_iload_n (pc := 9) X 0 rfl dX9_told0_9 ?_
    exact g_top (by rw [if_pos c0]) kJ
  · refine g_ldc (pc := 4) X q_1261 dX9_told0_4 ?_
    refine g_goto (pc := 6) X (tgt := 10) dX9_told0_6 rfl ?_
    exact g_top (by rw [if_neg c0]) kJ

def f_X9_isSitter (v0 : Nat) (v1 : Int32) (w : Wd) : Option (Int32 × Wd) := (if wK w v0 = 9 then
 (bd1 (wR w v0 0) fun a2 =>
 (if aK 11 w a2 1 = true then
 (bd2 (f_X9_in v1 0 ((wI w a2 (nx 1)) - 1) w) fun r5 w6 =>
 (if r5 = 0 ∨ r5 = 1 then
 some (r5, w6)
 else none))
 else none))
 else none)
theorem c_X9_isSitter {l : Launch} {V : Vt} {v0 : Nat} {v1 : Int32} {w w' : Wd} {r : Int32} (h : f_X9_isSitter v0 v1 w = some (r, w')) : MetW l V yX9_isSitter cX9_isSitter 2 (some .boolean) { frames := 1, cells := 0, slots := 0, locals := 22 } w [rf V v0, .int v1] (some (.int r)) w' 0 0 := by
  refine g_start (by decide) (Nat.le_of_ble_eq_true rfl) ?_
  intro t _ hrm X hret hnm
  have Y : Hd_ t V cX9_isSitter 2 RX9 { frames := 1, cells := 0, slots := 0, locals := 22 } (some .boolean) "isSitter" := ⟨X, hrm, hret, hnm⟩
  refine g_as (lv' := [(0, rf V v0), (1, .int v1)]) (st' := []) rfl rfl ?_
  unfold f_X9_isSitter at h
  refine g_iload_n (pc := 0) X 1 rfl dX9_isSitter_0 ?_
  refine g_iconst (pc := 1) X (v := 0) dX9_isSitter_1 rfl ?_
  refine g_aload_n (pc := 2) X 0 rfl dX9_isSitter_2 ?_
  obtain ⟨k1, h⟩ := gd_i h
  obtain ⟨a2, e3, h⟩ := bd1_i h
  refine g_getR (pc := 3) X FcX9 k1 0 e3 (by decide) rfl q_1020 dX9_isSitter_3 ?_
  refine g_iconst (pc := 6) X (v := 1) dX9_isSitter_6 rfl ?_
  obtain ⟨k4, h⟩ := gd_i h
  refine g_iald (pc := 7) X k4 dX9_isSitter_7 ?_
  refine g_iconst (pc := 8) X (v := 1) dX9_isSitter_8 rfl ?_
  refine g_isub (pc := 9) X dX9_isSitter_9 ?_
  obtain ⟨r5, w6, h7, h⟩ := bd2_i h
  refine g_callS (pc := 10) X mk_X9_in q_1133 q_1132 (c_X9_in h7) rfl rfl (by rw [Y.2.1]; decide)  rfl (rest := []) rfl (Nat.le_of_ble_eq_true rfl) (by rw [Y.2.1]; exact ⟨Nat.le_of_ble_eq_true rfl, Nat.le_of_ble_eq_true rfl⟩) dX9_isSitter_10 (st' := [.int r5]) rfl ?_
  obtain ⟨k8, h⟩ := gd_i h
  obtain ⟨e1, e2⟩ := rt_i h
  exact g_zret (pc := 13) X Y.2.2.1 k8 (Nat.le_of_ble_eq_true rfl) (Nat.le_of_ble_eq_true rfl) e1 e2 dX9_isSitter_13

def f_X9_isPlace (v0 : Nat) (v1 : Int32) (w : Wd) : Option (Int32 × Wd) := (if wK w v0 = 9 then
 (bd1 (wR w v0 0) fun a2 =>
 (if aK 11 w a2 2 = true then
 (bd2 (f_X9_in v1 0 ((wI w a2 (nx 2)) - 1) w) fun r5 w6 =>
 (if r5 = 0 ∨ r5 = 1 then
 some (r5, w6)
 else none))
 else none))
 else none)
theorem c_X9_isPlace {l : Launch} {V : Vt} {v0 : Nat} {v1 : Int32} {w w' : Wd} {r : Int32} (h : f_X9_isPlace v0 v1 w = some (r, w')) : MetW l V yX9_isPlace cX9_isPlace 2 (some .boolean) { frames := 1, cells := 0, slots := 0, locals := 22 } w [rf V v0, .int v1] (some (.int r)) w' 0 0 := by
  refine g_start (by decide) (Nat.le_of_ble_eq_true rfl) ?_
  intro t _ hrm X hret hnm
  have Y : Hd_ t V cX9_isPlace 2 RX9 { frames := 1, cells := 0, slots := 0, locals := 22 } (some .boolean) "isPlace" := ⟨X, hrm, hret, hnm⟩
  refine g_as (lv' := [(0, rf V v0), (1, .int v1)]) (st' := []) rfl rfl ?_
  unfold f_X9_isPlace at h
  refine g_iload_n (pc := 0) X 1 rfl dX9_isPlace_0 ?_
  refine g_iconst (pc := 1) X (v := 0) dX9_isPlace_1 rfl ?_
  refine g_aload_n (pc := 2) X 0 rfl dX9_isPlace_2 ?_
  obtain ⟨k1, h⟩ := gd_i h
  obtain ⟨a2, e3, h⟩ := bd1_i h
  refine g_getR (pc := 3) X FcX9 k1 0 e3 (by decide) rfl q_1020 dX9_isPlace_3 ?_
  refine g_iconst (pc := 6) X (v := 2) dX9_isPlace_6 rfl ?_
  obtain ⟨k4, h⟩ := gd_i h
  refine g_iald (pc := 7) X k4 dX9_isPlace_7 ?_
  refine g_iconst (pc := 8) X (v := 1) dX9_isPlace_8 rfl ?_
  refine g_isub (pc := 9) X dX9_isPlace_9 ?_
  obtain ⟨r5, w6, h7, h⟩ := bd2_i h
  refine g_callS (pc := 10) X mk_X9_in q_1133 q_1132 (c_X9_in h7) rfl rfl (by rw [Y.2.1]; decide)  rfl (rest := []) rfl (Nat.le_of_ble_eq_true rfl) (by rw [Y.2.1]; exact ⟨Nat.le_of_ble_eq_true rfl, Nat.le_of_ble_eq_true rfl⟩) dX9_isPlace_10 (st' := [.int r5]) rfl ?_
  obtain ⟨k8, h⟩ := gd_i h
  obtain ⟨e1, e2⟩ := rt_i h
  exact g_zret (pc := 13) X Y.2.2.1 k8 (Nat.le_of_ble_eq_true rfl) (Nat.le_of_ble_eq_true rfl) e1 e2 dX9_isPlace_13

def f_X9_of (v0 : Nat) (v1 : Int32) (v2 : Int32) (w : Wd) : Option (Int32 × Wd) := (if wK w v0 = 9 then
 (bd1 (wR w v0 0) fun a2 =>
 (if aK 11 w a2 ((24 + (4 * v1)) + v2) = true then
 some (wI w a2 (nx ((24 + (4 * v1)) + v2)), w)
 else none))
 else none)
theorem c_X9_of {l : Launch} {V : Vt} {v0 : Nat} {v1 : Int32} {v2 : Int32} {w w' : Wd} {r : Int32} (h : f_X9_of v0 v1 v2 w = some (r, w')) : MetW l V yX9_of cX9_of 3 (some .int) { frames := 0, cells := 0, slots := 0, locals := 0 } w [rf V v0, .int v1, .int v2] (some (.int r)) w' 0 0 := by
  refine g_start (by decide) (Nat.le_of_ble_eq_true rfl) ?_
  intro t _ hrm X hret hnm
  have Y : Hd_ t V cX9_of 3 RX9 { frames := 0, cells := 0, slots := 0, locals := 0 } (some .int) "of" := ⟨X, hrm, hret, hnm⟩
  refine g_as (lv' := [(0, rf V v0), (1, .int v1), (2, .int v2)]) (st' := []) rfl rfl ?_
  unfold f_X9_of at h
  refine g_aload_n (pc := 0) X 0 rfl dX9_of_0 ?_
  obtain ⟨k1, h⟩ := gd_i h
  obtain ⟨a2, e3, h⟩ := bd1_i h
  refine g_getR (pc := 1) X FcX9 k1 0 e3 (by decide) rfl q_1020 dX9_of_1 ?_
  refine g_bipush (pc := 4) X (v := 24) dX9_of_4 rfl ?_
  refine g_iconst (pc := 6) X (v := 4) dX9_of_6 rfl ?_
  refine g_iload_n (pc := 7) X 1 rfl dX9_of_7 ?_
  refine g_imul (pc := 8) X dX9_of_8 ?_
  refine g_iadd (pc := 9) X dX9_of_9 ?_
  refine g_iload_n (pc := 10) X 2 rfl dX9_of_10 ?_
  refine g_iadd (pc := 11) X dX9_of_11 ?_
  obtain ⟨k4, h⟩ := gd_i h
  refine g_iald (pc := 12) X k4 dX9_of_12 ?_
  obtain ⟨e1, e2⟩ := rt_i h
  exact g_iret (pc := 13) X Y.2.2.1 (Nat.le_of_ble_eq_true rfl) (Nat.le_of_ble_eq_true rfl) e1 e2 dX9_of_13

def f_X9_put (v0 : Nat) (v1 : Int32) (v2 : Int32) (v3 : Int32) (w : Wd) : Option (Unit × Wd) := (if wK w v0 = 9 then
 (bd1 (wR w v0 0) fun a2 =>
 (if aK 11 w a2 ((24 + (4 * v1)) + v2) = true then
 (lb_ (sI w a2 (nx ((24 + (4 * v1)) + v2)) v3) fun w5 =>
 some ((), w5))
 else none))
 else none)
theorem c_X9_put {l : Launch} {V : Vt} {v0 : Nat} {v1 : Int32} {v2 : Int32} {v3 : Int32} {w w' : Wd} {r : Unit} (h : f_X9_put v0 v1 v2 v3 w = some (r, w')) : MetW l V yX9_put cX9_put 4 (none) { frames := 0, cells := 0, slots := 0, locals := 0 } w [rf V v0, .int v1, .int v2, .int v3] none w' 0 0 := by
  refine g_start (by decide) (Nat.le_of_ble_eq_true rfl) ?_
  intro t _ hrm X hret hnm
  have Y : Hd_ t V cX9_put 4 RX9 { frames := 0, cells := 0, slots := 0, locals := 0 } (none) "put" := ⟨X, hrm, hret, hnm⟩
  refine g_as (lv' := [(0, rf V v0), (1, .int v1), (2, .int v2), (3, .int v3)]) (st' := []) rfl rfl ?_
  unfold f_X9_put at h
  refine g_aload_n (pc := 0) X 0 rfl dX9_put_0 ?_
  obtain ⟨k1, h⟩ := gd_i h
  obtain ⟨a2, e3, h⟩ := bd1_i h
  refine g_getR (pc := 1) X FcX9 k1 0 e3 (by decide) rfl q_1020 dX9_put_1 ?_
  refine g_bipush (pc := 4) X (v := 24) dX9_put_4 rfl ?_
  refine g_iconst (pc := 6) X (v := 4) dX9_put_6 rfl ?_
  refine g_iload_n (pc := 7) X 1 rfl dX9_put_7 ?_
  refine g_imul (pc := 8) X dX9_put_8 ?_
  refine g_iadd (pc := 9) X dX9_put_9 ?_
  refine g_iload_n (pc := 10) X 2 rfl dX9_put_10 ?_
  refine g_iadd (pc := 11) X dX9_put_11 ?_
  refine g_iload_n (pc := 12) X 3 rfl dX9_put_12 ?_
  obtain ⟨k4, h⟩ := gd_i h
  refine g_iast (pc := 13) X k4 dX9_put_13 ?_
  obtain ⟨w5, e6, h⟩ := lb_i h
  refine g_w e6 ?_
  obtain ⟨e1, e2⟩ := rt_i h
  exact g_vret (pc := 14) X Y.2.2.1 (Nat.le_of_ble_eq_true rfl) (Nat.le_of_ble_eq_true rfl) e2 dX9_put_14

def f_X9_becomes (v0 : Nat) (v1 : Int32) (v2 : Int32) (w : Wd) : Option (Int32 × Wd) := (if wK w v0 = 9 then
 (bd1 (wR w v0 0) fun a2 =>
 (if aK 11 w a2 v1 = true then
 (lb_ (wI w a2 (nx v1)) fun x5 =>
 (bd1 (wR w v0 0) fun a7 =>
 (if aK 11 w a7 v1 = true then
 (lb_ (sI w a7 (nx v1) v2) fun w10 =>
 some (x5, w10))
 else none)))
 else none))
 else none)
theorem c_X9_becomes {l : Launch} {V : Vt} {v0 : Nat} {v1 : Int32} {v2 : Int32} {w w' : Wd} {r : Int32} (h : f_X9_becomes v0 v1 v2 w = some (r, w')) : MetW l V yX9_becomes cX9_becomes 4 (some .int) { frames := 0, cells := 0, slots := 0, locals := 0 } w [rf V v0, .int v1, .int v2] (some (.int r)) w' 0 0 := by
  refine g_start (by decide) (Nat.le_of_ble_eq_true rfl) ?_
  intro t _ hrm X hret hnm
  have Y : Hd_ t V cX9_becomes 4 RX9 { frames := 0, cells := 0, slots := 0, locals := 0 } (some .int) "becomes" := ⟨X, hrm, hret, hnm⟩
  refine g_as (lv' := [(0, rf V v0), (1, .int v1), (2, .int v2)]) (st' := []) rfl rfl ?_
  unfold f_X9_becomes at h
  refine g_aload_n (pc := 0) X 0 rfl dX9_becomes_0 ?_
  obtain ⟨k1, h⟩ := gd_i h
  obtain ⟨a2, e3, h⟩ := bd1_i h
  refine g_getR (pc := 1) X FcX9 k1 0 e3 (by decide) rfl q_1020 dX9_becomes_1 ?_
  refine g_iload_n (pc := 4) X 1 rfl dX9_becomes_4 ?_
  obtain ⟨k4, h⟩ := gd_i h
  refine g_iald (pc := 5) X k4 dX9_becomes_5 ?_
  obtain ⟨x5, e6, h⟩ := lb_i h
  refine g_top e6 ?_
  refine g_istore_n (pc := 6) X (lv' := [(3, .int x5), (0, rf V v0), (1, .int v1), (2, .int v2)]) dX9_becomes_6 (by decide) rfl ?_
  refine g_aload_n (pc := 7) X 1 rfl dX9_becomes_7 ?_
  obtain ⟨a7, e8, h⟩ := bd1_i h
  refine g_getR (pc := 8) X FcX9 k1 0 e8 (by decide) rfl q_1020 dX9_becomes_8 ?_
  refine g_iload_n (pc := 11) X 2 rfl dX9_becomes_11 ?_
  refine g_iload_n (pc := 12) X 3 rfl dX9_becomes_12 ?_
  obtain ⟨k9, h⟩ := gd_i h
  refine g_iast (pc := 13) X k9 dX9_becomes_13 ?_
  obtain ⟨w10, e11, h⟩ := lb_i h
  refine g_w e11 ?_
  refine g_iload_n (pc := 14) X 0 rfl dX9_becomes_14 ?_
  obtain ⟨e1, e2⟩ := rt_i h
  exact g_iret (pc := 15) X Y.2.2.1 (Nat.le_of_ble_eq_true rfl) (Nat.le_of_ble_eq_true rfl) e1 e2 dX9_becomes_15

def f_X9_isBroad (v0 : Int32) (w : Wd) : Option (Int32 × Wd) := some ((if v0 = 1 then 1 else (if v0 = 3 then 1 else 0 : Int32) : Int32), w)
theorem c_X9_isBroad {l : Launch} {V : Vt} {v0 : Int32} {w w' : Wd} {r : Int32} (h : f_X9_isBroad v0 w = some (r, w')) : MetW l V yX9_isBroad cX9_isBroad 1 (some .boolean) { frames := 0, cells := 0, slots := 0, locals := 0 } w [.int v0] (some (.int r)) w' 0 0 := by
  refine g_start (by decide) (Nat.le_of_ble_eq_true rfl) ?_
  intro t _ hrm X hret hnm
  have Y : Hd_ t V cX9_isBroad 1 RX9 { frames := 0, cells := 0, slots := 0, locals := 0 } (some .boolean) "isBroad" := ⟨X, hrm, hret, hnm⟩
  refine g_as (lv' := [(0, .int v0)]) (st' := []) rfl rfl ?_
  unfold f_X9_isBroad at h
  refine g_iload_n (pc := 0) X 0 rfl dX9_isBroad_0 ?_
  refine g_iconst (pc := 1) X (v := 1) dX9_isBroad_1 rfl ?_
  have kJ : Gd t V 1 0 0 (Qe t V (some (.int r)) w' 0 0) 15 [(0, .int v0)] [.int (if v0 = 1 then 1 else (if v0 = 3 then 1 else 0 : Int32) : Int32)] w := by
    obtain ⟨e1, e2⟩ := rt_i h
    exact g_zret (pc := 15) X Y.2.2.1 (bz_ite (Or.inr rfl) (bz_ite (Or.inr rfl) (Or.inl rfl))) (Nat.le_of_ble_eq_true rfl) (Nat.le_of_ble_eq_true rfl) e1 e2 dX9_isBroad_15
  refine g_icmp_eq (pc := 2) X (tgt := 10) dX9_isBroad_2 rfl (fun c0 => ?_) (fun c0 => ?_)
  · refine g_iconst (pc := 10) X (v := 1) dX9_isBroad_10 rfl ?_
    refine g_goto (pc := 11) X (tgt := 15) dX9_isBroad_11 rfl ?_
    exact g_top (by rw [if_pos c0]) kJ
  · refine g_iload_n (pc := 5) X 0 rfl dX9_isBroad_5 ?_
    refine g_iconst (pc := 6) X (v := 3) dX9_isBroad_6 rfl ?_
    refine g_icmp_ne (pc := 7) X (tgt := 14) dX9_isBroad_7 rfl (fun c1 => ?_) (fun c1 => ?_)
    · refine g_iconst (pc := 14) X (v := 0) dX9_isBroad_14 rfl ?_
      exact g_top (by rw [if_neg c0, if_neg c1]) kJ
    · refine g_iconst (pc := 10) X (v := 1) dX9_isBroad_10 rfl ?_
      refine g_goto (pc := 11) X (tgt := 15) dX9_isBroad_11 rfl ?_
      exact g_top (by rw [if_neg c0, if_pos c1]) kJ

