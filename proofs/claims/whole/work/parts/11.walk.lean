/-! by program: the pure functions of the methods, and their walks -/
def j_X1_fare_43  (s0 : Int32) (w : Wd) : Option (Int32 × Wd) := (bd2 (f_X8_held s0 (-999) 999 w) fun r16 w17 =>
 some (r16, w17))
theorem bj_X1_fare_43 {t : Ct} {V : Vt} {r : Int32} {w' : Wd} (Y : Hd_ t V cX1_fare 6 RX1 { frames := 2, cells := 0, slots := 0, locals := 48 } (some .int) "fare") {s0 : Int32} {w : Wd} (h : j_X1_fare_43  s0 w = some (r, w')) : Gd t V 6 0 0 (Qe t V (some (.int r)) w' 0 0) 43 [] [.int s0] w := by
  have X := Y.1
  unfold j_X1_fare_43 at h
  refine g_sipush (pc := 43) X (v := (-999)) dX1_fare_43 rfl ?_
  refine g_sipush (pc := 46) X (v := 999) dX1_fare_46 rfl ?_
  obtain ⟨r16, w17, h18, h⟩ := bd2_i h
  refine g_callSN (pc := 49) X mk_X8_held q_502 (host := RX8) (by decide +kernel) (c_X8_held h18) rfl rfl (by rw [Y.2.1]; decide)  rfl (rest := []) rfl (Nat.le_of_ble_eq_true rfl) (by rw [Y.2.1]; exact ⟨Nat.le_of_ble_eq_true rfl, Nat.le_of_ble_eq_true rfl⟩) dX1_fare_49 (st' := [.int r16]) rfl ?_
  obtain ⟨e1, e2⟩ := rt_i h
  exact g_iret (pc := 52) X Y.2.2.1 (Nat.le_of_ble_eq_true rfl) (Nat.le_of_ble_eq_true rfl) e1 e2 dX1_fare_52

def f_X1_fare (v0 : Nat) (v1 : Int32) (v2 : Int32) (w : Wd) : Option (Int32 × Wd) := (if wK w v0 = 1 then
 (bd1 (wR w v0 4) fun a2 =>
 (if aK 11 w a2 0 = true then
 (lb_ (wI w a2 (nx 0)) fun x5 =>
 (bd1 (wR w v0 3) fun a7 =>
 (if aK 11 w a7 v1 = true then
 (lb_ (wI w a7 (nx v1)) fun x10 =>
 (bd2 (f_X1_lawOf v0 0 w) fun r12 w13 =>
 (mt_ r12
 (j_X1_fare_43 (x5 + x10) w13)
 fun a15 => (if wK w13 a15 = 7 then
 (bd2 (f_X7_value a15 x5 x10 v2 w13) fun r20 w21 =>
 j_X1_fare_43 r20 w21)
 else none))))
 else none)))
 else none))
 else none)
theorem c_X1_fare {l : Launch} {V : Vt} {v0 : Nat} {v1 : Int32} {v2 : Int32} {w w' : Wd} {r : Int32} (h : f_X1_fare v0 v1 v2 w = some (r, w')) : MetW l V yX1_fare cX1_fare 6 (some .int) { frames := 2, cells := 0, slots := 0, locals := 48 } w [rf V v0, .int v1, .int v2] (some (.int r)) w' 0 0 := by
  refine g_start (by decide) (Nat.le_of_ble_eq_true rfl) ?_
  intro t _ hrm X hret hnm
  have Y : Hd_ t V cX1_fare 6 RX1 { frames := 2, cells := 0, slots := 0, locals := 48 } (some .int) "fare" := ⟨X, hrm, hret, hnm⟩
  refine g_as (lv' := [(0, rf V v0), (1, .int v1), (2, .int v2)]) (st' := []) rfl rfl ?_
  unfold f_X1_fare at h
  refine g_aload_n (pc := 0) X 0 rfl dX1_fare_0 ?_
  obtain ⟨k1, h⟩ := gd_i h
  obtain ⟨a2, e3, h⟩ := bd1_i h
  refine g_getR (pc := 1) X FcX1 k1 4 e3 (by decide) rfl q_166 dX1_fare_1 ?_
  refine g_iconst (pc := 4) X (v := 0) dX1_fare_4 rfl ?_
  obtain ⟨k4, h⟩ := gd_i h
  refine g_iald (pc := 5) X k4 dX1_fare_5 ?_
  obtain ⟨x5, e6, h⟩ := lb_i h
  refine g_top e6 ?_
  refine g_istore_n (pc := 6) X (lv' := [(3, .int x5), (0, rf V v0), (1, .int v1), (2, .int v2)]) dX1_fare_6 (by decide) rfl ?_
  refine g_aload_n (pc := 7) X 1 rfl dX1_fare_7 ?_
  obtain ⟨a7, e8, h⟩ := bd1_i h
  refine g_getR (pc := 8) X FcX1 k1 3 e8 (by decide) rfl q_163 dX1_fare_8 ?_
  refine g_iload_n (pc := 11) X 2 rfl dX1_fare_11 ?_
  obtain ⟨k9, h⟩ := gd_i h
  refine g_iald (pc := 12) X k9 dX1_fare_12 ?_
  obtain ⟨x10, e11, h⟩ := lb_i h
  refine g_top e11 ?_
  refine g_istore (pc := 13) X (lv' := [(4, .int x10), (3, .int x5), (0, rf V v0), (1, .int v1), (2, .int v2)]) dX1_fare_13 (by decide) rfl ?_
  refine g_aload_n (pc := 15) X 2 rfl dX1_fare_15 ?_
  refine g_iconst (pc := 16) X (v := 0) dX1_fare_16 rfl ?_
  obtain ⟨r12, w13, h14, h⟩ := bd2_i h
  refine g_callV (pc := 17) X FcX1 k1 mk_X1_lawOf q_491 q_492 q_490 (c_X1_lawOf h14) rfl rfl (by rw [Y.2.1]; decide)  rfl (rest := []) rfl (Nat.le_of_ble_eq_true rfl) (by rw [Y.2.1]; exact ⟨Nat.le_of_ble_eq_true rfl, Nat.le_of_ble_eq_true rfl⟩) dX1_fare_17 (st' := [rq V r12]) rfl ?_
  refine g_astoreq (pc := 20) X (lv' := [(5, rq V r12), (4, .int x10), (3, .int x5), (0, rf V v0), (1, .int v1), (2, .int v2)]) dX1_fare_20 (by decide) rfl ?_
  refine g_aloadq (pc := 22) X 0 rfl dX1_fare_22 ?_
  rcases r12 with _ | a15
  · have h := mt_n h
    refine g_ifnonnullN (pc := 24) X dX1_fare_24 ?_
    refine g_iload_n (pc := 27) X 2 rfl dX1_fare_27 ?_
    refine g_iload (pc := 28) X 1 rfl dX1_fare_28 ?_
    refine g_iadd (pc := 30) X dX1_fare_30 ?_
    refine g_goto (pc := 31) X (tgt := 43) dX1_fare_31 rfl ?_
    refine g_sub (lv' := []) [] rfl ?_
    exact bj_X1_fare_43 Y  h
  · have h := mt_s h
    refine g_as (lv' := [(5, rf V a15), (4, .int x10), (3, .int x5), (0, rf V v0), (1, .int v1), (2, .int v2)]) (st' := [rf V a15]) rfl rfl ?_
    refine g_ifnonnullS (pc := 24) X (tgt := 34) dX1_fare_24 rfl ?_
    refine g_aload (pc := 34) X 0 rfl dX1_fare_34 ?_
    refine g_iload_n (pc := 36) X 2 rfl dX1_fare_36 ?_
    refine g_iload (pc := 37) X 1 rfl dX1_fare_37 ?_
    refine g_iload_n (pc := 39) X 5 rfl dX1_fare_39 ?_
    obtain ⟨k19, h⟩ := gd_i h
    obtain ⟨r20, w21, h22, h⟩ := bd2_i h
    refine g_callV (pc := 40) X FcX7 k19 mk_X7_value q_495 q_496 q_494 (c_X7_value h22) rfl rfl (by rw [Y.2.1]; decide)  rfl (rest := []) rfl (Nat.le_of_ble_eq_true rfl) (by rw [Y.2.1]; exact ⟨Nat.le_of_ble_eq_true rfl, Nat.le_of_ble_eq_true rfl⟩) dX1_fare_40 (st' := [.int r20]) rfl ?_
    refine g_sub (lv' := []) [] rfl ?_
    exact bj_X1_fare_43 Y  h

def f_X4_share (v0 : Nat) (v1 : Int32) (w : Wd) : Option (Int32 × Wd) := (if wK w v0 = 4 then
 (if (wI w v0 0) = 1 then
 some (2 * v1, w)
 else
 (if (wI w v0 0) = 2 then
 some (v1 - 2, w)
 else
 (if (wI w v0 0) = 3 then
 some ((2 * v1) + 1, w)
 else
 (if (wI w v0 0) = 4 then
 some ((v1 - 2) / 2, w)
 else
 some (v1, w)))))
 else none)
theorem c_X4_share {l : Launch} {V : Vt} {v0 : Nat} {v1 : Int32} {w w' : Wd} {r : Int32} (h : f_X4_share v0 v1 w = some (r, w')) : MetW l V yX4_share cX4_share 2 (some .int) { frames := 0, cells := 0, slots := 0, locals := 0 } w [rf V v0, .int v1] (some (.int r)) w' 0 0 := by
  refine g_start (by decide) (Nat.le_of_ble_eq_true rfl) ?_
  intro t _ hrm X hret hnm
  have Y : Hd_ t V cX4_share 2 RX4 { frames := 0, cells := 0, slots := 0, locals := 0 } (some .int) "share" := ⟨X, hrm, hret, hnm⟩
  refine g_as (lv' := [(0, rf V v0), (1, .int v1)]) (st' := []) rfl rfl ?_
  unfold f_X4_share at h
  refine g_aload_n (pc := 0) X 0 rfl dX4_share_0 ?_
  obtain ⟨k1, h⟩ := gd_i h
  refine g_getI (pc := 1) X FcX4 k1 0 (by decide) rfl q_134 dX4_share_1 ?_
  by_cases c2 : (wI w v0 0) = 1
  · have h := br_y c2 h
    refine g_tswI (pc := 4) X 1 (tgt := 36) dX4_share_4 c2 (by decide) (by decide) rfl rfl ?_
    refine g_iconst (pc := 36) X (v := 2) dX4_share_36 rfl ?_
    refine g_iload_n (pc := 37) X 1 rfl dX4_share_37 ?_
    refine g_imul (pc := 38) X dX4_share_38 ?_
    obtain ⟨e1, e2⟩ := rt_i h
    exact g_iret (pc := 39) X Y.2.2.1 (Nat.le_of_ble_eq_true rfl) (Nat.le_of_ble_eq_true rfl) e1 e2 dX4_share_39
  · have h := br_n c2 h
    by_cases c3 : (wI w v0 0) = 2
    · have h := br_y c3 h
      refine g_tswI (pc := 4) X 2 (tgt := 46) dX4_share_4 c3 (by decide) (by decide) rfl rfl ?_
      refine g_iload_n (pc := 46) X 1 rfl dX4_share_46 ?_
      refine g_iconst (pc := 47) X (v := 2) dX4_share_47 rfl ?_
      refine g_isub (pc := 48) X dX4_share_48 ?_
      obtain ⟨e1, e2⟩ := rt_i h
      exact g_iret (pc := 49) X Y.2.2.1 (Nat.le_of_ble_eq_true rfl) (Nat.le_of_ble_eq_true rfl) e1 e2 dX4_share_49
    · have h := br_n c3 h
      by_cases c4 : (wI w v0 0) = 3
      · have h := br_y c4 h
        refine g_tswI (pc := 4) X 3 (tgt := 40) dX4_share_4 c4 (by decide) (by decide) rfl rfl ?_
        refine g_iconst (pc := 40) X (v := 2) dX4_share_40 rfl ?_
        refine g_iload_n (pc := 41) X 1 rfl dX4_share_41 ?_
        refine g_imul (pc := 42) X dX4_share_42 ?_
        refine g_iconst (pc := 43) X (v := 1) dX4_share_43 rfl ?_
        refine g_iadd (pc := 44) X dX4_share_44 ?_
        obtain ⟨e1, e2⟩ := rt_i h
        exact g_iret (pc := 45) X Y.2.2.1 (Nat.le_of_ble_eq_true rfl) (Nat.le_of_ble_eq_true rfl) e1 e2 dX4_share_45
      · have h := br_n c4 h
        by_cases c5 : (wI w v0 0) = 4
        · have h := br_y c5 h
          refine g_tswI (pc := 4) X 4 (tgt := 50) dX4_share_4 c5 (by decide) (by decide) rfl rfl ?_
          refine g_iload_n (pc := 50) X 1 rfl dX4_share_50 ?_
          refine g_iconst (pc := 51) X (v := 2) dX4_share_51 rfl ?_
          refine g_isub (pc := 52) X dX4_share_52 ?_
          refine g_iconst (pc := 53) X (v := 2) dX4_share_53 rfl ?_
          refine g_idiv (pc := 54) X (by decide) dX4_share_54 ?_
          obtain ⟨e1, e2⟩ := rt_i h
          exact g_iret (pc := 55) X Y.2.2.1 (Nat.le_of_ble_eq_true rfl) (Nat.le_of_ble_eq_true rfl) e1 e2 dX4_share_55
        · have h := br_n c5 h
          refine g_tswO (pc := 4) X (tgt := 56) dX4_share_4 (by have n0 : Int32.toInt (wI w v0 0) ≠ 1 := nt_ c2; have n1 : Int32.toInt (wI w v0 0) ≠ 2 := nt_ c3; have n2 : Int32.toInt (wI w v0 0) ≠ 3 := nt_ c4; have n3 : Int32.toInt (wI w v0 0) ≠ 4 := nt_ c5; omega) rfl ?_
          refine g_iload_n (pc := 56) X 1 rfl dX4_share_56 ?_
          obtain ⟨e1, e2⟩ := rt_i h
          exact g_iret (pc := 57) X Y.2.2.1 (Nat.le_of_ble_eq_true rfl) (Nat.le_of_ble_eq_true rfl) e1 e2 dX4_share_57

def f_X1_seat (v0 : Nat) (v1 : Nat) (v2 : Int32) (w : Wd) : Option (Int32 × Wd) := (if wK w v1 = 4 then
 (if wK w v0 = 1 then
 (bd2 (f_X1_fare v0 v2 (wI w v1 3) w) fun r3 w4 =>
 (if wK w4 v1 = 4 then
 (bd2 (f_X4_share v1 r3 w4) fun r7 w8 =>
 (if wK w8 v1 = 4 then
 (lb_ (sI w8 v1 1 v2) fun w11 =>
 (lb_ (sI w11 v1 3 ((wI w11 v1 3) + 1)) fun w13 =>
 (bd2 (f_X8_held ((wI w13 v1 2) - r7) (-9999) 9999 w13) fun r15 w16 =>
 (if wK w16 v1 = 4 then
 (lb_ (sI w16 v1 2 r15) fun w19 =>
 (if wK w19 v0 = 1 then
 (lb_ (sI w19 v0 5 ((wI w19 v0 5) + r7)) fun w22 =>
 some (r7, w22))
 else none))
 else none))))
 else none))
 else none))
 else none)
 else none)
theorem c_X1_seat {l : Launch} {V : Vt} {v0 : Nat} {v1 : Nat} {v2 : Int32} {w w' : Wd} {r : Int32} (h : f_X1_seat v0 v1 v2 w = some (r, w')) : MetW l V yX1_seat cX1_seat 4 (some .int) { frames := 3, cells := 0, slots := 0, locals := 73 } w [rf V v0, rf V v1, .int v2] (some (.int r)) w' 0 0 := by
  refine g_start (by decide) (Nat.le_of_ble_eq_true rfl) ?_
  intro t _ hrm X hret hnm
  have Y : Hd_ t V cX1_seat 4 RX1 { frames := 3, cells := 0, slots := 0, locals := 73 } (some .int) "seat" := ⟨X, hrm, hret, hnm⟩
  refine g_as (lv' := [(0, rf V v0), (1, rf V v1), (2, .int v2)]) (st' := []) rfl rfl ?_
  unfold f_X1_seat at h
  refine g_aload_n (pc := 0) X 1 rfl dX1_seat_0 ?_
  refine g_aload_n (pc := 1) X 0 rfl dX1_seat_1 ?_
  refine g_iload_n (pc := 2) X 2 rfl dX1_seat_2 ?_
  refine g_aload_n (pc := 3) X 1 rfl dX1_seat_3 ?_
  obtain ⟨k1, h⟩ := gd_i h
  refine g_getI (pc := 4) X FcX4 k1 3 (by decide) rfl q_145 dX1_seat_4 ?_
  obtain ⟨k2, h⟩ := gd_i h
  obtain ⟨r3, w4, h5, h⟩ := bd2_i h
  refine g_callV (pc := 7) X FcX1 k2 mk_X1_fare q_487 q_488 q_486 (c_X1_fare h5) rfl rfl (by rw [Y.2.1]; decide)  rfl (rest := [rf V v1]) rfl (Nat.le_of_ble_eq_true rfl) (by rw [Y.2.1]; exact ⟨Nat.le_of_ble_eq_true rfl, Nat.le_of_ble_eq_true rfl⟩) dX1_seat_7 (st' := [.int r3, rf V v1]) rfl ?_
  obtain ⟨k6, h⟩ := gd_i h
  obtain ⟨r7, w8, h9, h⟩ := bd2_i h
  refine g_callV (pc := 10) X FcX4 k6 mk_X4_share q_505 q_506 q_504 (c_X4_share h9) rfl rfl (by rw [Y.2.1]; decide)  rfl (rest := []) rfl (Nat.le_of_ble_eq_true rfl) (by rw [Y.2.1]; exact ⟨Nat.le_of_ble_eq_true rfl, Nat.le_of_ble_eq_true rfl⟩) dX1_seat_10 (st' := [.int r7]) rfl ?_
  refine g_istore_n (pc := 13) X (lv' := [(3, .int r7), (0, rf V v0), (1, rf V v1), (2, .int v2)]) dX1_seat_13 (by decide) rfl ?_
  refine g_aload_n (pc := 14) X 2 rfl dX1_seat_14 ?_
  refine g_iload_n (pc := 15) X 3 rfl dX1_seat_15 ?_
  obtain ⟨k10, h⟩ := gd_i h
  refine g_putI (pc := 16) X FcX4 k10 1 (by decide) rfl q_138 rfl rfl rfl dX1_seat_16 ?_
  obtain ⟨w11, e12, h⟩ := lb_i h
  refine g_w e12 ?_
  refine g_aload_n (pc := 19) X 2 rfl dX1_seat_19 ?_
  refine g_dup (pc := 20) X rfl dX1_seat_20 ?_
  refine g_getI (pc := 21) X FcX4 (kd_I e12 k10) 3 (by decide) rfl q_145 dX1_seat_21 ?_
  refine g_iconst (pc := 24) X (v := 1) dX1_seat_24 rfl ?_
  refine g_iadd (pc := 25) X dX1_seat_25 ?_
  refine g_putI (pc := 26) X FcX4 (kd_I e12 k10) 3 (by decide) rfl q_145 rfl rfl rfl dX1_seat_26 ?_
  obtain ⟨w13, e14, h⟩ := lb_i h
  refine g_w e14 ?_
  refine g_aload_n (pc := 29) X 2 rfl dX1_seat_29 ?_
  refine g_aload_n (pc := 30) X 2 rfl dX1_seat_30 ?_
  refine g_getI (pc := 31) X FcX4 (kd_I e14 (kd_I e12 k10)) 2 (by decide) rfl q_142 dX1_seat_31 ?_
  refine g_iload_n (pc := 34) X 0 rfl dX1_seat_34 ?_
  refine g_isub (pc := 35) X dX1_seat_35 ?_
  refine g_sipush (pc := 36) X (v := (-9999)) dX1_seat_36 rfl ?_
  refine g_sipush (pc := 39) X (v := 9999) dX1_seat_39 rfl ?_
  obtain ⟨r15, w16, h17, h⟩ := bd2_i h
  refine g_callSN (pc := 42) X mk_X8_held q_502 (host := RX8) (by decide +kernel) (c_X8_held h17) rfl rfl (by rw [Y.2.1]; decide)  rfl (rest := [rf V v1]) rfl (Nat.le_of_ble_eq_true rfl) (by rw [Y.2.1]; exact ⟨Nat.le_of_ble_eq_true rfl, Nat.le_of_ble_eq_true rfl⟩) dX1_seat_42 (st' := [.int r15, rf V v1]) rfl ?_
  obtain ⟨k18, h⟩ := gd_i h
  refine g_putI (pc := 45) X FcX4 k18 2 (by decide) rfl q_142 rfl rfl rfl dX1_seat_45 ?_
  obtain ⟨w19, e20, h⟩ := lb_i h
  refine g_w e20 ?_
  refine g_aload_n (pc := 48) X 1 rfl dX1_seat_48 ?_
  refine g_dup (pc := 49) X rfl dX1_seat_49 ?_
  obtain ⟨k21, h⟩ := gd_i h
  refine g_getI (pc := 50) X FcX1 k21 5 (by decide) rfl q_169 dX1_seat_50 ?_
  refine g_iload_n (pc := 53) X 0 rfl dX1_seat_53 ?_
  refine g_iadd (pc := 54) X dX1_seat_54 ?_
  refine g_putI (pc := 55) X FcX1 k21 5 (by decide) rfl q_169 rfl rfl rfl dX1_seat_55 ?_
  obtain ⟨w22, e23, h⟩ := lb_i h
  refine g_w e23 ?_
  refine g_iload_n (pc := 58) X 0 rfl dX1_seat_58 ?_
  obtain ⟨e1, e2⟩ := rt_i h
  exact g_iret (pc := 59) X Y.2.2.1 (Nat.le_of_ble_eq_true rfl) (Nat.le_of_ble_eq_true rfl) e1 e2 dX1_seat_59

def f_X1_enact (v0 : Nat) (v1 : Nat) (w : Wd) : Option (Int32 × Wd) := (if wK w v0 = 1 then
 (if (wI w v0 9) < 14 then
 (bd1 (wR w v0 8) fun a2 =>
 (if wK w v1 = 7 then
 (if aK 16 w a2 (wI w v0 9) = true then
 (lb_ (sR w a2 (nx (wI w v0 9)) (some v1)) fun w6 =>
 (bd1 (wR w6 v0 10) fun a8 =>
 (if aK 11 w6 a8 (wI w6 v1 0) = true then
 (lb_ (sI w6 a8 (nx (wI w6 v1 0)) (wI w6 v0 9)) fun w11 =>
 (lb_ (sI w11 v0 9 ((wI w11 v0 9) + 1)) fun w13 =>
 some ((wI w13 v0 9) - 1, w13)))
 else none)))
 else none)
 else none))
 else
 some ((-1000000003), w))
 else none)
theorem c_X1_enact {l : Launch} {V : Vt} {v0 : Nat} {v1 : Nat} {w w' : Wd} {r : Int32} (h : f_X1_enact v0 v1 w = some (r, w')) : MetW l V yX1_enact cX1_enact 2 (some .int) { frames := 0, cells := 0, slots := 0, locals := 0 } w [rf V v0, rf V v1] (some (.int r)) w' 0 0 := by
  refine g_start (by decide) (Nat.le_of_ble_eq_true rfl) ?_
  intro t _ hrm X hret hnm
  have Y : Hd_ t V cX1_enact 2 RX1 { frames := 0, cells := 0, slots := 0, locals := 0 } (some .int) "enact" := ⟨X, hrm, hret, hnm⟩
  refine g_as (lv' := [(0, rf V v0), (1, rf V v1)]) (st' := []) rfl rfl ?_
  unfold f_X1_enact at h
  refine g_aload_n (pc := 0) X 0 rfl dX1_enact_0 ?_
  obtain ⟨k1, h⟩ := gd_i h
  refine g_getI (pc := 1) X FcX1 k1 9 (by decide) rfl q_177 dX1_enact_1 ?_
  refine g_bipush (pc := 4) X (v := 14) dX1_enact_4 rfl ?_
  refine g_icmp_lt (pc := 6) X (tgt := 12) dX1_enact_6 rfl (fun c => ?_) (fun c => ?_)
  · have h := br_y c h
    refine g_aload_n (pc := 12) X 0 rfl dX1_enact_12 ?_
    obtain ⟨a2, e3, h⟩ := bd1_i h
    refine g_getR (pc := 13) X FcX1 k1 8 e3 (by decide) rfl q_175 dX1_enact_13 ?_
    refine g_aload_n (pc := 16) X 0 rfl dX1_enact_16 ?_
    refine g_getI (pc := 17) X FcX1 k1 9 (by decide) rfl q_177 dX1_enact_17 ?_
    refine g_aload_n (pc := 20) X 1 rfl dX1_enact_20 ?_
    obtain ⟨k4, h⟩ := gd_i h
    obtain ⟨k5, h⟩ := gd_i h
    refine g_aast (pc := 21) X FcX7 k4 k5 (by decide) (by decide) rfl dX1_enact_21 ?_
    obtain ⟨w6, e7, h⟩ := lb_i h
    refine g_w e7 ?_
    refine g_aload_n (pc := 22) X 0 rfl dX1_enact_22 ?_
    obtain ⟨a8, e9, h⟩ := bd1_i h
    refine g_getR (pc := 23) X FcX1 (kd_R e7 k1) 10 e9 (by decide) rfl q_179 dX1_enact_23 ?_
    refine g_aload_n (pc := 26) X 1 rfl dX1_enact_26 ?_
    refine g_getI (pc := 27) X FcX7 (kd_R e7 k4) 0 (by decide) rfl q_898 dX1_enact_27 ?_
    refine g_aload_n (pc := 30) X 0 rfl dX1_enact_30 ?_
    refine g_getI (pc := 31) X FcX1 (kd_R e7 k1) 9 (by decide) rfl q_177 dX1_enact_31 ?_
    obtain ⟨k10, h⟩ := gd_i h
    refine g_iast (pc := 34) X k10 dX1_enact_34 ?_
    obtain ⟨w11, e12, h⟩ := lb_i h
    refine g_w e12 ?_
    refine g_aload_n (pc := 35) X 0 rfl dX1_enact_35 ?_
    refine g_dup (pc := 36) X rfl dX1_enact_36 ?_
    refine g_getI (pc := 37) X FcX1 (kd_I e12 (kd_R e7 k1)) 9 (by decide) rfl q_177 dX1_enact_37 ?_
    refine g_iconst (pc := 40) X (v := 1) dX1_enact_40 rfl ?_
    refine g_iadd (pc := 41) X dX1_enact_41 ?_
    refine g_putI (pc := 42) X FcX1 (kd_I e12 (kd_R e7 k1)) 9 (by decide) rfl q_177 rfl rfl rfl dX1_enact_42 ?_
    obtain ⟨w13, e14, h⟩ := lb_i h
    refine g_w e14 ?_
    refine g_aload_n (pc := 45) X 0 rfl dX1_enact_45 ?_
    refine g_getI (pc := 46) X FcX1 (kd_I e14 (kd_I e12 (kd_R e7 k1))) 9 (by decide) rfl q_177 dX1_enact_46 ?_
    refine g_iconst (pc := 49) X (v := 1) dX1_enact_49 rfl ?_
    refine g_isub (pc := 50) X dX1_enact_50 ?_
    obtain ⟨e1, e2⟩ := rt_i h
    exact g_iret (pc := 51) X Y.2.2.1 (Nat.le_of_ble_eq_true rfl) (Nat.le_of_ble_eq_true rfl) e1 e2 dX1_enact_51
  · have h := br_n c h
    refine g_ldc (pc := 9) X q_397 dX1_enact_9 ?_
    obtain ⟨e1, e2⟩ := rt_i h
    exact g_iret (pc := 11) X Y.2.2.1 (Nat.le_of_ble_eq_true rfl) (Nat.le_of_ble_eq_true rfl) e1 e2 dX1_enact_11

def f_X1_draw (v0 : Nat) (w : Wd) : Option (Int32 × Wd) := (if wK w v0 = 1 then
 (lb_ (sI w v0 7 (((wI w v0 7) * 1103515245) + 12345)) fun w2 =>
 some (ushr (wI w2 v0 7) 8, w2))
 else none)
theorem c_X1_draw {l : Launch} {V : Vt} {v0 : Nat} {w w' : Wd} {r : Int32} (h : f_X1_draw v0 w = some (r, w')) : MetW l V yX1_draw cX1_draw 1 (some .int) { frames := 0, cells := 0, slots := 0, locals := 0 } w [rf V v0] (some (.int r)) w' 0 0 := by
  refine g_start (by decide) (Nat.le_of_ble_eq_true rfl) ?_
  intro t _ hrm X hret hnm
  have Y : Hd_ t V cX1_draw 1 RX1 { frames := 0, cells := 0, slots := 0, locals := 0 } (some .int) "draw" := ⟨X, hrm, hret, hnm⟩
  refine g_as (lv' := [(0, rf V v0)]) (st' := []) rfl rfl ?_
  unfold f_X1_draw at h
  refine g_aload_n (pc := 0) X 0 rfl dX1_draw_0 ?_
  refine g_aload_n (pc := 1) X 0 rfl dX1_draw_1 ?_
  obtain ⟨k1, h⟩ := gd_i h
  refine g_getI (pc := 2) X FcX1 k1 7 (by decide) rfl q_173 dX1_draw_2 ?_
  refine g_ldc (pc := 5) X q_538 dX1_draw_5 ?_
  refine g_imul (pc := 7) X dX1_draw_7 ?_
  refine g_sipush (pc := 8) X (v := 12345) dX1_draw_8 rfl ?_
  refine g_iadd (pc := 11) X dX1_draw_11 ?_
  refine g_putI (pc := 12) X FcX1 k1 7 (by decide) rfl q_173 rfl rfl rfl dX1_draw_12 ?_
  obtain ⟨w2, e3, h⟩ := lb_i h
  refine g_w e3 ?_
  refine g_aload_n (pc := 15) X 0 rfl dX1_draw_15 ?_
  refine g_getI (pc := 16) X FcX1 (kd_I e3 k1) 7 (by decide) rfl q_173 dX1_draw_16 ?_
  refine g_bipush (pc := 19) X (v := 8) dX1_draw_19 rfl ?_
  refine g_iushr (pc := 21) X dX1_draw_21 ?_
  obtain ⟨e1, e2⟩ := rt_i h
  exact g_iret (pc := 22) X Y.2.2.1 (Nat.le_of_ble_eq_true rfl) (Nat.le_of_ble_eq_true rfl) e1 e2 dX1_draw_22

def f_X8_has (v0 : Int32) (v1 : Int32) (w : Wd) : Option (Int32 × Wd) := some ((if ((v0 >>> (v1 &&& 31)) &&& 1) = 1 then 1 else 0 : Int32), w)
theorem c_X8_has {l : Launch} {V : Vt} {v0 : Int32} {v1 : Int32} {w w' : Wd} {r : Int32} (h : f_X8_has v0 v1 w = some (r, w')) : MetW l V yX8_has cX8_has 2 (some .boolean) { frames := 0, cells := 0, slots := 0, locals := 0 } w [.int v0, .int v1] (some (.int r)) w' 0 0 := by
  refine g_start (by decide) (Nat.le_of_ble_eq_true rfl) ?_
  intro t _ hrm X hret hnm
  have Y : Hd_ t V cX8_has 2 RX8 { frames := 0, cells := 0, slots := 0, locals := 0 } (some .boolean) "has" := ⟨X, hrm, hret, hnm⟩
  refine g_as (lv' := [(0, .int v0), (1, .int v1)]) (st' := []) rfl rfl ?_
  unfold f_X8_has at h
  refine g_iload_n (pc := 0) X 0 rfl dX8_has_0 ?_
  refine g_iload_n (pc := 1) X 1 rfl dX8_has_1 ?_
  refine g_ishr (pc := 2) X dX8_has_2 ?_
  refine g_iconst (pc := 3) X (v := 1) dX8_has_3 rfl ?_
  refine g_iand (pc := 4) X dX8_has_4 ?_
  refine g_iconst (pc := 5) X (v := 1) dX8_has_5 rfl ?_
  have kJ : Gd t V 2 0 0 (Qe t V (some (.int r)) w' 0 0) 14 [(0, .int v0), (1, .int v1)] [.int (if ((v0 >>> (v1 &&& 31)) &&& 1) = 1 then 1 else 0 : Int32)] w := by
    obtain ⟨e1, e2⟩ := rt_i h
    exact g_zret (pc := 14) X Y.2.2.1 (bz_ite (Or.inr rfl) (Or.inl rfl)) (Nat.le_of_ble_eq_true rfl) (Nat.le_of_ble_eq_true rfl) e1 e2 dX8_has_14
  refine g_icmp_ne (pc := 6) X (tgt := 13) dX8_has_6 rfl (fun c0 => ?_) (fun c0 => ?_)
  · refine g_iconst (pc := 13) X (v := 0) dX8_has_13 rfl ?_
    exact g_top (by rw [if_neg c0]) kJ
  · refine g_iconst (pc := 9) X (v := 1) dX8_has_9 rfl ?_
    refine g_goto (pc := 10) X (tgt := 14) dX8_has_10 rfl ?_
    exact g_top (by rw [if_pos c0]) kJ

def L_X1_nthOf_5  (n : Nat) (v0 : Nat) (v1 : Int32) (v2 : Int32) (v3 : Int32) (v4 : Int32) (w : Wd) : Option (Int32 × Wd) := match n with
  | 0 => none
  | n + 1 => (if wK w v0 = 1 then
 (bd1 (wR w v0 0) fun a2 =>
 (if wK w a2 = 0 then
 (if (wI w a2 0) ≤ v4 then
 some ((-1000000005), w)
 else
 (bd2 (f_X8_has v1 v4 w) fun r5 w6 =>
 (if r5 = 0 then
 (lb_ (v4 + 1) fun x8 =>
 L_X1_nthOf_5 n v0 v1 v2 v3 x8 w6)
 else
 (if v3 = v2 then
 some (v4, w6)
 else
 (lb_ (v3 + 1) fun x10 =>
 (lb_ (v4 + 1) fun x12 =>
 L_X1_nthOf_5 n v0 v1 v2 x10 x12 w6))))))
 else none))
 else none)
theorem bL_X1_nthOf_5 {t : Ct} {V : Vt} {r : Int32} {w' : Wd} (Y : Hd_ t V cX1_nthOf 5 RX1 { frames := 1, cells := 0, slots := 0, locals := 21 } (some .int) "nthOf") : ∀ {n : Nat} {v0 : Nat} {v1 : Int32} {v2 : Int32} {v3 : Int32} {v4 : Int32} {w : Wd}, L_X1_nthOf_5  n v0 v1 v2 v3 v4 w = some (r, w') → Gd t V 5 0 0 (Qe t V (some (.int r)) w' 0 0) 5 [(0, rf V v0), (1, .int v1), (2, .int v2), (3, .int v3), (4, .int v4)] [] w := by
  have X := Y.1
  intro n
  induction n with
  | zero => intro v0 v1 v2 v3 v4 w h; cases h
  | succ n ih0 =>
    have ih : ∀ (v0 : Nat) (v1 : Int32) (v2 : Int32) (v3 : Int32) (v4 : Int32) (w : Wd), L_X1_nthOf_5  n v0 v1 v2 v3 v4 w = some (r, w') → Gd t V 5 0 0 (Qe t V (some (.int r)) w' 0 0) 5 [(0, rf V v0), (1, .int v1), (2, .int v2), (3, .int v3), (4, .int v4)] [] w := fun v0 v1 v2 v3 v4 w h => ih0 h
    clear ih0
    intro v0 v1 v2 v3 v4 w h
    unfold L_X1_nthOf_5 at h
    refine g_iload (pc := 5) X 4 rfl dX1_nthOf_5 ?_
    refine g_aload_n (pc := 7) X 0 rfl dX1_nthOf_7 ?_
    obtain ⟨k1, h⟩ := gd_i h
    obtain ⟨a2, e3, h⟩ := bd1_i h
    refine g_getR (pc := 8) X FcX1 k1 0 e3 (by decide) rfl q_156 dX1_nthOf_8 ?_
    obtain ⟨k4, h⟩ := gd_i h
    refine g_getI (pc := 11) X FcX0 k4 0 (by decide) rfl q_104 dX1_nthOf_11 ?_
    refine g_icmp_ge (pc := 14) X (tgt := 43) dX1_nthOf_14 rfl (fun c => ?_) (fun c => ?_)
    · have h := br_y c h
      refine g_ldc (pc := 43) X q_128 dX1_nthOf_43 ?_
      obtain ⟨e1, e2⟩ := rt_i h
      exact g_iret (pc := 45) X Y.2.2.1 (Nat.le_of_ble_eq_true rfl) (Nat.le_of_ble_eq_true rfl) e1 e2 dX1_nthOf_45
    · have h := br_n c h
      refine g_iload_n (pc := 17) X 1 rfl dX1_nthOf_17 ?_
      refine g_iload (pc := 18) X 4 rfl dX1_nthOf_18 ?_
      obtain ⟨r5, w6, h7, h⟩ := bd2_i h
      refine g_callSN (pc := 20) X mk_X8_has q_480 (host := RX8) (by decide +kernel) (c_X8_has h7) rfl rfl (by rw [Y.2.1]; decide)  rfl (rest := []) rfl (Nat.le_of_ble_eq_true rfl) (by rw [Y.2.1]; exact ⟨Nat.le_of_ble_eq_true rfl, Nat.le_of_ble_eq_true rfl⟩) dX1_nthOf_20 (st' := [.int r5]) rfl ?_
      refine g_if_eq (pc := 23) X (tgt := 37) dX1_nthOf_23 rfl (fun c => ?_) (fun c => ?_)
      · have h := br_y c h
        obtain ⟨x8, e9, h⟩ := lb_i h
        refine g_iinc (pc := 37) X 4 rfl dX1_nthOf_37 (v := x8) e9.symm (by decide) (lv' := [(4, .int x8), (0, rf V v0), (1, .int v1), (2, .int v2), (3, .int v3)]) rfl ?_
        refine g_goto (pc := 40) X (tgt := 5) dX1_nthOf_40 rfl ?_
        refine g_sub (lv' := [(0, rf V v0), (1, .int v1), (2, .int v2), (3, .int v3), (4, .int x8)]) [1, 2, 3, 4, 0] rfl ?_
        exact ih _ _ _ _ _ _ h
      · have h := br_n c h
        refine g_iload_n (pc := 26) X 3 rfl dX1_nthOf_26 ?_
        refine g_iload_n (pc := 27) X 2 rfl dX1_nthOf_27 ?_
        refine g_icmp_ne (pc := 28) X (tgt := 34) dX1_nthOf_28 rfl (fun c => ?_) (fun c => ?_)
        · have h := br_n c h
          obtain ⟨x10, e11, h⟩ := lb_i h
          refine g_iinc (pc := 34) X 3 rfl dX1_nthOf_34 (v := x10) e11.symm (by decide) (lv' := [(3, .int x10), (0, rf V v0), (1, .int v1), (2, .int v2), (4, .int v4)]) rfl ?_
          obtain ⟨x12, e13, h⟩ := lb_i h
          refine g_iinc (pc := 37) X 4 rfl dX1_nthOf_37 (v := x12) e13.symm (by decide) (lv' := [(4, .int x12), (3, .int x10), (0, rf V v0), (1, .int v1), (2, .int v2)]) rfl ?_
          refine g_goto (pc := 40) X (tgt := 5) dX1_nthOf_40 rfl ?_
          refine g_sub (lv' := [(0, rf V v0), (1, .int v1), (2, .int v2), (3, .int x10), (4, .int x12)]) [2, 3, 4, 1, 0] rfl ?_
          exact ih _ _ _ _ _ _ h
        · have h := br_y c h
          refine g_iload (pc := 31) X 4 rfl dX1_nthOf_31 ?_
          obtain ⟨e1, e2⟩ := rt_i h
          exact g_iret (pc := 33) X Y.2.2.1 (Nat.le_of_ble_eq_true rfl) (Nat.le_of_ble_eq_true rfl) e1 e2 dX1_nthOf_33

def f_X1_nthOf (v0 : Nat) (v1 : Int32) (v2 : Int32) (w : Wd) : Option (Int32 × Wd) := L_X1_nthOf_5 FU v0 v1 v2 0 0 w
theorem c_X1_nthOf {l : Launch} {V : Vt} {v0 : Nat} {v1 : Int32} {v2 : Int32} {w w' : Wd} {r : Int32} (h : f_X1_nthOf v0 v1 v2 w = some (r, w')) : MetW l V yX1_nthOf cX1_nthOf 5 (some .int) { frames := 1, cells := 0, slots := 0, locals := 21 } w [rf V v0, .int v1, .int v2] (some (.int r)) w' 0 0 := by
  refine g_start (by decide) (Nat.le_of_ble_eq_true rfl) ?_
  intro t _ hrm X hret hnm
  have Y : Hd_ t V cX1_nthOf 5 RX1 { frames := 1, cells := 0, slots := 0, locals := 21 } (some .int) "nthOf" := ⟨X, hrm, hret, hnm⟩
  refine g_as (lv' := [(0, rf V v0), (1, .int v1), (2, .int v2)]) (st' := []) rfl rfl ?_
  unfold f_X1_nthOf at h
  refine g_iconst (pc := 0) X (v := 0) dX1_nthOf_0 rfl ?_
  refine g_istore_n (pc := 1) X (lv' := [(3, .int 0), (0, rf V v0), (1, .int v1), (2, .int v2)]) dX1_nthOf_1 (by decide) rfl ?_
  refine g_iconst (pc := 2) X (v := 0) dX1_nthOf_2 rfl ?_
  refine g_istore (pc := 3) X (lv' := [(4, .int 0), (3, .int 0), (0, rf V v0), (1, .int v1), (2, .int v2)]) dX1_nthOf_3 (by decide) rfl ?_
  refine g_sub (lv' := [(0, rf V v0), (1, .int v1), (2, .int v2), (3, .int 0), (4, .int 0)]) [2, 3, 4, 1, 0] rfl ?_
  exact bL_X1_nthOf_5 Y  h

def j_J6_numberOfTrailingZeros_0f7a4_74  (v0 : Int32) (v1 : Int32) (w : Wd) : Option (Int32 × Wd) := some (v1 + (ushr v0 1), w)
theorem bj_J6_numberOfTrailingZeros_0f7a4_74 {t : Ct} {V : Vt} {r : Int32} {w' : Wd} (Y : Hd_ t V cJ6_numberOfTrailingZeros_0f7a4 2 RJ6 { frames := 0, cells := 0, slots := 0, locals := 0 } (some .int) "numberOfTrailingZeros") {v0 : Int32} {v1 : Int32} {w : Wd} (h : j_J6_numberOfTrailingZeros_0f7a4_74  v0 v1 w = some (r, w')) : Gd t V 2 0 0 (Qe t V (some (.int r)) w' 0 0) 74 [(0, .int v0), (1, .int v1)] [] w := by
  have X := Y.1
  unfold j_J6_numberOfTrailingZeros_0f7a4_74 at h
  refine g_iload_n (pc := 74) X 1 rfl dJ6_numberOfTrailingZeros_0f7a4_74 ?_
  refine g_iload_n (pc := 75) X 0 rfl dJ6_numberOfTrailingZeros_0f7a4_75 ?_
  refine g_iconst (pc := 76) X (v := 1) dJ6_numberOfTrailingZeros_0f7a4_76 rfl ?_
  refine g_iushr (pc := 77) X dJ6_numberOfTrailingZeros_0f7a4_77 ?_
  refine g_iadd (pc := 78) X dJ6_numberOfTrailingZeros_0f7a4_78 ?_
  obtain ⟨e1, e2⟩ := rt_i h
  exact g_iret (pc := 79) X Y.2.2.1 (Nat.le_of_ble_eq_true rfl) (Nat.le_of_ble_eq_true rfl) e1 e2 dJ6_numberOfTrailingZeros_0f7a4_79

def j_J6_numberOfTrailingZeros_0f7a4_62  (v0 : Int32) (v1 : Int32) (w : Wd) : Option (Int32 × Wd) := (if v0 ≤ 4 then
 j_J6_numberOfTrailingZeros_0f7a4_74 v0 v1 w
 else
 (lb_ (v1 + 2) fun x3 =>
 (lb_ (ushr v0 2) fun x5 =>
 j_J6_numberOfTrailingZeros_0f7a4_74 x5 x3 w)))
theorem bj_J6_numberOfTrailingZeros_0f7a4_62 {t : Ct} {V : Vt} {r : Int32} {w' : Wd} (Y : Hd_ t V cJ6_numberOfTrailingZeros_0f7a4 2 RJ6 { frames := 0, cells := 0, slots := 0, locals := 0 } (some .int) "numberOfTrailingZeros") {v0 : Int32} {v1 : Int32} {w : Wd} (h : j_J6_numberOfTrailingZeros_0f7a4_62  v0 v1 w = some (r, w')) : Gd t V 2 0 0 (Qe t V (some (.int r)) w' 0 0) 62 [(0, .int v0), (1, .int v1)] [] w := by
  have X := Y.1
  unfold j_J6_numberOfTrailingZeros_0f7a4_62 at h
  refine g_iload_n (pc := 62) X 0 rfl dJ6_numberOfTrailingZeros_0f7a4_62 ?_
  refine g_iconst (pc := 63) X (v := 4) dJ6_numberOfTrailingZeros_0f7a4_63 rfl ?_
  refine g_icmp_le (pc := 64) X (tgt := 74) dJ6_numberOfTrailingZeros_0f7a4_64 rfl (fun c => ?_) (fun c => ?_)
  · have h := br_y c h
    refine g_sub (lv' := [(0, .int v0), (1, .int v1)]) [0, 1] rfl ?_
    exact bj_J6_numberOfTrailingZeros_0f7a4_74 Y  h
  · have h := br_n c h
    obtain ⟨x3, e4, h⟩ := lb_i h
    refine g_iinc (pc := 67) X 1 rfl dJ6_numberOfTrailingZeros_0f7a4_67 (v := x3) e4.symm (by decide) (lv' := [(1, .int x3), (0, .int v0)]) rfl ?_
    refine g_iload_n (pc := 70) X 1 rfl dJ6_numberOfTrailingZeros_0f7a4_70 ?_
    refine g_iconst (pc := 71) X (v := 2) dJ6_numberOfTrailingZeros_0f7a4_71 rfl ?_
    refine g_iushr (pc := 72) X dJ6_numberOfTrailingZeros_0f7a4_72 ?_
    obtain ⟨x5, e6, h⟩ := lb_i h
    refine g_top e6 ?_
    refine g_istore_n (pc := 73) X (lv' := [(0, .int x5), (1, .int x3)]) dJ6_numberOfTrailingZeros_0f7a4_73 (by decide) rfl ?_
    refine g_sub (lv' := [(0, .int x5), (1, .int x3)]) [0, 1] rfl ?_
    exact bj_J6_numberOfTrailingZeros_0f7a4_74 Y  h

def j_J6_numberOfTrailingZeros_0f7a4_49  (v0 : Int32) (v1 : Int32) (w : Wd) : Option (Int32 × Wd) := (if v0 ≤ 16 then
 j_J6_numberOfTrailingZeros_0f7a4_62 v0 v1 w
 else
 (lb_ (v1 + 4) fun x7 =>
 (lb_ (ushr v0 4) fun x9 =>
 j_J6_numberOfTrailingZeros_0f7a4_62 x9 x7 w)))
theorem bj_J6_numberOfTrailingZeros_0f7a4_49 {t : Ct} {V : Vt} {r : Int32} {w' : Wd} (Y : Hd_ t V cJ6_numberOfTrailingZeros_0f7a4 2 RJ6 { frames := 0, cells := 0, slots := 0, locals := 0 } (some .int) "numberOfTrailingZeros") {v0 : Int32} {v1 : Int32} {w : Wd} (h : j_J6_numberOfTrailingZeros_0f7a4_49  v0 v1 w = some (r, w')) : Gd t V 2 0 0 (Qe t V (some (.int r)) w' 0 0) 49 [(0, .int v0), (1, .int v1)] [] w := by
  have X := Y.1
  unfold j_J6_numberOfTrailingZeros_0f7a4_49 at h
  refine g_iload_n (pc := 49) X 0 rfl dJ6_numberOfTrailingZeros_0f7a4_49 ?_
  refine g_bipush (pc := 50) X (v := 16) dJ6_numberOfTrailingZeros_0f7a4_50 rfl ?_
  refine g_icmp_le (pc := 52) X (tgt := 62) dJ6_numberOfTrailingZeros_0f7a4_52 rfl (fun c => ?_) (fun c => ?_)
  · have h := br_y c h
    refine g_sub (lv' := [(0, .int v0), (1, .int v1)]) [0, 1] rfl ?_
    exact bj_J6_numberOfTrailingZeros_0f7a4_62 Y  h
  · have h := br_n c h
    obtain ⟨x7, e8, h⟩ := lb_i h
    refine g_iinc (pc := 55) X 1 rfl dJ6_numberOfTrailingZeros_0f7a4_55 (v := x7) e8.symm (by decide) (lv' := [(1, .int x7), (0, .int v0)]) rfl ?_
    refine g_iload_n (pc := 58) X 1 rfl dJ6_numberOfTrailingZeros_0f7a4_58 ?_
    refine g_iconst (pc := 59) X (v := 4) dJ6_numberOfTrailingZeros_0f7a4_59 rfl ?_
    refine g_iushr (pc := 60) X dJ6_numberOfTrailingZeros_0f7a4_60 ?_
    obtain ⟨x9, e10, h⟩ := lb_i h
    refine g_top e10 ?_
    refine g_istore_n (pc := 61) X (lv' := [(0, .int x9), (1, .int x7)]) dJ6_numberOfTrailingZeros_0f7a4_61 (by decide) rfl ?_
    refine g_sub (lv' := [(0, .int x9), (1, .int x7)]) [0, 1] rfl ?_
    exact bj_J6_numberOfTrailingZeros_0f7a4_62 Y  h

def j_J6_numberOfTrailingZeros_0f7a4_34  (v0 : Int32) (v1 : Int32) (w : Wd) : Option (Int32 × Wd) := (if v0 ≤ 256 then
 j_J6_numberOfTrailingZeros_0f7a4_49 v0 v1 w
 else
 (lb_ (v1 + 8) fun x11 =>
 (lb_ (ushr v0 8) fun x13 =>
 j_J6_numberOfTrailingZeros_0f7a4_49 x13 x11 w)))
theorem bj_J6_numberOfTrailingZeros_0f7a4_34 {t : Ct} {V : Vt} {r : Int32} {w' : Wd} (Y : Hd_ t V cJ6_numberOfTrailingZeros_0f7a4 2 RJ6 { frames := 0, cells := 0, slots := 0, locals := 0 } (some .int) "numberOfTrailingZeros") {v0 : Int32} {v1 : Int32} {w : Wd} (h : j_J6_numberOfTrailingZeros_0f7a4_34  v0 v1 w = some (r, w')) : Gd t V 2 0 0 (Qe t V (some (.int r)) w' 0 0) 34 [(0, .int v0), (1, .int v1)] [] w := by
  have X := Y.1
  unfold j_J6_numberOfTrailingZeros_0f7a4_34 at h
  refine g_iload_n (pc := 34) X 0 rfl dJ6_numberOfTrailingZeros_0f7a4_34 ?_
  refine g_sipush (pc := 35) X (v := 256) dJ6_numberOfTrailingZeros_0f7a4_35 rfl ?_
  refine g_icmp_le (pc := 38) X (tgt := 49) dJ6_numberOfTrailingZeros_0f7a4_38 rfl (fun c => ?_) (fun c => ?_)
  · have h := br_y c h
    refine g_sub (lv' := [(0, .int v0), (1, .int v1)]) [0, 1] rfl ?_
    exact bj_J6_numberOfTrailingZeros_0f7a4_49 Y  h
  · have h := br_n c h
    obtain ⟨x11, e12, h⟩ := lb_i h
    refine g_iinc (pc := 41) X 1 rfl dJ6_numberOfTrailingZeros_0f7a4_41 (v := x11) e12.symm (by decide) (lv' := [(1, .int x11), (0, .int v0)]) rfl ?_
    refine g_iload_n (pc := 44) X 1 rfl dJ6_numberOfTrailingZeros_0f7a4_44 ?_
    refine g_bipush (pc := 45) X (v := 8) dJ6_numberOfTrailingZeros_0f7a4_45 rfl ?_
    refine g_iushr (pc := 47) X dJ6_numberOfTrailingZeros_0f7a4_47 ?_
    obtain ⟨x13, e14, h⟩ := lb_i h
    refine g_top e14 ?_
    refine g_istore_n (pc := 48) X (lv' := [(0, .int x13), (1, .int x11)]) dJ6_numberOfTrailingZeros_0f7a4_48 (by decide) rfl ?_
    refine g_sub (lv' := [(0, .int x13), (1, .int x11)]) [0, 1] rfl ?_
    exact bj_J6_numberOfTrailingZeros_0f7a4_49 Y  h

def f_J6_numberOfTrailingZeros_0f7a4 (v0 : Int32) (w : Wd) : Option (Int32 × Wd) := (lb_ ((v0 ^^^ (-1)) &&& (v0 - 1)) fun x1 =>
 (if 0 < x1 then
 (if x1 ≤ 65536 then
 j_J6_numberOfTrailingZeros_0f7a4_34 x1 1 w
 else
 (lb_ (ushr x1 16) fun x15 =>
 j_J6_numberOfTrailingZeros_0f7a4_34 x15 17 w))
 else
 some (x1 &&& 32, w)))
theorem c_J6_numberOfTrailingZeros_0f7a4 {l : Launch} {V : Vt} {v0 : Int32} {w w' : Wd} {r : Int32} (h : f_J6_numberOfTrailingZeros_0f7a4 v0 w = some (r, w')) : MetW l V yJ6_numberOfTrailingZeros_0f7a4 cJ6_numberOfTrailingZeros_0f7a4 2 (some .int) { frames := 0, cells := 0, slots := 0, locals := 0 } w [.int v0] (some (.int r)) w' 0 0 := by
  refine g_start (by decide) (Nat.le_of_ble_eq_true rfl) ?_
  intro t _ hrm X hret hnm
  have Y : Hd_ t V cJ6_numberOfTrailingZeros_0f7a4 2 RJ6 { frames := 0, cells := 0, slots := 0, locals := 0 } (some .int) "numberOfTrailingZeros" := ⟨X, hrm, hret, hnm⟩
  refine g_as (lv' := [(0, .int v0)]) (st' := []) rfl rfl ?_
  unfold f_J6_numberOfTrailingZeros_0f7a4 at h
  refine g_iload_n (pc := 0) X 0 rfl dJ6_numberOfTrailingZeros_0f7a4_0 ?_
  refine g_iconst (pc := 1) X (v := (-1)) dJ6_numberOfTrailingZeros_0f7a4_1 rfl ?_
  refine g_ixor (pc := 2) X dJ6_numberOfTrailingZeros_0f7a4_2 ?_
  refine g_iload_n (pc := 3) X 0 rfl dJ6_numberOfTrailingZeros_0f7a4_3 ?_
  refine g_iconst (pc := 4) X (v := 1) dJ6_numberOfTrailingZeros_0f7a4_4 rfl ?_
  refine g_isub (pc := 5) X dJ6_numberOfTrailingZeros_0f7a4_5 ?_
  refine g_iand (pc := 6) X dJ6_numberOfTrailingZeros_0f7a4_6 ?_
  obtain ⟨x1, e2, h⟩ := lb_i h
  refine g_top e2 ?_
  refine g_istore_n (pc := 7) X (lv' := [(0, .int x1)]) dJ6_numberOfTrailingZeros_0f7a4_7 (by decide) rfl ?_
  refine g_iload_n (pc := 8) X 0 rfl dJ6_numberOfTrailingZeros_0f7a4_8 ?_
  refine g_if_gt (pc := 9) X (tgt := 17) dJ6_numberOfTrailingZeros_0f7a4_9 rfl (fun c => ?_) (fun c => ?_)
  · have h := br_y c h
    refine g_iconst (pc := 17) X (v := 1) dJ6_numberOfTrailingZeros_0f7a4_17 rfl ?_
    refine g_istore_n (pc := 18) X (lv' := [(1, .int 1), (0, .int x1)]) dJ6_numberOfTrailingZeros_0f7a4_18 (by decide) rfl ?_
    refine g_iload_n (pc := 19) X 1 rfl dJ6_numberOfTrailingZeros_0f7a4_19 ?_
    refine g_ldcw (pc := 20) X q_573 dJ6_numberOfTrailingZeros_0f7a4_20 ?_
    refine g_icmp_le (pc := 23) X (tgt := 34) dJ6_numberOfTrailingZeros_0f7a4_23 rfl (fun c => ?_) (fun c => ?_)
    · have h := br_y c h
      refine g_sub (lv' := [(0, .int x1), (1, .int 1)]) [1, 0] rfl ?_
      exact bj_J6_numberOfTrailingZeros_0f7a4_34 Y  h
    · have h := br_n c h
      refine g_iinc (pc := 26) X 0 rfl dJ6_numberOfTrailingZeros_0f7a4_26 (v := 17) rfl (by decide) (lv' := [(1, .int 17), (0, .int x1)]) rfl ?_
      refine g_iload_n (pc := 29) X 1 rfl dJ6_numberOfTrailingZeros_0f7a4_29 ?_
      refine g_bipush (pc := 30) X (v := 16) dJ6_numberOfTrailingZeros_0f7a4_30 rfl ?_
      refine g_iushr (pc := 32) X dJ6_numberOfTrailingZeros_0f7a4_32 ?_
      obtain ⟨x15, e16, h⟩ := lb_i h
      refine g_top e16 ?_
      refine g_istore_n (pc := 33) X (lv' := [(0, .int x15), (1, .int 17)]) dJ6_numberOfTrailingZeros_0f7a4_33 (by decide) rfl ?_
      refine g_sub (lv' := [(0, .int x15), (1, .int 17)]) [0, 1] rfl ?_
      exact bj_J6_numberOfTrailingZeros_0f7a4_34 Y  h
  · have h := br_n c h
    refine g_iload_n (pc := 12) X 0 rfl dJ6_numberOfTrailingZeros_0f7a4_12 ?_
    refine g_bipush (pc := 13) X (v := 32) dJ6_numberOfTrailingZeros_0f7a4_13 rfl ?_
    refine g_iand (pc := 15) X dJ6_numberOfTrailingZeros_0f7a4_15 ?_
    obtain ⟨e1, e2⟩ := rt_i h
    exact g_iret (pc := 16) X Y.2.2.1 (Nat.le_of_ble_eq_true rfl) (Nat.le_of_ble_eq_true rfl) e1 e2 dJ6_numberOfTrailingZeros_0f7a4_16

def L_X1_choose_55  (n : Nat) (v0 : Nat) (v1 : Int32) (v3 : Int32) (v4 : Int32) (w : Wd) : Option (Int32 × Wd) := match n with
  | 0 => none
  | n + 1 => (if wK w v0 = 1 then
 (bd1 (wR w v0 0) fun a18 =>
 (if wK w a18 = 0 then
 (if (wI w a18 0) ≤ v4 then
 some (v3, w)
 else
 (bd2 (f_X8_has v1 v4 w) fun r21 w22 =>
 (if r21 = 0 then
 (lb_ (v4 + 1) fun x24 =>
 L_X1_choose_55 n v0 v1 v3 x24 w22)
 else
 (if wK w22 v0 = 1 then
 (bd1 (wR w22 v0 3) fun a27 =>
 (if aK 11 w22 a27 v4 = true then
 (bd1 (wR w22 v0 3) fun a30 =>
 (if aK 11 w22 a30 v3 = true then
 (if (wI w22 a27 (nx v4)) ≤ (wI w22 a30 (nx v3)) then
 (lb_ (v4 + 1) fun x33 =>
 L_X1_choose_55 n v0 v1 v3 x33 w22)
 else
 (lb_ (v4 + 1) fun x35 =>
 L_X1_choose_55 n v0 v1 v4 x35 w22))
 else none))
 else none))
 else none))))
 else none))
 else none)
theorem bL_X1_choose_55 {t : Ct} {V : Vt} {r : Int32} {w' : Wd} (Y : Hd_ t V cX1_choose 5 RX1 { frames := 2, cells := 0, slots := 0, locals := 45 } (some .int) "choose") : ∀ {n : Nat} {v0 : Nat} {v1 : Int32} {v3 : Int32} {v4 : Int32} {w : Wd}, L_X1_choose_55  n v0 v1 v3 v4 w = some (r, w') → Gd t V 5 0 0 (Qe t V (some (.int r)) w' 0 0) 55 [(0, rf V v0), (1, .int v1), (3, .int v3), (4, .int v4)] [] w := by
  have X := Y.1
  intro n
  induction n with
  | zero => intro v0 v1 v3 v4 w h; cases h
  | succ n ih0 =>
    have ih : ∀ (v0 : Nat) (v1 : Int32) (v3 : Int32) (v4 : Int32) (w : Wd), L_X1_choose_55  n v0 v1 v3 v4 w = some (r, w') → Gd t V 5 0 0 (Qe t V (some (.int r)) w' 0 0) 55 [(0, rf V v0), (1, .int v1), (3, .int v3), (4, .int v4)] [] w := fun v0 v1 v3 v4 w h => ih0 h
    clear ih0
    intro v0 v1 v3 v4 w h
    unfold L_X1_choose_55 at h
    refine g_iload (pc := 55) X 3 rfl dX1_choose_55 ?_
    refine g_aload_n (pc := 57) X 0 rfl dX1_choose_57 ?_
    obtain ⟨k17, h⟩ := gd_i h
    obtain ⟨a18, e19, h⟩ := bd1_i h
    refine g_getR (pc := 58) X FcX1 k17 0 e19 (by decide) rfl q_156 dX1_choose_58 ?_
    obtain ⟨k20, h⟩ := gd_i h
    refine g_getI (pc := 61) X FcX0 k20 0 (by decide) rfl q_104 dX1_choose_61 ?_
    refine g_icmp_ge (pc := 64) X (tgt := 101) dX1_choose_64 rfl (fun c => ?_) (fun c => ?_)
    · have h := br_y c h
      refine g_iload_n (pc := 101) X 2 rfl dX1_choose_101 ?_
      obtain ⟨e1, e2⟩ := rt_i h
      exact g_iret (pc := 102) X Y.2.2.1 (Nat.le_of_ble_eq_true rfl) (Nat.le_of_ble_eq_true rfl) e1 e2 dX1_choose_102
    · have h := br_n c h
      refine g_iload_n (pc := 67) X 1 rfl dX1_choose_67 ?_
      refine g_iload (pc := 68) X 3 rfl dX1_choose_68 ?_
      obtain ⟨r21, w22, h23, h⟩ := bd2_i h
      refine g_callSN (pc := 70) X mk_X8_has q_480 (host := RX8) (by decide +kernel) (c_X8_has h23) rfl rfl (by rw [Y.2.1]; decide)  rfl (rest := []) rfl (Nat.le_of_ble_eq_true rfl) (by rw [Y.2.1]; exact ⟨Nat.le_of_ble_eq_true rfl, Nat.le_of_ble_eq_true rfl⟩) dX1_choose_70 (st' := [.int r21]) rfl ?_
      refine g_if_eq (pc := 73) X (tgt := 95) dX1_choose_73 rfl (fun c => ?_) (fun c => ?_)
      · have h := br_y c h
        obtain ⟨x24, e25, h⟩ := lb_i h
        refine g_iinc (pc := 95) X 3 rfl dX1_choose_95 (v := x24) e25.symm (by decide) (lv' := [(4, .int x24), (0, rf V v0), (1, .int v1), (3, .int v3)]) rfl ?_
        refine g_goto (pc := 98) X (tgt := 55) dX1_choose_98 rfl ?_
        refine g_sub (lv' := [(0, rf V v0), (1, .int v1), (3, .int v3), (4, .int x24)]) [1, 2, 3, 0] rfl ?_
        exact ih _ _ _ _ _ h
      · have h := br_n c h
        refine g_aload_n (pc := 76) X 0 rfl dX1_choose_76 ?_
        obtain ⟨k26, h⟩ := gd_i h
        obtain ⟨a27, e28, h⟩ := bd1_i h
        refine g_getR (pc := 77) X FcX1 k26 3 e28 (by decide) rfl q_163 dX1_choose_77 ?_
        refine g_iload (pc := 80) X 3 rfl dX1_choose_80 ?_
        obtain ⟨k29, h⟩ := gd_i h
        refine g_iald (pc := 82) X k29 dX1_choose_82 ?_
        refine g_aload_n (pc := 83) X 0 rfl dX1_choose_83 ?_
        obtain ⟨a30, e31, h⟩ := bd1_i h
        refine g_getR (pc := 84) X FcX1 k26 3 e31 (by decide) rfl q_163 dX1_choose_84 ?_
        refine g_iload_n (pc := 87) X 2 rfl dX1_choose_87 ?_
        obtain ⟨k32, h⟩ := gd_i h
        refine g_iald (pc := 88) X k32 dX1_choose_88 ?_
        refine g_icmp_le (pc := 89) X (tgt := 95) dX1_choose_89 rfl (fun c => ?_) (fun c => ?_)
        · have h := br_y c h
          obtain ⟨x33, e34, h⟩ := lb_i h
          refine g_iinc (pc := 95) X 3 rfl dX1_choose_95 (v := x33) e34.symm (by decide) (lv' := [(4, .int x33), (0, rf V v0), (1, .int v1), (3, .int v3)]) rfl ?_
          refine g_goto (pc := 98) X (tgt := 55) dX1_choose_98 rfl ?_
          refine g_sub (lv' := [(0, rf V v0), (1, .int v1), (3, .int v3), (4, .int x33)]) [1, 2, 3, 0] rfl ?_
          exact ih _ _ _ _ _ h
        · have h := br_n c h
          refine g_iload (pc := 92) X 3 rfl dX1_choose_92 ?_
          refine g_istore_n (pc := 94) X (lv' := [(3, .int v4), (0, rf V v0), (1, .int v1), (4, .int v4)]) dX1_choose_94 (by decide) rfl ?_
          obtain ⟨x35, e36, h⟩ := lb_i h
          refine g_iinc (pc := 95) X 3 rfl dX1_choose_95 (v := x35) e36.symm (by decide) (lv' := [(4, .int x35), (3, .int v4), (0, rf V v0), (1, .int v1)]) rfl ?_
          refine g_goto (pc := 98) X (tgt := 55) dX1_choose_98 rfl ?_
          refine g_sub (lv' := [(0, rf V v0), (1, .int v1), (3, .int v4), (4, .int x35)]) [2, 3, 1, 0] rfl ?_
          exact ih _ _ _ _ _ h

def f_X1_choose (v0 : Nat) (v1 : Int32) (w : Wd) : Option (Int32 × Wd) := (bd2 (f_J6_bitCount_0f7a4 v1 w) fun r1 w2 =>
 (if r1 = 0 then
 some ((-1000000005), w2)
 else
 (if wK w2 v0 = 1 then
 (bd1 (wR w2 v0 4) fun a5 =>
 (if aK 11 w2 a5 1 = true then
 (if (wI w2 a5 (nx 1)) = 0 then
 (bd2 (f_X1_draw v0 w2) fun r37 w38 =>
 (if ¬ r1 = 0 then
 (if wK w38 v0 = 1 then
 (bd2 (f_X1_nthOf v0 v1 (irem r37 r1) w38) fun r42 w43 =>
 some (r42, w43))
 else none)
 else none))
 else
 (bd2 (f_J6_numberOfTrailingZeros_0f7a4 v1 w2) fun r8 w9 =>
 (if wK w9 v0 = 1 then
 (bd1 (wR w9 v0 4) fun a12 =>
 (if aK 11 w9 a12 1 = true then
 (if (wI w9 a12 (nx 1)) = 1 then
 some (r8, w9)
 else
 (lb_ (r8 + 1) fun x15 =>
 L_X1_choose_55 FU v0 v1 r8 x15 w9))
 else none))
 else none)))
 else none))
 else none)))
theorem c_X1_choose {l : Launch} {V : Vt} {v0 : Nat} {v1 : Int32} {w w' : Wd} {r : Int32} (h : f_X1_choose v0 v1 w = some (r, w')) : MetW l V yX1_choose cX1_choose 5 (some .int) { frames := 2, cells := 0, slots := 0, locals := 45 } w [rf V v0, .int v1] (some (.int r)) w' 0 0 := by
  refine g_start (by decide) (Nat.le_of_ble_eq_true rfl) ?_
  intro t _ hrm X hret hnm
  have Y : Hd_ t V cX1_choose 5 RX1 { frames := 2, cells := 0, slots := 0, locals := 45 } (some .int) "choose" := ⟨X, hrm, hret, hnm⟩
  refine g_as (lv' := [(0, rf V v0), (1, .int v1)]) (st' := []) rfl rfl ?_
  unfold f_X1_choose at h
  refine g_iload_n (pc := 0) X 1 rfl dX1_choose_0 ?_
  obtain ⟨r1, w2, h3, h⟩ := bd2_i h
  refine g_callS (pc := 1) X mk_J6_bitCount_0f7a4 q_377 q_376 (c_J6_bitCount_0f7a4 h3) rfl rfl (by rw [Y.2.1]; decide)  rfl (rest := []) rfl (Nat.le_of_ble_eq_true rfl) (by rw [Y.2.1]; exact ⟨Nat.le_of_ble_eq_true rfl, Nat.le_of_ble_eq_true rfl⟩) dX1_choose_1 (st' := [.int r1]) rfl ?_
  refine g_istore_n (pc := 4) X (lv' := [(2, .int r1), (0, rf V v0), (1, .int v1)]) dX1_choose_4 (by decide) rfl ?_
  refine g_iload_n (pc := 5) X 0 rfl dX1_choose_5 ?_
  refine g_if_ne (pc := 6) X (tgt := 12) dX1_choose_6 rfl (fun c => ?_) (fun c => ?_)
  · have h := br_n c h
    refine g_aload_n (pc := 12) X 1 rfl dX1_choose_12 ?_
    obtain ⟨k4, h⟩ := gd_i h
    obtain ⟨a5, e6, h⟩ := bd1_i h
    refine g_getR (pc := 13) X FcX1 k4 4 e6 (by decide) rfl q_166 dX1_choose_13 ?_
    refine g_iconst (pc := 16) X (v := 1) dX1_choose_16 rfl ?_
    obtain ⟨k7, h⟩ := gd_i h
    refine g_iald (pc := 17) X k7 dX1_choose_17 ?_
    refine g_if_ne (pc := 18) X (tgt := 33) dX1_choose_18 rfl (fun c => ?_) (fun c => ?_)
    · have h := br_n c h
      refine g_iload_n (pc := 33) X 2 rfl dX1_choose_33 ?_
      obtain ⟨r8, w9, h10, h⟩ := bd2_i h
      refine g_callS (pc := 34) X mk_J6_numberOfTrailingZeros_0f7a4 q_571 q_570 (c_J6_numberOfTrailingZeros_0f7a4 h10) rfl rfl (by rw [Y.2.1]; decide)  rfl (rest := []) rfl (Nat.le_of_ble_eq_true rfl) (by rw [Y.2.1]; exact ⟨Nat.le_of_ble_eq_true rfl, Nat.le_of_ble_eq_true rfl⟩) dX1_choose_34 (st' := [.int r8]) rfl ?_
      refine g_istore_n (pc := 37) X (lv' := [(3, .int r8), (2, .int r1), (0, rf V v0), (1, .int v1)]) dX1_choose_37 (by decide) rfl ?_
      refine g_aload_n (pc := 38) X 2 rfl dX1_choose_38 ?_
      obtain ⟨k11, h⟩ := gd_i h
      obtain ⟨a12, e13, h⟩ := bd1_i h
      refine g_getR (pc := 39) X FcX1 k11 4 e13 (by decide) rfl q_166 dX1_choose_39 ?_
      refine g_iconst (pc := 42) X (v := 1) dX1_choose_42 rfl ?_
      obtain ⟨k14, h⟩ := gd_i h
      refine g_iald (pc := 43) X k14 dX1_choose_43 ?_
      refine g_iconst (pc := 44) X (v := 1) dX1_choose_44 rfl ?_
      refine g_icmp_ne (pc := 45) X (tgt := 50) dX1_choose_45 rfl (fun c => ?_) (fun c => ?_)
      · have h := br_n c h
        refine g_iload_n (pc := 50) X 0 rfl dX1_choose_50 ?_
        refine g_iconst (pc := 51) X (v := 1) dX1_choose_51 rfl ?_
        refine g_iadd (pc := 52) X dX1_choose_52 ?_
        obtain ⟨x15, e16, h⟩ := lb_i h
        refine g_top e16 ?_
        refine g_istore (pc := 53) X (lv' := [(4, .int x15), (3, .int r8), (2, .int r1), (0, rf V v0), (1, .int v1)]) dX1_choose_53 (by decide) rfl ?_
        refine g_sub (lv' := [(0, rf V v0), (1, .int v1), (3, .int r8), (4, .int x15)]) [3, 4, 1, 0] rfl ?_
        exact bL_X1_choose_55 Y  h
      · have h := br_y c h
        refine g_iload_n (pc := 48) X 0 rfl dX1_choose_48 ?_
        obtain ⟨e1, e2⟩ := rt_i h
        exact g_iret (pc := 49) X Y.2.2.1 (Nat.le_of_ble_eq_true rfl) (Nat.le_of_ble_eq_true rfl) e1 e2 dX1_choose_49
    · have h := br_y c h
      refine g_aload_n (pc := 21) X 1 rfl dX1_choose_21 ?_
      refine g_iload_n (pc := 22) X 2 rfl dX1_choose_22 ?_
      refine g_aload_n (pc := 23) X 1 rfl dX1_choose_23 ?_
      obtain ⟨r37, w38, h39, h⟩ := bd2_i h
      refine g_callV (pc := 24) X FcX1 k4 mk_X1_draw q_535 q_536 q_555 (c_X1_draw h39) rfl rfl (by rw [Y.2.1]; decide)  rfl (rest := [.int v1, rf V v0]) rfl (Nat.le_of_ble_eq_true rfl) (by rw [Y.2.1]; exact ⟨Nat.le_of_ble_eq_true rfl, Nat.le_of_ble_eq_true rfl⟩) dX1_choose_24 (st' := [.int r37, .int v1, rf V v0]) rfl ?_
      refine g_iload_n (pc := 27) X 0 rfl dX1_choose_27 ?_
      obtain ⟨k40, h⟩ := gd_i h
      refine g_irem (pc := 28) X k40 dX1_choose_28 ?_
      obtain ⟨k41, h⟩ := gd_i h
      obtain ⟨r42, w43, h44, h⟩ := bd2_i h
      refine g_callV (pc := 29) X FcX1 k41 mk_X1_nthOf q_566 q_567 q_565 (c_X1_nthOf h44) rfl rfl (by rw [Y.2.1]; decide)  rfl (rest := []) rfl (Nat.le_of_ble_eq_true rfl) (by rw [Y.2.1]; exact ⟨Nat.le_of_ble_eq_true rfl, Nat.le_of_ble_eq_true rfl⟩) dX1_choose_29 (st' := [.int r42]) rfl ?_
      obtain ⟨e1, e2⟩ := rt_i h
      exact g_iret (pc := 32) X Y.2.2.1 (Nat.le_of_ble_eq_true rfl) (Nat.le_of_ble_eq_true rfl) e1 e2 dX1_choose_32
  · have h := br_y c h
    refine g_ldc (pc := 9) X q_128 dX1_choose_9 ?_
    obtain ⟨e1, e2⟩ := rt_i h
    exact g_iret (pc := 11) X Y.2.2.1 (Nat.le_of_ble_eq_true rfl) (Nat.le_of_ble_eq_true rfl) e1 e2 dX1_choose_11

def L_X1_oneComes_2  (n : Nat) (v0 : Nat) (v1 : Int32) (w : Wd) : Option (Int32 × Wd) := match n with
  | 0 => none
  | n + 1 => (if wK w v0 = 1 then
 (if (wI w v0 2) ≤ v1 then
 some (0, w)
 else
 (bd1 (wR w v0 1) fun a2 =>
 (if aK 14 w a2 v1 = true then
 (bd1 (wR w a2 (nx v1)) fun a5 =>
 (if wK w a5 = 4 then
 (bd2 (f_X4_sitsNow a5 w) fun r8 w9 =>
 (if r8 = 0 then
 (if wK w9 v0 = 1 then
 (bd1 (wR w9 v0 1) fun a14 =>
 (if aK 14 w9 a14 v1 = true then
 (bd1 (wR w9 a14 (nx v1)) fun a17 =>
 (bd2 (f_X1_placesFor v0 a17 w9) fun r19 w20 =>
 (if wK w20 v0 = 1 then
 (bd2 (f_X1_choose v0 r19 w20) fun r23 w24 =>
 (if r23 = (-1000000005) then
 some (0, w24)
 else
 (if wK w24 v0 = 1 then
 (bd1 (wR w24 v0 1) fun a27 =>
 (if aK 14 w24 a27 v1 = true then
 (bd1 (wR w24 a27 (nx v1)) fun a30 =>
 (bd2 (f_X1_seat v0 a30 r23 w24) fun r32 w33 =>
 some (1, w33)))
 else none))
 else none)))
 else none)))
 else none))
 else none)
 else
 (lb_ (v1 + 1) fun x11 =>
 L_X1_oneComes_2 n v0 x11 w9)))
 else none))
 else none)))
 else none)
theorem bL_X1_oneComes_2 {t : Ct} {V : Vt} {r : Int32} {w' : Wd} (Y : Hd_ t V cX1_oneComes 3 RX1 { frames := 4, cells := 0, slots := 0, locals := 96 } (some .boolean) "oneComes") : ∀ {n : Nat} {v0 : Nat} {v1 : Int32} {w : Wd}, L_X1_oneComes_2  n v0 v1 w = some (r, w') → Gd t V 3 0 0 (Qe t V (some (.int r)) w' 0 0) 2 [(0, rf V v0), (1, .int v1)] [] w := by
  have X := Y.1
  intro n
  induction n with
  | zero => intro v0 v1 w h; cases h
  | succ n ih0 =>
    have ih : ∀ (v0 : Nat) (v1 : Int32) (w : Wd), L_X1_oneComes_2  n v0 v1 w = some (r, w') → Gd t V 3 0 0 (Qe t V (some (.int r)) w' 0 0) 2 [(0, rf V v0), (1, .int v1)] [] w := fun v0 v1 w h => ih0 h
    clear ih0
    intro v0 v1 w h
    unfold L_X1_oneComes_2 at h
    refine g_iload_n (pc := 2) X 1 rfl dX1_oneComes_2 ?_
    refine g_aload_n (pc := 3) X 0 rfl dX1_oneComes_3 ?_
    obtain ⟨k1, h⟩ := gd_i h
    refine g_getI (pc := 4) X FcX1 k1 2 (by decide) rfl q_161 dX1_oneComes_4 ?_
    refine g_icmp_ge (pc := 7) X (tgt := 65) dX1_oneComes_7 rfl (fun c => ?_) (fun c => ?_)
    · have h := br_y c h
      refine g_iconst (pc := 65) X (v := 0) dX1_oneComes_65 rfl ?_
      obtain ⟨e1, e2⟩ := rt_i h
      exact g_zret (pc := 66) X Y.2.2.1 (Or.inl rfl) (Nat.le_of_ble_eq_true rfl) (Nat.le_of_ble_eq_true rfl) e1 e2 dX1_oneComes_66
    · have h := br_n c h
      refine g_aload_n (pc := 10) X 0 rfl dX1_oneComes_10 ?_
      obtain ⟨a2, e3, h⟩ := bd1_i h
      refine g_getR (pc := 11) X FcX1 k1 1 e3 (by decide) rfl q_159 dX1_oneComes_11 ?_
      refine g_iload_n (pc := 14) X 1 rfl dX1_oneComes_14 ?_
      obtain ⟨k4, h⟩ := gd_i h
      obtain ⟨a5, e6, h⟩ := bd1_i h
      refine g_aald (pc := 15) X (C := RX4) k4 (by decide) (by decide) rfl e6 dX1_oneComes_15 ?_
      obtain ⟨k7, h⟩ := gd_i h
      obtain ⟨r8, w9, h10, h⟩ := bd2_i h
      refine g_callV (pc := 16) X FcX4 k7 mk_X4_sitsNow q_373 q_374 q_372 (c_X4_sitsNow h10) rfl rfl (by rw [Y.2.1]; decide)  rfl (rest := []) rfl (Nat.le_of_ble_eq_true rfl) (by rw [Y.2.1]; exact ⟨Nat.le_of_ble_eq_true rfl, Nat.le_of_ble_eq_true rfl⟩) dX1_oneComes_16 (st' := [.int r8]) rfl ?_
      refine g_if_ne (pc := 19) X (tgt := 59) dX1_oneComes_19 rfl (fun c => ?_) (fun c => ?_)
      · have h := br_n c h
        obtain ⟨x11, e12, h⟩ := lb_i h
        refine g_iinc (pc := 59) X 1 rfl dX1_oneComes_59 (v := x11) e12.symm (by decide) (lv' := [(1, .int x11), (0, rf V v0)]) rfl ?_
        refine g_goto (pc := 62) X (tgt := 2) dX1_oneComes_62 rfl ?_
        refine g_sub (lv' := [(0, rf V v0), (1, .int x11)]) [1, 0] rfl ?_
        exact ih _ _ _ h
      · have h := br_y c h
        refine g_aload_n (pc := 22) X 0 rfl dX1_oneComes_22 ?_
        refine g_aload_n (pc := 23) X 0 rfl dX1_oneComes_23 ?_
        refine g_aload_n (pc := 24) X 0 rfl dX1_oneComes_24 ?_
        obtain ⟨k13, h⟩ := gd_i h
        obtain ⟨a14, e15, h⟩ := bd1_i h
        refine g_getR (pc := 25) X FcX1 k13 1 e15 (by decide) rfl q_159 dX1_oneComes_25 ?_
        refine g_iload_n (pc := 28) X 1 rfl dX1_oneComes_28 ?_
        obtain ⟨k16, h⟩ := gd_i h
        obtain ⟨a17, e18, h⟩ := bd1_i h
        refine g_aald (pc := 29) X (C := RX4) k16 (by decide) (by decide) rfl e18 dX1_oneComes_29 ?_
        obtain ⟨r19, w20, h21, h⟩ := bd2_i h
        refine g_callV (pc := 30) X FcX1 k13 mk_X1_placesFor q_421 q_422 q_560 (c_X1_placesFor h21) rfl rfl (by rw [Y.2.1]; decide)  rfl (rest := [rf V v0]) rfl (Nat.le_of_ble_eq_true rfl) (by rw [Y.2.1]; exact ⟨Nat.le_of_ble_eq_true rfl, Nat.le_of_ble_eq_true rfl⟩) dX1_oneComes_30 (st' := [.int r19, rf V v0]) rfl ?_
        obtain ⟨k22, h⟩ := gd_i h
        obtain ⟨r23, w24, h25, h⟩ := bd2_i h
        refine g_callV (pc := 33) X FcX1 k22 mk_X1_choose q_562 q_563 q_561 (c_X1_choose h25) rfl rfl (by rw [Y.2.1]; decide)  rfl (rest := []) rfl (Nat.le_of_ble_eq_true rfl) (by rw [Y.2.1]; exact ⟨Nat.le_of_ble_eq_true rfl, Nat.le_of_ble_eq_true rfl⟩) dX1_oneComes_33 (st' := [.int r23]) rfl ?_
        refine g_istore_n (pc := 36) X (lv' := [(2, .int r23), (0, rf V v0), (1, .int v1)]) dX1_oneComes_36 (by decide) rfl ?_
        refine g_iload_n (pc := 37) X 0 rfl dX1_oneComes_37 ?_
        refine g_ldc (pc := 38) X q_128 dX1_oneComes_38 ?_
        refine g_icmp_ne (pc := 40) X (tgt := 45) dX1_oneComes_40 rfl (fun c => ?_) (fun c => ?_)
        · have h := br_n c h
          refine g_aload_n (pc := 45) X 1 rfl dX1_oneComes_45 ?_
          refine g_aload_n (pc := 46) X 1 rfl dX1_oneComes_46 ?_
          obtain ⟨k26, h⟩ := gd_i h
          obtain ⟨a27, e28, h⟩ := bd1_i h
          refine g_getR (pc := 47) X FcX1 k26 1 e28 (by decide) rfl q_159 dX1_oneComes_47 ?_
          refine g_iload_n (pc := 50) X 2 rfl dX1_oneComes_50 ?_
          obtain ⟨k29, h⟩ := gd_i h
          obtain ⟨a30, e31, h⟩ := bd1_i h
          refine g_aald (pc := 51) X (C := RX4) k29 (by decide) (by decide) rfl e31 dX1_oneComes_51 ?_
          refine g_iload_n (pc := 52) X 0 rfl dX1_oneComes_52 ?_
          obtain ⟨r32, w33, h34, h⟩ := bd2_i h
          refine g_callV (pc := 53) X FcX1 k26 mk_X1_seat q_483 q_484 q_574 (c_X1_seat h34) rfl rfl (by rw [Y.2.1]; decide)  rfl (rest := []) rfl (Nat.le_of_ble_eq_true rfl) (by rw [Y.2.1]; exact ⟨Nat.le_of_ble_eq_true rfl, Nat.le_of_ble_eq_true rfl⟩) dX1_oneComes_53 (st' := [.int r32]) rfl ?_
          refine g_pop (pc := 56) X rfl dX1_oneComes_56 ?_
          refine g_iconst (pc := 57) X (v := 1) dX1_oneComes_57 rfl ?_
          obtain ⟨e1, e2⟩ := rt_i h
          exact g_zret (pc := 58) X Y.2.2.1 (Or.inr rfl) (Nat.le_of_ble_eq_true rfl) (Nat.le_of_ble_eq_true rfl) e1 e2 dX1_oneComes_58
        · have h := br_y c h
          refine g_iconst (pc := 43) X (v := 0) dX1_oneComes_43 rfl ?_
          obtain ⟨e1, e2⟩ := rt_i h
          exact g_zret (pc := 44) X Y.2.2.1 (Or.inl rfl) (Nat.le_of_ble_eq_true rfl) (Nat.le_of_ble_eq_true rfl) e1 e2 dX1_oneComes_44

def f_X1_oneComes (v0 : Nat) (w : Wd) : Option (Int32 × Wd) := L_X1_oneComes_2 FU v0 0 w
theorem c_X1_oneComes {l : Launch} {V : Vt} {v0 : Nat} {w w' : Wd} {r : Int32} (h : f_X1_oneComes v0 w = some (r, w')) : MetW l V yX1_oneComes cX1_oneComes 3 (some .boolean) { frames := 4, cells := 0, slots := 0, locals := 96 } w [rf V v0] (some (.int r)) w' 0 0 := by
  refine g_start (by decide) (Nat.le_of_ble_eq_true rfl) ?_
  intro t _ hrm X hret hnm
  have Y : Hd_ t V cX1_oneComes 3 RX1 { frames := 4, cells := 0, slots := 0, locals := 96 } (some .boolean) "oneComes" := ⟨X, hrm, hret, hnm⟩
  refine g_as (lv' := [(0, rf V v0)]) (st' := []) rfl rfl ?_
  unfold f_X1_oneComes at h
  refine g_iconst (pc := 0) X (v := 0) dX1_oneComes_0 rfl ?_
  refine g_istore_n (pc := 1) X (lv' := [(1, .int 0), (0, rf V v0)]) dX1_oneComes_1 (by decide) rfl ?_
  refine g_sub (lv' := [(0, rf V v0), (1, .int 0)]) [1, 0] rfl ?_
  exact bL_X1_oneComes_2 Y  h

def f_X1_oneRises (v0 : Nat) (w : Wd) : Option (Unit × Wd) := (if wK w v0 = 1 then
 (if (wI w v0 2) ≤ 0 then
 some ((), w)
 else
 (bd1 (wR w v0 1) fun a2 =>
 (bd2 (f_X1_draw v0 w) fun r4 w5 =>
 (if wK w5 v0 = 1 then
 (if ¬ (wI w5 v0 2) = 0 then
 (if aK 14 w5 a2 (irem r4 (wI w5 v0 2)) = true then
 (bd1 (wR w5 a2 (nx (irem r4 (wI w5 v0 2)))) fun a10 =>
 (if wK w5 a10 = 4 then
 (lb_ (sI w5 a10 1 (-1)) fun w13 =>
 some ((), w13))
 else none))
 else none)
 else none)
 else none))))
 else none)
theorem c_X1_oneRises {l : Launch} {V : Vt} {v0 : Nat} {w w' : Wd} {r : Unit} (h : f_X1_oneRises v0 w = some (r, w')) : MetW l V yX1_oneRises cX1_oneRises 1 (none) { frames := 1, cells := 0, slots := 0, locals := 20 } w [rf V v0] none w' 0 0 := by
  refine g_start (by decide) (Nat.le_of_ble_eq_true rfl) ?_
  intro t _ hrm X hret hnm
  have Y : Hd_ t V cX1_oneRises 1 RX1 { frames := 1, cells := 0, slots := 0, locals := 20 } (none) "oneRises" := ⟨X, hrm, hret, hnm⟩
  refine g_as (lv' := [(0, rf V v0)]) (st' := []) rfl rfl ?_
  unfold f_X1_oneRises at h
  refine g_aload_n (pc := 0) X 0 rfl dX1_oneRises_0 ?_
  obtain ⟨k1, h⟩ := gd_i h
  refine g_getI (pc := 1) X FcX1 k1 2 (by decide) rfl q_161 dX1_oneRises_1 ?_
  refine g_if_le (pc := 4) X (tgt := 25) dX1_oneRises_4 rfl (fun c => ?_) (fun c => ?_)
  · have h := br_y c h
    obtain ⟨e1, e2⟩ := rt_i h
    exact g_vret (pc := 25) X Y.2.2.1 (Nat.le_of_ble_eq_true rfl) (Nat.le_of_ble_eq_true rfl) e2 dX1_oneRises_25
  · have h := br_n c h
    refine g_aload_n (pc := 7) X 0 rfl dX1_oneRises_7 ?_
    obtain ⟨a2, e3, h⟩ := bd1_i h
    refine g_getR (pc := 8) X FcX1 k1 1 e3 (by decide) rfl q_159 dX1_oneRises_8 ?_
    refine g_aload_n (pc := 11) X 0 rfl dX1_oneRises_11 ?_
    obtain ⟨r4, w5, h6, h⟩ := bd2_i h
    refine g_callV (pc := 12) X FcX1 k1 mk_X1_draw q_535 q_536 q_555 (c_X1_draw h6) rfl rfl (by rw [Y.2.1]; decide)  rfl (rest := [rf V a2]) rfl (Nat.le_of_ble_eq_true rfl) (by rw [Y.2.1]; exact ⟨Nat.le_of_ble_eq_true rfl, Nat.le_of_ble_eq_true rfl⟩) dX1_oneRises_12 (st' := [.int r4, rf V a2]) rfl ?_
    refine g_aload_n (pc := 15) X 0 rfl dX1_oneRises_15 ?_
    obtain ⟨k7, h⟩ := gd_i h
    refine g_getI (pc := 16) X FcX1 k7 2 (by decide) rfl q_161 dX1_oneRises_16 ?_
    obtain ⟨k8, h⟩ := gd_i h
    refine g_irem (pc := 19) X k8 dX1_oneRises_19 ?_
    obtain ⟨k9, h⟩ := gd_i h
    obtain ⟨a10, e11, h⟩ := bd1_i h
    refine g_aald (pc := 20) X (C := RX4) k9 (by decide) (by decide) rfl e11 dX1_oneRises_20 ?_
    refine g_iconst (pc := 21) X (v := (-1)) dX1_oneRises_21 rfl ?_
    obtain ⟨k12, h⟩ := gd_i h
    refine g_putI (pc := 22) X FcX4 k12 1 (by decide) rfl q_138 rfl rfl rfl dX1_oneRises_22 ?_
    obtain ⟨w13, e14, h⟩ := lb_i h
    refine g_w e14 ?_
    obtain ⟨e1, e2⟩ := rt_i h
    exact g_vret (pc := 25) X Y.2.2.1 (Nat.le_of_ble_eq_true rfl) (Nat.le_of_ble_eq_true rfl) e2 dX1_oneRises_25

def j_X1_passOne_49  (v0 : Nat) (v1 : Int32) (w : Wd) : Option (Int32 × Wd) := (if wK w v0 = 1 then
 (lb_ (sI w v0 6 ((wI w v0 6) + 1)) fun w18 =>
 (if v1 = 0 ∨ v1 = 1 then
 some (v1, w18)
 else none))
 else none)
theorem bj_X1_passOne_49 {t : Ct} {V : Vt} {r : Int32} {w' : Wd} (Y : Hd_ t V cX1_passOne 2 RX1 { frames := 5, cells := 0, slots := 0, locals := 118 } (some .boolean) "passOne") {v0 : Nat} {v1 : Int32} {w : Wd} (h : j_X1_passOne_49  v0 v1 w = some (r, w')) : Gd t V 2 0 0 (Qe t V (some (.int r)) w' 0 0) 49 [(0, rf V v0), (1, .int v1)] [] w := by
  have X := Y.1
  unfold j_X1_passOne_49 at h
  refine g_aload_n (pc := 49) X 0 rfl dX1_passOne_49 ?_
  refine g_dup (pc := 50) X rfl dX1_passOne_50 ?_
  obtain ⟨k17, h⟩ := gd_i h
  refine g_getI (pc := 51) X FcX1 k17 6 (by decide) rfl q_171 dX1_passOne_51 ?_
  refine g_iconst (pc := 54) X (v := 1) dX1_passOne_54 rfl ?_
  refine g_iadd (pc := 55) X dX1_passOne_55 ?_
  refine g_putI (pc := 56) X FcX1 k17 6 (by decide) rfl q_171 rfl rfl rfl dX1_passOne_56 ?_
  obtain ⟨w18, e19, h⟩ := lb_i h
  refine g_w e19 ?_
  refine g_iload_n (pc := 59) X 1 rfl dX1_passOne_59 ?_
  obtain ⟨k20, h⟩ := gd_i h
  obtain ⟨e1, e2⟩ := rt_i h
  exact g_zret (pc := 60) X Y.2.2.1 k20 (Nat.le_of_ble_eq_true rfl) (Nat.le_of_ble_eq_true rfl) e1 e2 dX1_passOne_60

def j_X1_passOne_28  (v0 : Nat) (s0 : Int32) (w : Wd) : Option (Int32 × Wd) := (if wK w v0 = 1 then
 (bd2 (f_X1_draw v0 w) fun r10 w11 =>
 (if wK w11 v0 = 1 then
 (bd1 (wR w11 v0 4) fun a14 =>
 (if aK 11 w11 a14 3 = true then
 (if (wI w11 a14 (nx 3)) ≤ (irem r10 100) then
 j_X1_passOne_49 v0 s0 w11
 else
 (bd2 (f_X1_oneRises v0 w11) fun r21 w22 =>
 j_X1_passOne_49 v0 s0 w22))
 else none))
 else none))
 else none)
theorem bj_X1_passOne_28 {t : Ct} {V : Vt} {r : Int32} {w' : Wd} (Y : Hd_ t V cX1_passOne 2 RX1 { frames := 5, cells := 0, slots := 0, locals := 118 } (some .boolean) "passOne") {v0 : Nat} {s0 : Int32} {w : Wd} (h : j_X1_passOne_28  v0 s0 w = some (r, w')) : Gd t V 2 0 0 (Qe t V (some (.int r)) w' 0 0) 28 [(0, rf V v0)] [.int s0] w := by
  have X := Y.1
  unfold j_X1_passOne_28 at h
  refine g_istore_n (pc := 28) X (lv' := [(1, .int s0), (0, rf V v0)]) dX1_passOne_28 (by decide) rfl ?_
  refine g_aload_n (pc := 29) X 1 rfl dX1_passOne_29 ?_
  obtain ⟨k9, h⟩ := gd_i h
  obtain ⟨r10, w11, h12, h⟩ := bd2_i h
  refine g_callV (pc := 30) X FcX1 k9 mk_X1_draw q_535 q_536 q_555 (c_X1_draw h12) rfl rfl (by rw [Y.2.1]; decide)  rfl (rest := []) rfl (Nat.le_of_ble_eq_true rfl) (by rw [Y.2.1]; exact ⟨Nat.le_of_ble_eq_true rfl, Nat.le_of_ble_eq_true rfl⟩) dX1_passOne_30 (st' := [.int r10]) rfl ?_
  refine g_bipush (pc := 33) X (v := 100) dX1_passOne_33 rfl ?_
  refine g_irem (pc := 35) X (by decide) dX1_passOne_35 ?_
  refine g_aload_n (pc := 36) X 1 rfl dX1_passOne_36 ?_
  obtain ⟨k13, h⟩ := gd_i h
  obtain ⟨a14, e15, h⟩ := bd1_i h
  refine g_getR (pc := 37) X FcX1 k13 4 e15 (by decide) rfl q_166 dX1_passOne_37 ?_
  refine g_iconst (pc := 40) X (v := 3) dX1_passOne_40 rfl ?_
  obtain ⟨k16, h⟩ := gd_i h
  refine g_iald (pc := 41) X k16 dX1_passOne_41 ?_
  refine g_icmp_ge (pc := 42) X (tgt := 49) dX1_passOne_42 rfl (fun c => ?_) (fun c => ?_)
  · have h := br_y c h
    refine g_sub (lv' := [(0, rf V v0), (1, .int s0)]) [1, 0] rfl ?_
    exact bj_X1_passOne_49 Y  h
  · have h := br_n c h
    refine g_aload_n (pc := 45) X 1 rfl dX1_passOne_45 ?_
    obtain ⟨r21, w22, h23, h⟩ := bd2_i h
    refine g_callV (pc := 46) X FcX1 k13 mk_X1_oneRises q_576 q_577 q_575 (c_X1_oneRises h23) rfl rfl (by rw [Y.2.1]; decide)  rfl (rest := []) rfl (Nat.le_of_ble_eq_true rfl) (by rw [Y.2.1]; exact ⟨Nat.le_of_ble_eq_true rfl, Nat.le_of_ble_eq_true rfl⟩) dX1_passOne_46 (st' := []) rfl ?_
    refine g_sub (lv' := [(0, rf V v0), (1, .int s0)]) [1, 0] rfl ?_
    exact bj_X1_passOne_49 Y  h

def j_X1_passOne_27  (v0 : Nat) (w : Wd) : Option (Int32 × Wd) := j_X1_passOne_28 v0 0 w
theorem bj_X1_passOne_27 {t : Ct} {V : Vt} {r : Int32} {w' : Wd} (Y : Hd_ t V cX1_passOne 2 RX1 { frames := 5, cells := 0, slots := 0, locals := 118 } (some .boolean) "passOne") {v0 : Nat} {w : Wd} (h : j_X1_passOne_27  v0 w = some (r, w')) : Gd t V 2 0 0 (Qe t V (some (.int r)) w' 0 0) 27 [(0, rf V v0)] [] w := by
  have X := Y.1
  unfold j_X1_passOne_27 at h
  refine g_iconst (pc := 27) X (v := 0) dX1_passOne_27 rfl ?_
  refine g_sub (lv' := [(0, rf V v0)]) [0] rfl ?_
  exact bj_X1_passOne_28 Y  h

def f_X1_passOne (v0 : Nat) (w : Wd) : Option (Int32 × Wd) := (if wK w v0 = 1 then
 (bd2 (f_X1_draw v0 w) fun r2 w3 =>
 (if wK w3 v0 = 1 then
 (bd1 (wR w3 v0 4) fun a6 =>
 (if aK 11 w3 a6 2 = true then
 (if (wI w3 a6 (nx 2)) ≤ (irem r2 100) then
 j_X1_passOne_27 v0 w3
 else
 (bd2 (f_X1_oneComes v0 w3) fun r24 w25 =>
 (lb_ (if r24 = 0 then 0 else 1 : Int32) fun x27 =>
 (if wK w25 v0 = 1 then
 (bd2 (f_X1_draw v0 w25) fun r30 w31 =>
 (if wK w31 v0 = 1 then
 (bd1 (wR w31 v0 4) fun a34 =>
 (if aK 11 w31 a34 3 = true then
 (if (wI w31 a34 (nx 3)) ≤ (irem r30 100) then
 j_X1_passOne_49 v0 x27 w31
 else
 (bd2 (f_X1_oneRises v0 w31) fun r37 w38 =>
 j_X1_passOne_49 v0 x27 w38))
 else none))
 else none))
 else none))))
 else none))
 else none))
 else none)
theorem c_X1_passOne {l : Launch} {V : Vt} {v0 : Nat} {w w' : Wd} {r : Int32} (h : f_X1_passOne v0 w = some (r, w')) : MetW l V yX1_passOne cX1_passOne 2 (some .boolean) { frames := 5, cells := 0, slots := 0, locals := 118 } w [rf V v0] (some (.int r)) w' 0 0 := by
  refine g_start (by decide) (Nat.le_of_ble_eq_true rfl) ?_
  intro t _ hrm X hret hnm
  have Y : Hd_ t V cX1_passOne 2 RX1 { frames := 5, cells := 0, slots := 0, locals := 118 } (some .boolean) "passOne" := ⟨X, hrm, hret, hnm⟩
  refine g_as (lv' := [(0, rf V v0)]) (st' := []) rfl rfl ?_
  unfold f_X1_passOne at h
  refine g_aload_n (pc := 0) X 0 rfl dX1_passOne_0 ?_
  obtain ⟨k1, h⟩ := gd_i h
  obtain ⟨r2, w3, h4, h⟩ := bd2_i h
  refine g_callV (pc := 1) X FcX1 k1 mk_X1_draw q_535 q_536 q_555 (c_X1_draw h4) rfl rfl (by rw [Y.2.1]; decide)  rfl (rest := []) rfl (Nat.le_of_ble_eq_true rfl) (by rw [Y.2.1]; exact ⟨Nat.le_of_ble_eq_true rfl, Nat.le_of_ble_eq_true rfl⟩) dX1_passOne_1 (st' := [.int r2]) rfl ?_
  refine g_bipush (pc := 4) X (v := 100) dX1_passOne_4 rfl ?_
  refine g_irem (pc := 6) X (by decide) dX1_passOne_6 ?_
  refine g_aload_n (pc := 7) X 0 rfl dX1_passOne_7 ?_
  obtain ⟨k5, h⟩ := gd_i h
  obtain ⟨a6, e7, h⟩ := bd1_i h
  refine g_getR (pc := 8) X FcX1 k5 4 e7 (by decide) rfl q_166 dX1_passOne_8 ?_
  refine g_iconst (pc := 11) X (v := 2) dX1_passOne_11 rfl ?_
  obtain ⟨k8, h⟩ := gd_i h
  refine g_iald (pc := 12) X k8 dX1_passOne_12 ?_
  refine g_icmp_ge (pc := 13) X (tgt := 27) dX1_passOne_13 rfl (fun c => ?_) (fun c => ?_)
  · have h := br_y c h
    refine g_sub (lv' := [(0, rf V v0)]) [0] rfl ?_
    exact bj_X1_passOne_27 Y  h
  · have h := br_n c h
    refine g_aload_n (pc := 16) X 0 rfl dX1_passOne_16 ?_
    obtain ⟨r24, w25, h26, h⟩ := bd2_i h
    refine g_callV (pc := 17) X FcX1 k5 mk_X1_oneComes q_557 q_558 q_556 (c_X1_oneComes h26) rfl rfl (by rw [Y.2.1]; decide)  rfl (rest := []) rfl (Nat.le_of_ble_eq_true rfl) (by rw [Y.2.1]; exact ⟨Nat.le_of_ble_eq_true rfl, Nat.le_of_ble_eq_true rfl⟩) dX1_passOne_17 (st' := [.int r24]) rfl ?_
    have kJ : Gd t V 2 0 0 (Qe t V (some (.int r)) w' 0 0) 28 [(0, rf V v0)] [.int (if r24 = 0 then 0 else 1 : Int32)] w25 := by
      obtain ⟨x27, e28, h⟩ := lb_i h
      refine g_top e28 ?_
      refine g_istore_n (pc := 28) X (lv' := [(1, .int x27), (0, rf V v0)]) dX1_passOne_28 (by decide) rfl ?_
      refine g_aload_n (pc := 29) X 1 rfl dX1_passOne_29 ?_
      obtain ⟨k29, h⟩ := gd_i h
      obtain ⟨r30, w31, h32, h⟩ := bd2_i h
      refine g_callV (pc := 30) X FcX1 k29 mk_X1_draw q_535 q_536 q_555 (c_X1_draw h32) rfl rfl (by rw [Y.2.1]; decide)  rfl (rest := []) rfl (Nat.le_of_ble_eq_true rfl) (by rw [Y.2.1]; exact ⟨Nat.le_of_ble_eq_true rfl, Nat.le_of_ble_eq_true rfl⟩) dX1_passOne_30 (st' := [.int r30]) rfl ?_
      refine g_bipush (pc := 33) X (v := 100) dX1_passOne_33 rfl ?_
      refine g_irem (pc := 35) X (by decide) dX1_passOne_35 ?_
      refine g_aload_n (pc := 36) X 1 rfl dX1_passOne_36 ?_
      obtain ⟨k33, h⟩ := gd_i h
      obtain ⟨a34, e35, h⟩ := bd1_i h
      refine g_getR (pc := 37) X FcX1 k33 4 e35 (by decide) rfl q_166 dX1_passOne_37 ?_
      refine g_iconst (pc := 40) X (v := 3) dX1_passOne_40 rfl ?_
      obtain ⟨k36, h⟩ := gd_i h
      refine g_iald (pc := 41) X k36 dX1_passOne_41 ?_
      refine g_icmp_ge (pc := 42) X (tgt := 49) dX1_passOne_42 rfl (fun c => ?_) (fun c => ?_)
      · have h := br_y c h
        refine g_sub (lv' := [(0, rf V v0), (1, .int x27)]) [1, 0] rfl ?_
        exact bj_X1_passOne_49 Y  h
      · have h := br_n c h
        refine g_aload_n (pc := 45) X 1 rfl dX1_passOne_45 ?_
        obtain ⟨r37, w38, h39, h⟩ := bd2_i h
        refine g_callV (pc := 46) X FcX1 k33 mk_X1_oneRises q_576 q_577 q_575 (c_X1_oneRises h39) rfl rfl (by rw [Y.2.1]; decide)  rfl (rest := []) rfl (Nat.le_of_ble_eq_true rfl) (by rw [Y.2.1]; exact ⟨Nat.le_of_ble_eq_true rfl, Nat.le_of_ble_eq_true rfl⟩) dX1_passOne_46 (st' := []) rfl ?_
        refine g_sub (lv' := [(0, rf V v0), (1, .int x27)]) [1, 0] rfl ?_
        exact bj_X1_passOne_49 Y  h
    refine g_if_eq (pc := 20) X (tgt := 27) dX1_passOne_20 rfl (fun c0 => ?_) (fun c0 => ?_)
    · refine g_iconst (pc := 27) X (v := 0) dX1_passOne_27 rfl ?_
      exact g_top (by rw [if_pos c0]) kJ
    · refine g_iconst (pc := 23) X (v := 1) dX1_passOne_23 rfl ?_
      refine g_goto (pc := 24) X (tgt := 28) dX1_passOne_24 rfl ?_
      exact g_top (by rw [if_neg c0]) kJ

def L_X1_pass_4  (n : Nat) (v0 : Nat) (v1 : Int32) (v2 : Int32) (v3 : Int32) (w : Wd) : Option (Int32 × Wd) := match n with
  | 0 => none
  | n + 1 => (if v1 ≤ v3 then
 some (v2, w)
 else
 (if wK w v0 = 1 then
 (bd2 (f_X1_passOne v0 w) fun r2 w3 =>
 (if r2 = 0 then
 (lb_ (v3 + 1) fun x5 =>
 L_X1_pass_4 n v0 v1 v2 x5 w3)
 else
 (lb_ (v2 + 1) fun x7 =>
 (lb_ (v3 + 1) fun x9 =>
 L_X1_pass_4 n v0 v1 x7 x9 w3))))
 else none))
theorem bL_X1_pass_4 {t : Ct} {V : Vt} {r : Int32} {w' : Wd} (Y : Hd_ t V cX1_pass 4 RX1 { frames := 6, cells := 0, slots := 0, locals := 139 } (some .int) "pass") : ∀ {n : Nat} {v0 : Nat} {v1 : Int32} {v2 : Int32} {v3 : Int32} {w : Wd}, L_X1_pass_4  n v0 v1 v2 v3 w = some (r, w') → Gd t V 4 0 0 (Qe t V (some (.int r)) w' 0 0) 4 [(0, rf V v0), (1, .int v1), (2, .int v2), (3, .int v3)] [] w := by
  have X := Y.1
  intro n
  induction n with
  | zero => intro v0 v1 v2 v3 w h; cases h
  | succ n ih0 =>
    have ih : ∀ (v0 : Nat) (v1 : Int32) (v2 : Int32) (v3 : Int32) (w : Wd), L_X1_pass_4  n v0 v1 v2 v3 w = some (r, w') → Gd t V 4 0 0 (Qe t V (some (.int r)) w' 0 0) 4 [(0, rf V v0), (1, .int v1), (2, .int v2), (3, .int v3)] [] w := fun v0 v1 v2 v3 w h => ih0 h
    clear ih0
    intro v0 v1 v2 v3 w h
    unfold L_X1_pass_4 at h
    refine g_iload_n (pc := 4) X 3 rfl dX1_pass_4 ?_
    refine g_iload_n (pc := 5) X 1 rfl dX1_pass_5 ?_
    refine g_icmp_ge (pc := 6) X (tgt := 25) dX1_pass_6 rfl (fun c => ?_) (fun c => ?_)
    · have h := br_y c h
      refine g_iload_n (pc := 25) X 2 rfl dX1_pass_25 ?_
      obtain ⟨e1, e2⟩ := rt_i h
      exact g_iret (pc := 26) X Y.2.2.1 (Nat.le_of_ble_eq_true rfl) (Nat.le_of_ble_eq_true rfl) e1 e2 dX1_pass_26
    · have h := br_n c h
      refine g_aload_n (pc := 9) X 0 rfl dX1_pass_9 ?_
      obtain ⟨k1, h⟩ := gd_i h
      obtain ⟨r2, w3, h4, h⟩ := bd2_i h
      refine g_callV (pc := 10) X FcX1 k1 mk_X1_passOne q_552 q_553 q_551 (c_X1_passOne h4) rfl rfl (by rw [Y.2.1]; decide)  rfl (rest := []) rfl (Nat.le_of_ble_eq_true rfl) (by rw [Y.2.1]; exact ⟨Nat.le_of_ble_eq_true rfl, Nat.le_of_ble_eq_true rfl⟩) dX1_pass_10 (st' := [.int r2]) rfl ?_
      refine g_if_eq (pc := 13) X (tgt := 19) dX1_pass_13 rfl (fun c => ?_) (fun c => ?_)
      · have h := br_y c h
        obtain ⟨x5, e6, h⟩ := lb_i h
        refine g_iinc (pc := 19) X 3 rfl dX1_pass_19 (v := x5) e6.symm (by decide) (lv' := [(3, .int x5), (0, rf V v0), (1, .int v1), (2, .int v2)]) rfl ?_
        refine g_goto (pc := 22) X (tgt := 4) dX1_pass_22 rfl ?_
        refine g_sub (lv' := [(0, rf V v0), (1, .int v1), (2, .int v2), (3, .int x5)]) [1, 2, 3, 0] rfl ?_
        exact ih _ _ _ _ _ h
      · have h := br_n c h
        obtain ⟨x7, e8, h⟩ := lb_i h
        refine g_iinc (pc := 16) X 2 rfl dX1_pass_16 (v := x7) e8.symm (by decide) (lv' := [(2, .int x7), (0, rf V v0), (1, .int v1), (3, .int v3)]) rfl ?_
        obtain ⟨x9, e10, h⟩ := lb_i h
        refine g_iinc (pc := 19) X 3 rfl dX1_pass_19 (v := x9) e10.symm (by decide) (lv' := [(3, .int x9), (2, .int x7), (0, rf V v0), (1, .int v1)]) rfl ?_
        refine g_goto (pc := 22) X (tgt := 4) dX1_pass_22 rfl ?_
        refine g_sub (lv' := [(0, rf V v0), (1, .int v1), (2, .int x7), (3, .int x9)]) [2, 3, 1, 0] rfl ?_
        exact ih _ _ _ _ _ h

def f_X1_pass (v0 : Nat) (v1 : Int32) (w : Wd) : Option (Int32 × Wd) := L_X1_pass_4 FU v0 v1 0 0 w
theorem c_X1_pass {l : Launch} {V : Vt} {v0 : Nat} {v1 : Int32} {w w' : Wd} {r : Int32} (h : f_X1_pass v0 v1 w = some (r, w')) : MetW l V yX1_pass cX1_pass 4 (some .int) { frames := 6, cells := 0, slots := 0, locals := 139 } w [rf V v0, .int v1] (some (.int r)) w' 0 0 := by
  refine g_start (by decide) (Nat.le_of_ble_eq_true rfl) ?_
  intro t _ hrm X hret hnm
  have Y : Hd_ t V cX1_pass 4 RX1 { frames := 6, cells := 0, slots := 0, locals := 139 } (some .int) "pass" := ⟨X, hrm, hret, hnm⟩
  refine g_as (lv' := [(0, rf V v0), (1, .int v1)]) (st' := []) rfl rfl ?_
  unfold f_X1_pass at h
  refine g_iconst (pc := 0) X (v := 0) dX1_pass_0 rfl ?_
  refine g_istore_n (pc := 1) X (lv' := [(2, .int 0), (0, rf V v0), (1, .int v1)]) dX1_pass_1 (by decide) rfl ?_
  refine g_iconst (pc := 2) X (v := 0) dX1_pass_2 rfl ?_
  refine g_istore_n (pc := 3) X (lv' := [(3, .int 0), (2, .int 0), (0, rf V v0), (1, .int v1)]) dX1_pass_3 (by decide) rfl ?_
  refine g_sub (lv' := [(0, rf V v0), (1, .int v1), (2, .int 0), (3, .int 0)]) [2, 3, 1, 0] rfl ?_
  exact bL_X1_pass_4 Y  h

def f_X2_init (v0 : Nat) (w : Wd) : Option (Unit × Wd) := (lb_ (wN w) fun a1 =>
 (lb_ (nC w 11 4096) fun w3 =>
 (if wK w3 v0 = 2 then
 (lb_ (sR w3 v0 0 (some a1)) fun w6 =>
 (lb_ (wN w6) fun a8 =>
 (lb_ (nC w6 11 12) fun w10 =>
 (if wK w10 v0 = 2 then
 (lb_ (sR w10 v0 1 (some a8)) fun w13 =>
 some ((), w13))
 else none))))
 else none)))
theorem c_X2_init {l : Launch} {V : Vt} {v0 : Nat} {w w' : Wd} {r : Unit} (h : f_X2_init v0 w = some (r, w')) : MetW l V yX2_init cX2_init 1 (none) { frames := 1, cells := 2, slots := 4108, locals := 20 } w [rf V v0] none w' 2 4108 := by
  refine g_start (by decide) (Nat.le_of_ble_eq_true rfl) ?_
  intro t _ hrm X hret hnm
  have Y : Hd_ t V cX2_init 1 RX2 { frames := 1, cells := 2, slots := 4108, locals := 20 } (none) "<init>" := ⟨X, hrm, hret, hnm⟩
  refine g_as (lv' := [(0, rf V v0)]) (st' := []) rfl rfl ?_
  unfold f_X2_init at h
  refine g_aload_n (pc := 0) X 0 rfl dX2_init_0 ?_
  refine g_objInit (pc := 1) X q_209 q_88 q_89 (by rw [Y.2.1]; decide) (by rw [Y.2.1]; exact Nat.le_of_ble_eq_true rfl) dX2_init_1 ?_
  refine g_aload_n (pc := 4) X 0 rfl dX2_init_4 ?_
  refine g_sipush (pc := 5) X (v := 4096) dX2_init_5 rfl ?_
  refine g_newarr (pc := 8) X (atype := .int) (k := 11) (fty := .int) rfl (by decide) (by decide) rfl ra_int rfl q_155 (N := 4096) (by decide) rfl (Nat.le_of_ble_eq_true rfl) (by rw [Y.2.1]; exact Nat.le_of_ble_eq_true rfl) (by rw [Y.2.1]; exact Nat.le_of_ble_eq_true rfl) dX2_init_8 ?_
  obtain ⟨a1, e2, h⟩ := lb_i h
  obtain ⟨w3, e4, h⟩ := lb_i h
  refine g_w e4 ?_
  refine g_topr e2 ?_
  obtain ⟨k5, h⟩ := gd_i h
  refine g_putFR (pc := 10) X FcX2 k5 0 (by decide) rfl q_210 rfl Y.2.2.2 rfl rfl rfl dX2_init_10 ?_
  obtain ⟨w6, e7, h⟩ := lb_i h
  refine g_w e7 ?_
  refine g_aload_n (pc := 13) X 0 rfl dX2_init_13 ?_
  refine g_bipush (pc := 14) X (v := 12) dX2_init_14 rfl ?_
  refine g_newarr (pc := 16) X (atype := .int) (k := 11) (fty := .int) rfl (by decide) (by decide) rfl ra_int rfl q_155 (N := 12) (by decide) rfl (Nat.le_of_ble_eq_true rfl) (by rw [Y.2.1]; exact Nat.le_of_ble_eq_true rfl) (by rw [Y.2.1]; exact Nat.le_of_ble_eq_true rfl) dX2_init_16 ?_
  obtain ⟨a8, e9, h⟩ := lb_i h
  obtain ⟨w10, e11, h⟩ := lb_i h
  refine g_w e11 ?_
  refine g_topr e9 ?_
  obtain ⟨k12, h⟩ := gd_i h
  refine g_putFR (pc := 18) X FcX2 k12 1 (by decide) rfl q_211 rfl Y.2.2.2 rfl rfl rfl dX2_init_18 ?_
  obtain ⟨w13, e14, h⟩ := lb_i h
  refine g_w e14 ?_
  obtain ⟨e1, e2⟩ := rt_i h
  exact g_vret (pc := 21) X Y.2.2.1 (Nat.le_of_ble_eq_true rfl) (Nat.le_of_ble_eq_true rfl) e2 dX2_init_21

def L_X2_joined_34  (n : Nat) (v0 : Nat) (v1 : Int32) (v3 : Int32) (v4 : Int32) (v5 : Int32) (v6 : Int64) (v8 : Int32) (v9 : Int32) (w : Wd) : Option (Int32 × Wd) := match n with
  | 0 => none
  | n + 1 => (if v9 ≤ 0 then
 (if v3 = 0 then
 some (v4 + 1, w)
 else
 (if v3 = 1 then
 some (v5 + 1, w)
 else
 (if v3 = 2 then
 some (Int64.toInt32 (lrem v6 1000000007), w)
 else
 some ((if v5 = 0 then 1 else 0 : Int32), w))))
 else
 (if wK w v0 = 2 then
 (bd1 (wR w v0 0) fun a8 =>
 (if aK 11 w a8 (v1 ||| (v8 &&& (-v8))) = true then
 (lb_ (wI w a8 (nx (v1 ||| (v8 &&& (-v8))))) fun x11 =>
 (lb_ (v8 &&& (v8 - 1)) fun x13 =>
 (lb_ (if x11 ≤ v4 then v4 else x11 : Int32) fun x15 =>
 (lb_ (if v5 ≤ x11 then v5 else x11 : Int32) fun x17 =>
 (lb_ (v6 + (Int32.toInt64 x11)) fun x19 =>
 (lb_ (v9 + (-1)) fun x21 =>
 L_X2_joined_34 n v0 v1 v3 x15 x17 x19 x13 x21 w))))))
 else none))
 else none))
theorem bL_X2_joined_34 {t : Ct} {V : Vt} {r : Int32} {w' : Wd} (Y : Hd_ t V cX2_joined 11 RX2 { frames := 1, cells := 0, slots := 0, locals := 20 } (some .int) "joined") : ∀ {n : Nat} {v0 : Nat} {v1 : Int32} {v3 : Int32} {v4 : Int32} {v5 : Int32} {v6 : Int64} {v8 : Int32} {v9 : Int32} {w : Wd}, L_X2_joined_34  n v0 v1 v3 v4 v5 v6 v8 v9 w = some (r, w') → Gd t V 11 0 0 (Qe t V (some (.int r)) w' 0 0) 34 [(0, rf V v0), (1, .int v1), (3, .int v3), (4, .int v4), (5, .int v5), (6, .long v6), (8, .int v8), (9, .int v9)] [] w := by
  have X := Y.1
  intro n
  induction n with
  | zero => intro v0 v1 v3 v4 v5 v6 v8 v9 w h; cases h
  | succ n ih0 =>
    have ih : ∀ (v0 : Nat) (v1 : Int32) (v3 : Int32) (v4 : Int32) (v5 : Int32) (v6 : Int64) (v8 : Int32) (v9 : Int32) (w : Wd), L_X2_joined_34  n v0 v1 v3 v4 v5 v6 v8 v9 w = some (r, w') → Gd t V 11 0 0 (Qe t V (some (.int r)) w' 0 0) 34 [(0, rf V v0), (1, .int v1), (3, .int v3), (4, .int v4), (5, .int v5), (6, .long v6), (8, .int v8), (9, .int v9)] [] w := fun v0 v1 v3 v4 v5 v6 v8 v9 w h => ih0 h
    clear ih0
    intro v0 v1 v3 v4 v5 v6 v8 v9 w h
    unfold L_X2_joined_34 at h
    refine g_iload (pc := 34) X 7 rfl dX2_joined_34 ?_
    refine g_if_le (pc := 36) X (tgt := 109) dX2_joined_36 rfl (fun c => ?_) (fun c => ?_)
    · have h := br_y c h
      refine g_iload_n (pc := 109) X 2 rfl dX2_joined_109 ?_
      by_cases c4 : v3 = 0
      · have h := br_y c4 h
        refine g_tswI (pc := 110) X 0 (tgt := 136) dX2_joined_110 c4 (by decide) (by decide) rfl rfl ?_
        refine g_iload (pc := 136) X 3 rfl dX2_joined_136 ?_
        refine g_iconst (pc := 138) X (v := 1) dX2_joined_138 rfl ?_
        refine g_iadd (pc := 139) X dX2_joined_139 ?_
        obtain ⟨e1, e2⟩ := rt_i h
        exact g_iret (pc := 140) X Y.2.2.1 (Nat.le_of_ble_eq_true rfl) (Nat.le_of_ble_eq_true rfl) e1 e2 dX2_joined_140
      · have h := br_n c4 h
        by_cases c5 : v3 = 1
        · have h := br_y c5 h
          refine g_tswI (pc := 110) X 1 (tgt := 141) dX2_joined_110 c5 (by decide) (by decide) rfl rfl ?_
          refine g_iload (pc := 141) X 4 rfl dX2_joined_141 ?_
          refine g_iconst (pc := 143) X (v := 1) dX2_joined_143 rfl ?_
          refine g_iadd (pc := 144) X dX2_joined_144 ?_
          obtain ⟨e1, e2⟩ := rt_i h
          exact g_iret (pc := 145) X Y.2.2.1 (Nat.le_of_ble_eq_true rfl) (Nat.le_of_ble_eq_true rfl) e1 e2 dX2_joined_145
        · have h := br_n c5 h
          by_cases c6 : v3 = 2
          · have h := br_y c6 h
            refine g_tswI (pc := 110) X 2 (tgt := 146) dX2_joined_110 c6 (by decide) (by decide) rfl rfl ?_
            refine g_lload (pc := 146) X 5 rfl dX2_joined_146 ?_
            refine g_ldc2 (pc := 148) X q_601 dX2_joined_148 ?_
            refine g_lrem (pc := 151) X (by decide) dX2_joined_151 ?_
            refine g_l2i (pc := 152) X dX2_joined_152 ?_
            obtain ⟨e1, e2⟩ := rt_i h
            exact g_iret (pc := 153) X Y.2.2.1 (Nat.le_of_ble_eq_true rfl) (Nat.le_of_ble_eq_true rfl) e1 e2 dX2_joined_153
          · have h := br_n c6 h
            refine g_tswO (pc := 110) X (tgt := 154) dX2_joined_110 (by have n0 : Int32.toInt v3 ≠ 0 := nt_ c4; have n1 : Int32.toInt v3 ≠ 1 := nt_ c5; have n2 : Int32.toInt v3 ≠ 2 := nt_ c6; omega) rfl ?_
            refine g_iload (pc := 154) X 4 rfl dX2_joined_154 ?_
            have kJ : Gd t V 11 0 0 (Qe t V (some (.int r)) w' 0 0) 164 [(0, rf V v0), (1, .int v1), (3, .int v3), (4, .int v4), (5, .int v5), (6, .long v6), (8, .int v8), (9, .int v9)] [.int (if v5 = 0 then 1 else 0 : Int32)] w := by
              obtain ⟨e1, e2⟩ := rt_i h
              exact g_iret (pc := 164) X Y.2.2.1 (Nat.le_of_ble_eq_true rfl) (Nat.le_of_ble_eq_true rfl) e1 e2 dX2_joined_164
            refine g_if_ne (pc := 156) X (tgt := 163) dX2_joined_156 rfl (fun c0 => ?_) (fun c0 => ?_)
            · refine g_iconst (pc := 163) X (v := 0) dX2_joined_163 rfl ?_
              exact g_top (by rw [if_neg c0]) kJ
            · refine g_iconst (pc := 159) X (v := 1) dX2_joined_159 rfl ?_
              refine g_goto (pc := 160) X (tgt := 164) dX2_joined_160 rfl ?_
              exact g_top (by rw [if_pos c0]) kJ
    · have h := br_n c h
      refine g_aload_n (pc := 39) X 0 rfl dX2_joined_39 ?_
      obtain ⟨k7, h⟩ := gd_i h
      obtain ⟨a8, e9, h⟩ := bd1_i h
      refine g_getR (pc := 40) X FcX2 k7 0 e9 (by decide) rfl q_210 dX2_joined_40 ?_
      refine g_iload_n (pc := 43) X 1 rfl dX2_joined_43 ?_
      refine g_iload (pc := 44) X 6 rfl dX2_joined_44 ?_
      refine g_iload (pc := 46) X 6 rfl dX2_joined_46 ?_
      refine g_ineg (pc := 48) X dX2_joined_48 ?_
      refine g_iand (pc := 49) X dX2_joined_49 ?_
      refine g_ior (pc := 50) X dX2_joined_50 ?_
      obtain ⟨k10, h⟩ := gd_i h
      refine g_iald (pc := 51) X k10 dX2_joined_51 ?_
      obtain ⟨x11, e12, h⟩ := lb_i h
      refine g_top e12 ?_
      refine g_istore (pc := 52) X (lv' := [(10, .int x11), (0, rf V v0), (1, .int v1), (3, .int v3), (4, .int v4), (5, .int v5), (6, .long v6), (8, .int v8), (9, .int v9)]) dX2_joined_52 (by decide) rfl ?_
      refine g_iload (pc := 54) X 7 rfl dX2_joined_54 ?_
      refine g_iload (pc := 56) X 7 rfl dX2_joined_56 ?_
      refine g_iconst (pc := 58) X (v := 1) dX2_joined_58 rfl ?_
      refine g_isub (pc := 59) X dX2_joined_59 ?_
      refine g_iand (pc := 60) X dX2_joined_60 ?_
      obtain ⟨x13, e14, h⟩ := lb_i h
      refine g_top e14 ?_
      refine g_istore (pc := 61) X (lv' := [(8, .int x13), (10, .int x11), (0, rf V v0), (1, .int v1), (3, .int v3), (4, .int v4), (5, .int v5), (6, .long v6), (9, .int v9)]) dX2_joined_61 (by decide) rfl ?_
      refine g_iload (pc := 63) X 1 rfl dX2_joined_63 ?_
      refine g_iload (pc := 65) X 5 rfl dX2_joined_65 ?_
      have kJ : Gd t V 11 0 0 (Qe t V (some (.int r)) w' 0 0) 77 [(8, .int x13), (10, .int x11), (0, rf V v0), (1, .int v1), (3, .int v3), (4, .int v4), (5, .int v5), (6, .long v6), (9, .int v9)] [.int (if x11 ≤ v4 then v4 else x11 : Int32)] w := by
        obtain ⟨x15, e16, h⟩ := lb_i h
        refine g_top e16 ?_
        refine g_istore (pc := 77) X (lv' := [(4, .int x15), (8, .int x13), (10, .int x11), (0, rf V v0), (1, .int v1), (3, .int v3), (5, .int v5), (6, .long v6), (9, .int v9)]) dX2_joined_77 (by decide) rfl ?_
        refine g_iload (pc := 79) X 2 rfl dX2_joined_79 ?_
        refine g_iload (pc := 81) X 6 rfl dX2_joined_81 ?_
        have kJ : Gd t V 11 0 0 (Qe t V (some (.int r)) w' 0 0) 93 [(4, .int x15), (8, .int x13), (10, .int x11), (0, rf V v0), (1, .int v1), (3, .int v3), (5, .int v5), (6, .long v6), (9, .int v9)] [.int (if v5 ≤ x11 then v5 else x11 : Int32)] w := by
          obtain ⟨x17, e18, h⟩ := lb_i h
          refine g_top e18 ?_
          refine g_istore (pc := 93) X (lv' := [(5, .int x17), (4, .int x15), (8, .int x13), (10, .int x11), (0, rf V v0), (1, .int v1), (3, .int v3), (6, .long v6), (9, .int v9)]) dX2_joined_93 (by decide) rfl ?_
          refine g_lload (pc := 95) X 7 rfl dX2_joined_95 ?_
          refine g_iload (pc := 97) X 3 rfl dX2_joined_97 ?_
          refine g_i2l (pc := 99) X dX2_joined_99 ?_
          refine g_ladd (pc := 100) X dX2_joined_100 ?_
          obtain ⟨x19, e20, h⟩ := lb_i h
          refine g_topl e20 ?_
          refine g_lstore (pc := 101) X (lv' := [(6, .long x19), (5, .int x17), (4, .int x15), (8, .int x13), (10, .int x11), (0, rf V v0), (1, .int v1), (3, .int v3), (9, .int v9)]) dX2_joined_101 (by decide) rfl ?_
          obtain ⟨x21, e22, h⟩ := lb_i h
          refine g_iinc (pc := 103) X 8 rfl dX2_joined_103 (v := x21) e22.symm (by decide) (lv' := [(9, .int x21), (6, .long x19), (5, .int x17), (4, .int x15), (8, .int x13), (10, .int x11), (0, rf V v0), (1, .int v1), (3, .int v3)]) rfl ?_
          refine g_goto (pc := 106) X (tgt := 34) dX2_joined_106 rfl ?_
          refine g_sub (lv' := [(0, rf V v0), (1, .int v1), (3, .int v3), (4, .int x15), (5, .int x17), (6, .long x19), (8, .int x13), (9, .int x21)]) [6, 7, 8, 3, 2, 1, 4, 0] rfl ?_
          exact ih _ _ _ _ _ _ _ _ _ h
        refine g_icmp_ge (pc := 83) X (tgt := 91) dX2_joined_83 rfl (fun c0 => ?_) (fun c0 => ?_)
        · refine g_iload (pc := 91) X 6 rfl dX2_joined_91 ?_
          exact g_top (by rw [if_pos c0]) kJ
        · refine g_iload (pc := 86) X 2 rfl dX2_joined_86 ?_
          refine g_goto (pc := 88) X (tgt := 93) dX2_joined_88 rfl ?_
          exact g_top (by rw [if_neg c0]) kJ
      refine g_icmp_le (pc := 67) X (tgt := 75) dX2_joined_67 rfl (fun c0 => ?_) (fun c0 => ?_)
      · refine g_iload (pc := 75) X 5 rfl dX2_joined_75 ?_
        exact g_top (by rw [if_pos c0]) kJ
      · refine g_iload (pc := 70) X 1 rfl dX2_joined_70 ?_
        refine g_goto (pc := 72) X (tgt := 77) dX2_joined_72 rfl ?_
        exact g_top (by rw [if_neg c0]) kJ

def f_X2_joined (v0 : Nat) (v1 : Int32) (v2 : Int32) (v3 : Int32) (w : Wd) : Option (Int32 × Wd) := (if v2 = 0 then
 some ((if v3 = 2 then 1 else 0 : Int32), w)
 else
 (bd2 (f_J6_bitCount_0f7a4 v2 w) fun r1 w2 =>
 L_X2_joined_34 FU v0 v1 v3 0 1000000007 0 v2 r1 w2))
theorem c_X2_joined {l : Launch} {V : Vt} {v0 : Nat} {v1 : Int32} {v2 : Int32} {v3 : Int32} {w w' : Wd} {r : Int32} (h : f_X2_joined v0 v1 v2 v3 w = some (r, w')) : MetW l V yX2_joined cX2_joined 11 (some .int) { frames := 1, cells := 0, slots := 0, locals := 20 } w [rf V v0, .int v1, .int v2, .int v3] (some (.int r)) w' 0 0 := by
  refine g_start (by decide) (Nat.le_of_ble_eq_true rfl) ?_
  intro t _ hrm X hret hnm
  have Y : Hd_ t V cX2_joined 11 RX2 { frames := 1, cells := 0, slots := 0, locals := 20 } (some .int) "joined" := ⟨X, hrm, hret, hnm⟩
  refine g_as (lv' := [(0, rf V v0), (1, .int v1), (2, .int v2), (3, .int v3)]) (st' := []) rfl rfl ?_
  unfold f_X2_joined at h
  refine g_iload_n (pc := 0) X 2 rfl dX2_joined_0 ?_
  refine g_if_ne (pc := 1) X (tgt := 15) dX2_joined_1 rfl (fun c => ?_) (fun c => ?_)
  · have h := br_n c h
    refine g_iconst (pc := 15) X (v := 0) dX2_joined_15 rfl ?_
    refine g_istore (pc := 16) X (lv' := [(4, .int 0), (0, rf V v0), (1, .int v1), (2, .int v2), (3, .int v3)]) dX2_joined_16 (by decide) rfl ?_
    refine g_ldc (pc := 18) X q_600 dX2_joined_18 ?_
    refine g_istore (pc := 20) X (lv' := [(5, .int 1000000007), (4, .int 0), (0, rf V v0), (1, .int v1), (2, .int v2), (3, .int v3)]) dX2_joined_20 (by decide) rfl ?_
    refine g_lconst (pc := 22) X (v := 0) dX2_joined_22 rfl ?_
    refine g_lstore (pc := 23) X (lv' := [(6, .long 0), (5, .int 1000000007), (4, .int 0), (0, rf V v0), (1, .int v1), (2, .int v2), (3, .int v3)]) dX2_joined_23 (by decide) rfl ?_
    refine g_iload_n (pc := 25) X 5 rfl dX2_joined_25 ?_
    refine g_istore (pc := 26) X (lv' := [(8, .int v2), (6, .long 0), (5, .int 1000000007), (4, .int 0), (0, rf V v0), (1, .int v1), (2, .int v2), (3, .int v3)]) dX2_joined_26 (by decide) rfl ?_
    refine g_iload_n (pc := 28) X 6 rfl dX2_joined_28 ?_
    obtain ⟨r1, w2, h3, h⟩ := bd2_i h
    refine g_callS (pc := 29) X mk_J6_bitCount_0f7a4 q_377 q_594 (c_J6_bitCount_0f7a4 h3) rfl rfl (by rw [Y.2.1]; decide)  rfl (rest := []) rfl (Nat.le_of_ble_eq_true rfl) (by rw [Y.2.1]; exact ⟨Nat.le_of_ble_eq_true rfl, Nat.le_of_ble_eq_true rfl⟩) dX2_joined_29 (st' := [.int r1]) rfl ?_
    refine g_istore (pc := 32) X (lv' := [(9, .int r1), (8, .int v2), (6, .long 0), (5, .int 1000000007), (4, .int 0), (0, rf V v0), (1, .int v1), (2, .int v2), (3, .int v3)]) dX2_joined_32 (by decide) rfl ?_
    refine g_sub (lv' := [(0, rf V v0), (1, .int v1), (3, .int v3), (4, .int 0), (5, .int 1000000007), (6, .long 0), (8, .int v2), (9, .int r1)]) [5, 6, 8, 4, 3, 2, 1, 0] rfl ?_
    exact bL_X2_joined_34 Y  h
  · have h := br_y c h
    refine g_iload_n (pc := 4) X 3 rfl dX2_joined_4 ?_
    refine g_iconst (pc := 5) X (v := 2) dX2_joined_5 rfl ?_
    have kJ : Gd t V 11 0 0 (Qe t V (some (.int r)) w' 0 0) 14 [(0, rf V v0), (1, .int v1), (2, .int v2), (3, .int v3)] [.int (if v3 = 2 then 1 else 0 : Int32)] w := by
      obtain ⟨e1, e2⟩ := rt_i h
      exact g_iret (pc := 14) X Y.2.2.1 (Nat.le_of_ble_eq_true rfl) (Nat.le_of_ble_eq_true rfl) e1 e2 dX2_joined_14
    refine g_icmp_ne (pc := 6) X (tgt := 13) dX2_joined_6 rfl (fun c0 => ?_) (fun c0 => ?_)
    · refine g_iconst (pc := 13) X (v := 0) dX2_joined_13 rfl ?_
      exact g_top (by rw [if_neg c0]) kJ
    · refine g_iconst (pc := 9) X (v := 1) dX2_joined_9 rfl ?_
      refine g_goto (pc := 10) X (tgt := 14) dX2_joined_10 rfl ?_
      exact g_top (by rw [if_pos c0]) kJ

def L_X2_foresee_23  (n : Nat) (v0 : Nat) (v1 : Nat) (v2 : Int32) (v3 : Int32) (v4 : Int32) (v5 : Int32) (v6 : Int32) (w : Wd) : Option (Int32 × Wd) := match n with
  | 0 => none
  | n + 1 => (if v6 ≤ 0 then
 (if wK w v0 = 2 then
 (bd1 (wR w v0 0) fun a10 =>
 (if aK 11 w a10 v2 = true then
 some (wI w a10 (nx v2), w)
 else none))
 else none)
 else
 (lb_ (v2 ||| v5) fun x13 =>
 (if wK w v0 = 2 then
 (bd1 (wR w v0 0) fun a16 =>
 (if wK w v1 = 0 then
 (bd2 (f_X0_ordinary v1 x13 w) fun r19 w20 =>
 (if wK w20 v0 = 2 then
 (bd2 (f_X2_joined v0 x13 r19 v3 w20) fun r23 w24 =>
 (if aK 11 w24 a16 x13 = true then
 (lb_ (sI w24 a16 (nx x13) r23) fun w27 =>
 (lb_ ((v5 - 1) &&& v4) fun x29 =>
 (lb_ (v6 + (-1)) fun x31 =>
 L_X2_foresee_23 n v0 v1 v2 v3 v4 x29 x31 w27)))
 else none))
 else none))
 else none))
 else none)))
theorem bL_X2_foresee_23 {t : Ct} {V : Vt} {r : Int32} {w' : Wd} (Y : Hd_ t V cX2_foresee 8 RX2 { frames := 2, cells := 0, slots := 0, locals := 50 } (some .int) "foresee") : ∀ {n : Nat} {v0 : Nat} {v1 : Nat} {v2 : Int32} {v3 : Int32} {v4 : Int32} {v5 : Int32} {v6 : Int32} {w : Wd}, L_X2_foresee_23  n v0 v1 v2 v3 v4 v5 v6 w = some (r, w') → Gd t V 8 0 0 (Qe t V (some (.int r)) w' 0 0) 23 [(0, rf V v0), (1, rf V v1), (2, .int v2), (3, .int v3), (4, .int v4), (5, .int v5), (6, .int v6)] [] w := by
  have X := Y.1
  intro n
  induction n with
  | zero => intro v0 v1 v2 v3 v4 v5 v6 w h; cases h
  | succ n ih0 =>
    have ih : ∀ (v0 : Nat) (v1 : Nat) (v2 : Int32) (v3 : Int32) (v4 : Int32) (v5 : Int32) (v6 : Int32) (w : Wd), L_X2_foresee_23  n v0 v1 v2 v3 v4 v5 v6 w = some (r, w') → Gd t V 8 0 0 (Qe t V (some (.int r)) w' 0 0) 23 [(0, rf V v0), (1, rf V v1), (2, .int v2), (3, .int v3), (4, .int v4), (5, .int v5), (6, .int v6)] [] w := fun v0 v1 v2 v3 v4 v5 v6 w h => ih0 h
    clear ih0
    intro v0 v1 v2 v3 v4 v5 v6 w h
    unfold L_X2_foresee_23 at h
    refine g_iload (pc := 23) X 6 rfl dX2_foresee_23 ?_
    refine g_if_le (pc := 25) X (tgt := 69) dX2_foresee_25 rfl (fun c => ?_) (fun c => ?_)
    · have h := br_y c h
      refine g_aload_n (pc := 69) X 0 rfl dX2_foresee_69 ?_
      obtain ⟨k9, h⟩ := gd_i h
      obtain ⟨a10, e11, h⟩ := bd1_i h
      refine g_getR (pc := 70) X FcX2 k9 0 e11 (by decide) rfl q_210 dX2_foresee_70 ?_
      refine g_iload_n (pc := 73) X 2 rfl dX2_foresee_73 ?_
      obtain ⟨k12, h⟩ := gd_i h
      refine g_iald (pc := 74) X k12 dX2_foresee_74 ?_
      obtain ⟨e1, e2⟩ := rt_i h
      exact g_iret (pc := 75) X Y.2.2.1 (Nat.le_of_ble_eq_true rfl) (Nat.le_of_ble_eq_true rfl) e1 e2 dX2_foresee_75
    · have h := br_n c h
      refine g_iload_n (pc := 28) X 2 rfl dX2_foresee_28 ?_
      refine g_iload (pc := 29) X 5 rfl dX2_foresee_29 ?_
      refine g_ior (pc := 31) X dX2_foresee_31 ?_
      obtain ⟨x13, e14, h⟩ := lb_i h
      refine g_top e14 ?_
      refine g_istore (pc := 32) X (lv' := [(7, .int x13), (0, rf V v0), (1, rf V v1), (2, .int v2), (3, .int v3), (4, .int v4), (5, .int v5), (6, .int v6)]) dX2_foresee_32 (by decide) rfl ?_
      refine g_aload_n (pc := 34) X 1 rfl dX2_foresee_34 ?_
      obtain ⟨k15, h⟩ := gd_i h
      obtain ⟨a16, e17, h⟩ := bd1_i h
      refine g_getR (pc := 35) X FcX2 k15 0 e17 (by decide) rfl q_210 dX2_foresee_35 ?_
      refine g_iload (pc := 38) X 0 rfl dX2_foresee_38 ?_
      refine g_aload_n (pc := 40) X 1 rfl dX2_foresee_40 ?_
      refine g_iload (pc := 41) X 0 rfl dX2_foresee_41 ?_
      refine g_aload_n (pc := 43) X 2 rfl dX2_foresee_43 ?_
      refine g_iload (pc := 44) X 0 rfl dX2_foresee_44 ?_
      obtain ⟨k18, h⟩ := gd_i h
      obtain ⟨r19, w20, h21, h⟩ := bd2_i h
      refine g_callV (pc := 46) X FcX0 k18 mk_X0_ordinary q_452 q_453 q_595 (c_X0_ordinary h21) rfl rfl (by rw [Y.2.1]; decide)  rfl (rest := [.int x13, rf V v0, .int x13, rf V a16]) rfl (Nat.le_of_ble_eq_true rfl) (by rw [Y.2.1]; exact ⟨Nat.le_of_ble_eq_true rfl, Nat.le_of_ble_eq_true rfl⟩) dX2_foresee_46 (st' := [.int r19, .int x13, rf V v0, .int x13, rf V a16]) rfl ?_
      refine g_iload_n (pc := 49) X 4 rfl dX2_foresee_49 ?_
      obtain ⟨k22, h⟩ := gd_i h
      obtain ⟨r23, w24, h25, h⟩ := bd2_i h
      refine g_callV (pc := 50) X FcX2 k22 mk_X2_joined q_598 q_2 q_596 (c_X2_joined h25) rfl rfl (by rw [Y.2.1]; decide)  rfl (rest := [.int x13, rf V a16]) rfl (Nat.le_of_ble_eq_true rfl) (by rw [Y.2.1]; exact ⟨Nat.le_of_ble_eq_true rfl, Nat.le_of_ble_eq_true rfl⟩) dX2_foresee_50 (st' := [.int r23, .int x13, rf V a16]) rfl ?_
      obtain ⟨k26, h⟩ := gd_i h
      refine g_iast (pc := 53) X k26 dX2_foresee_53 ?_
      obtain ⟨w27, e28, h⟩ := lb_i h
      refine g_w e28 ?_
      refine g_iload (pc := 54) X 6 rfl dX2_foresee_54 ?_
      refine g_iconst (pc := 56) X (v := 1) dX2_foresee_56 rfl ?_
      refine g_isub (pc := 57) X dX2_foresee_57 ?_
      refine g_iload (pc := 58) X 5 rfl dX2_foresee_58 ?_
      refine g_iand (pc := 60) X dX2_foresee_60 ?_
      obtain ⟨x29, e30, h⟩ := lb_i h
      refine g_top e30 ?_
      refine g_istore (pc := 61) X (lv' := [(5, .int x29), (7, .int x13), (0, rf V v0), (1, rf V v1), (2, .int v2), (3, .int v3), (4, .int v4), (6, .int v6)]) dX2_foresee_61 (by decide) rfl ?_
      obtain ⟨x31, e32, h⟩ := lb_i h
      refine g_iinc (pc := 63) X 7 rfl dX2_foresee_63 (v := x31) e32.symm (by decide) (lv' := [(6, .int x31), (5, .int x29), (7, .int x13), (0, rf V v0), (1, rf V v1), (2, .int v2), (3, .int v3), (4, .int v4)]) rfl ?_
      refine g_goto (pc := 66) X (tgt := 23) dX2_foresee_66 rfl ?_
      refine g_sub (lv' := [(0, rf V v0), (1, rf V v1), (2, .int v2), (3, .int v3), (4, .int v4), (5, .int x29), (6, .int x31)]) [3, 4, 5, 6, 7, 1, 0] rfl ?_
      exact ih _ _ _ _ _ _ _ _ h

def f_X2_foresee (v0 : Nat) (v1 : Nat) (v2 : Int32) (v3 : Int32) (w : Wd) : Option (Int32 × Wd) := (if wK w v1 = 0 then
 (lb_ ((wI w v1 3) &&& (v2 ^^^ (-1))) fun x2 =>
 (bd2 (f_J6_bitCount_0f7a4 x2 w) fun r4 w5 =>
 (lb_ (1 <<< (r4 &&& 31)) fun x7 =>
 L_X2_foresee_23 FU v0 v1 v2 v3 x2 x2 x7 w5)))
 else none)
theorem c_X2_foresee {l : Launch} {V : Vt} {v0 : Nat} {v1 : Nat} {v2 : Int32} {v3 : Int32} {w w' : Wd} {r : Int32} (h : f_X2_foresee v0 v1 v2 v3 w = some (r, w')) : MetW l V yX2_foresee cX2_foresee 8 (some .int) { frames := 2, cells := 0, slots := 0, locals := 50 } w [rf V v0, rf V v1, .int v2, .int v3] (some (.int r)) w' 0 0 := by
  refine g_start (by decide) (Nat.le_of_ble_eq_true rfl) ?_
  intro t _ hrm X hret hnm
  have Y : Hd_ t V cX2_foresee 8 RX2 { frames := 2, cells := 0, slots := 0, locals := 50 } (some .int) "foresee" := ⟨X, hrm, hret, hnm⟩
  refine g_as (lv' := [(0, rf V v0), (1, rf V v1), (2, .int v2), (3, .int v3)]) (st' := []) rfl rfl ?_
  unfold f_X2_foresee at h
  refine g_aload_n (pc := 0) X 1 rfl dX2_foresee_0 ?_
  obtain ⟨k1, h⟩ := gd_i h
  refine g_getI (pc := 1) X FcX0 k1 3 (by decide) rfl q_112 dX2_foresee_1 ?_
  refine g_iload_n (pc := 4) X 2 rfl dX2_foresee_4 ?_
  refine g_iconst (pc := 5) X (v := (-1)) dX2_foresee_5 rfl ?_
  refine g_ixor (pc := 6) X dX2_foresee_6 ?_
  refine g_iand (pc := 7) X dX2_foresee_7 ?_
  obtain ⟨x2, e3, h⟩ := lb_i h
  refine g_top e3 ?_
  refine g_istore (pc := 8) X (lv' := [(4, .int x2), (0, rf V v0), (1, rf V v1), (2, .int v2), (3, .int v3)]) dX2_foresee_8 (by decide) rfl ?_
  refine g_iload (pc := 10) X 0 rfl dX2_foresee_10 ?_
  refine g_istore (pc := 12) X (lv' := [(5, .int x2), (4, .int x2), (0, rf V v0), (1, rf V v1), (2, .int v2), (3, .int v3)]) dX2_foresee_12 (by decide) rfl ?_
  refine g_iconst (pc := 14) X (v := 1) dX2_foresee_14 rfl ?_
  refine g_iload (pc := 15) X 1 rfl dX2_foresee_15 ?_
  obtain ⟨r4, w5, h6, h⟩ := bd2_i h
  refine g_callS (pc := 17) X mk_J6_bitCount_0f7a4 q_377 q_594 (c_J6_bitCount_0f7a4 h6) rfl rfl (by rw [Y.2.1]; decide)  rfl (rest := [.int 1]) rfl (Nat.le_of_ble_eq_true rfl) (by rw [Y.2.1]; exact ⟨Nat.le_of_ble_eq_true rfl, Nat.le_of_ble_eq_true rfl⟩) dX2_foresee_17 (st' := [.int r4, .int 1]) rfl ?_
  refine g_ishl (pc := 20) X dX2_foresee_20 ?_
  obtain ⟨x7, e8, h⟩ := lb_i h
  refine g_top e8 ?_
  refine g_istore (pc := 21) X (lv' := [(6, .int x7), (5, .int x2), (4, .int x2), (0, rf V v0), (1, rf V v1), (2, .int v2), (3, .int v3)]) dX2_foresee_21 (by decide) rfl ?_
  refine g_sub (lv' := [(0, rf V v0), (1, rf V v1), (2, .int v2), (3, .int v3), (4, .int x2), (5, .int x2), (6, .int x7)]) [3, 4, 5, 6, 2, 1, 0] rfl ?_
  exact bL_X2_foresee_23 Y  h

def L_X2_winning_12  (n : Nat) (v0 : Nat) (v1 : Nat) (v2 : Int32) (v3 : Int32) (v4 : Int32) (v5 : Int32) (w : Wd) : Option (Int32 × Wd) := match n with
  | 0 => none
  | n + 1 => (if wK w v1 = 0 then
 (if (wI w v1 0) ≤ v5 then
 some (v4, w)
 else
 (bd2 (f_X8_has v3 v5 w) fun r6 w7 =>
 (if r6 = 0 then
 (lb_ (v5 + 1) fun x9 =>
 L_X2_winning_12 n v0 v1 v2 v3 v4 x9 w7)
 else
 (if wK w7 v0 = 2 then
 (bd1 (wR w7 v0 0) fun a12 =>
 (if aK 11 w7 a12 (v2 ||| (1 <<< (v5 &&& 31))) = true then
 (if (wI w7 a12 (nx (v2 ||| (1 <<< (v5 &&& 31))))) = 0 then
 (lb_ (v4 ||| (1 <<< (v5 &&& 31))) fun x17 =>
 (lb_ (v5 + 1) fun x19 =>
 L_X2_winning_12 n v0 v1 v2 v3 x17 x19 w7))
 else
 (lb_ (v5 + 1) fun x15 =>
 L_X2_winning_12 n v0 v1 v2 v3 v4 x15 w7))
 else none))
 else none))))
 else none)
theorem bL_X2_winning_12 {t : Ct} {V : Vt} {r : Int32} {w' : Wd} (Y : Hd_ t V cX2_winning 6 RX2 { frames := 2, cells := 0, slots := 0, locals := 44 } (some .int) "winning") : ∀ {n : Nat} {v0 : Nat} {v1 : Nat} {v2 : Int32} {v3 : Int32} {v4 : Int32} {v5 : Int32} {w : Wd}, L_X2_winning_12  n v0 v1 v2 v3 v4 v5 w = some (r, w') → Gd t V 6 0 0 (Qe t V (some (.int r)) w' 0 0) 12 [(0, rf V v0), (1, rf V v1), (2, .int v2), (3, .int v3), (4, .int v4), (5, .int v5)] [] w := by
  have X := Y.1
  intro n
  induction n with
  | zero => intro v0 v1 v2 v3 v4 v5 w h; cases h
  | succ n ih0 =>
    have ih : ∀ (v0 : Nat) (v1 : Nat) (v2 : Int32) (v3 : Int32) (v4 : Int32) (v5 : Int32) (w : Wd), L_X2_winning_12  n v0 v1 v2 v3 v4 v5 w = some (r, w') → Gd t V 6 0 0 (Qe t V (some (.int r)) w' 0 0) 12 [(0, rf V v0), (1, rf V v1), (2, .int v2), (3, .int v3), (4, .int v4), (5, .int v5)] [] w := fun v0 v1 v2 v3 v4 v5 w h => ih0 h
    clear ih0
    intro v0 v1 v2 v3 v4 v5 w h
    unfold L_X2_winning_12 at h
    refine g_iload (pc := 12) X 5 rfl dX2_winning_12 ?_
    refine g_aload_n (pc := 14) X 1 rfl dX2_winning_14 ?_
    obtain ⟨k5, h⟩ := gd_i h
    refine g_getI (pc := 15) X FcX0 k5 0 (by decide) rfl q_103 dX2_winning_15 ?_
    refine g_icmp_ge (pc := 18) X (tgt := 59) dX2_winning_18 rfl (fun c => ?_) (fun c => ?_)
    · have h := br_y c h
      refine g_iload (pc := 59) X 4 rfl dX2_winning_59 ?_
      obtain ⟨e1, e2⟩ := rt_i h
      exact g_iret (pc := 61) X Y.2.2.1 (Nat.le_of_ble_eq_true rfl) (Nat.le_of_ble_eq_true rfl) e1 e2 dX2_winning_61
    · have h := br_n c h
      refine g_iload_n (pc := 21) X 3 rfl dX2_winning_21 ?_
      refine g_iload (pc := 22) X 5 rfl dX2_winning_22 ?_
      obtain ⟨r6, w7, h8, h⟩ := bd2_i h
      refine g_callSN (pc := 24) X mk_X8_has q_480 (host := RX8) (by decide +kernel) (c_X8_has h8) rfl rfl (by rw [Y.2.1]; decide)  rfl (rest := []) rfl (Nat.le_of_ble_eq_true rfl) (by rw [Y.2.1]; exact ⟨Nat.le_of_ble_eq_true rfl, Nat.le_of_ble_eq_true rfl⟩) dX2_winning_24 (st' := [.int r6]) rfl ?_
      refine g_if_eq (pc := 27) X (tgt := 53) dX2_winning_27 rfl (fun c => ?_) (fun c => ?_)
      · have h := br_y c h
        obtain ⟨x9, e10, h⟩ := lb_i h
        refine g_iinc (pc := 53) X 5 rfl dX2_winning_53 (v := x9) e10.symm (by decide) (lv' := [(5, .int x9), (0, rf V v0), (1, rf V v1), (2, .int v2), (3, .int v3), (4, .int v4)]) rfl ?_
        refine g_goto (pc := 56) X (tgt := 12) dX2_winning_56 rfl ?_
        refine g_sub (lv' := [(0, rf V v0), (1, rf V v1), (2, .int v2), (3, .int v3), (4, .int v4), (5, .int x9)]) [1, 2, 3, 4, 5, 0] rfl ?_
        exact ih _ _ _ _ _ _ _ h
      · have h := br_n c h
        refine g_aload_n (pc := 30) X 0 rfl dX2_winning_30 ?_
        obtain ⟨k11, h⟩ := gd_i h
        obtain ⟨a12, e13, h⟩ := bd1_i h
        refine g_getR (pc := 31) X FcX2 k11 0 e13 (by decide) rfl q_210 dX2_winning_31 ?_
        refine g_iload_n (pc := 34) X 2 rfl dX2_winning_34 ?_
        refine g_iconst (pc := 35) X (v := 1) dX2_winning_35 rfl ?_
        refine g_iload (pc := 36) X 5 rfl dX2_winning_36 ?_
        refine g_ishl (pc := 38) X dX2_winning_38 ?_
        refine g_ior (pc := 39) X dX2_winning_39 ?_
        obtain ⟨k14, h⟩ := gd_i h
        refine g_iald (pc := 40) X k14 dX2_winning_40 ?_
        refine g_if_ne (pc := 41) X (tgt := 53) dX2_winning_41 rfl (fun c => ?_) (fun c => ?_)
        · have h := br_n c h
          obtain ⟨x15, e16, h⟩ := lb_i h
          refine g_iinc (pc := 53) X 5 rfl dX2_winning_53 (v := x15) e16.symm (by decide) (lv' := [(5, .int x15), (0, rf V v0), (1, rf V v1), (2, .int v2), (3, .int v3), (4, .int v4)]) rfl ?_
          refine g_goto (pc := 56) X (tgt := 12) dX2_winning_56 rfl ?_
          refine g_sub (lv' := [(0, rf V v0), (1, rf V v1), (2, .int v2), (3, .int v3), (4, .int v4), (5, .int x15)]) [1, 2, 3, 4, 5, 0] rfl ?_
          exact ih _ _ _ _ _ _ _ h
        · have h := br_y c h
          refine g_iload (pc := 44) X 4 rfl dX2_winning_44 ?_
          refine g_iconst (pc := 46) X (v := 1) dX2_winning_46 rfl ?_
          refine g_iload (pc := 47) X 5 rfl dX2_winning_47 ?_
          refine g_ishl (pc := 49) X dX2_winning_49 ?_
          refine g_ior (pc := 50) X dX2_winning_50 ?_
          obtain ⟨x17, e18, h⟩ := lb_i h
          refine g_top e18 ?_
          refine g_istore (pc := 51) X (lv' := [(4, .int x17), (0, rf V v0), (1, rf V v1), (2, .int v2), (3, .int v3), (5, .int v5)]) dX2_winning_51 (by decide) rfl ?_
          obtain ⟨x19, e20, h⟩ := lb_i h
          refine g_iinc (pc := 53) X 5 rfl dX2_winning_53 (v := x19) e20.symm (by decide) (lv' := [(5, .int x19), (4, .int x17), (0, rf V v0), (1, rf V v1), (2, .int v2), (3, .int v3)]) rfl ?_
          refine g_goto (pc := 56) X (tgt := 12) dX2_winning_56 rfl ?_
          refine g_sub (lv' := [(0, rf V v0), (1, rf V v1), (2, .int v2), (3, .int v3), (4, .int x17), (5, .int x19)]) [2, 3, 4, 5, 1, 0] rfl ?_
          exact ih _ _ _ _ _ _ _ h

def f_X2_winning (v0 : Nat) (v1 : Nat) (v2 : Int32) (w : Wd) : Option (Int32 × Wd) := (if wK w v1 = 0 then
 (bd2 (f_X0_ordinary v1 v2 w) fun r2 w3 =>
 L_X2_winning_12 FU v0 v1 v2 r2 0 0 w3)
 else none)
theorem c_X2_winning {l : Launch} {V : Vt} {v0 : Nat} {v1 : Nat} {v2 : Int32} {w w' : Wd} {r : Int32} (h : f_X2_winning v0 v1 v2 w = some (r, w')) : MetW l V yX2_winning cX2_winning 6 (some .int) { frames := 2, cells := 0, slots := 0, locals := 44 } w [rf V v0, rf V v1, .int v2] (some (.int r)) w' 0 0 := by
  refine g_start (by decide) (Nat.le_of_ble_eq_true rfl) ?_
  intro t _ hrm X hret hnm
  have Y : Hd_ t V cX2_winning 6 RX2 { frames := 2, cells := 0, slots := 0, locals := 44 } (some .int) "winning" := ⟨X, hrm, hret, hnm⟩
  refine g_as (lv' := [(0, rf V v0), (1, rf V v1), (2, .int v2)]) (st' := []) rfl rfl ?_
  unfold f_X2_winning at h
  refine g_aload_n (pc := 0) X 1 rfl dX2_winning_0 ?_
  refine g_iload_n (pc := 1) X 2 rfl dX2_winning_1 ?_
  obtain ⟨k1, h⟩ := gd_i h
  obtain ⟨r2, w3, h4, h⟩ := bd2_i h
  refine g_callV (pc := 2) X FcX0 k1 mk_X0_ordinary q_452 q_453 q_595 (c_X0_ordinary h4) rfl rfl (by rw [Y.2.1]; decide)  rfl (rest := []) rfl (Nat.le_of_ble_eq_true rfl) (by rw [Y.2.1]; exact ⟨Nat.le_of_ble_eq_true rfl, Nat.le_of_ble_eq_true rfl⟩) dX2_winning_2 (st' := [.int r2]) rfl ?_
  refine g_istore_n (pc := 5) X (lv' := [(3, .int r2), (0, rf V v0), (1, rf V v1), (2, .int v2)]) dX2_winning_5 (by decide) rfl ?_
  refine g_iconst (pc := 6) X (v := 0) dX2_winning_6 rfl ?_
  refine g_istore (pc := 7) X (lv' := [(4, .int 0), (3, .int r2), (0, rf V v0), (1, rf V v1), (2, .int v2)]) dX2_winning_7 (by decide) rfl ?_
  refine g_iconst (pc := 9) X (v := 0) dX2_winning_9 rfl ?_
  refine g_istore (pc := 10) X (lv' := [(5, .int 0), (4, .int 0), (3, .int r2), (0, rf V v0), (1, rf V v1), (2, .int v2)]) dX2_winning_10 (by decide) rfl ?_
  refine g_sub (lv' := [(0, rf V v0), (1, rf V v1), (2, .int v2), (3, .int r2), (4, .int 0), (5, .int 0)]) [3, 4, 5, 2, 1, 0] rfl ?_
  exact bL_X2_winning_12 Y  h

def L_X2_noteGain_2  (n : Nat) (v0 : Nat) (v1 : Int32) (v2 : Int32) (v3 : Int32) (w : Wd) : Option (Unit × Wd) := match n with
  | 0 => none
  | n + 1 => (if 12 ≤ v3 then
 some ((), w)
 else
 (bd2 (f_X8_has v1 v3 w) fun r1 w2 =>
 (if r1 = 0 then
 (lb_ (v3 + 1) fun x4 =>
 L_X2_noteGain_2 n v0 v1 v2 x4 w2)
 else
 (if wK w2 v0 = 2 then
 (bd1 (wR w2 v0 1) fun a7 =>
 (if aK 11 w2 a7 v3 = true then
 (if v2 ≤ (wI w2 a7 (nx v3)) then
 (lb_ (v3 + 1) fun x10 =>
 L_X2_noteGain_2 n v0 v1 v2 x10 w2)
 else
 (bd1 (wR w2 v0 1) fun a12 =>
 (if aK 11 w2 a12 v3 = true then
 (lb_ (sI w2 a12 (nx v3) v2) fun w15 =>
 (lb_ (v3 + 1) fun x17 =>
 L_X2_noteGain_2 n v0 v1 v2 x17 w15))
 else none)))
 else none))
 else none))))
theorem bL_X2_noteGain_2 {t : Ct} {V : Vt} {r : Unit} {w' : Wd} (Y : Hd_ t V cX2_noteGain 4 RX2 { frames := 1, cells := 0, slots := 0, locals := 21 } (none) "noteGain") : ∀ {n : Nat} {v0 : Nat} {v1 : Int32} {v2 : Int32} {v3 : Int32} {w : Wd}, L_X2_noteGain_2  n v0 v1 v2 v3 w = some (r, w') → Gd t V 4 0 0 (Qe t V none w' 0 0) 2 [(0, rf V v0), (1, .int v1), (2, .int v2), (3, .int v3)] [] w := by
  have X := Y.1
  intro n
  induction n with
  | zero => intro v0 v1 v2 v3 w h; cases h
  | succ n ih0 =>
    have ih : ∀ (v0 : Nat) (v1 : Int32) (v2 : Int32) (v3 : Int32) (w : Wd), L_X2_noteGain_2  n v0 v1 v2 v3 w = some (r, w') → Gd t V 4 0 0 (Qe t V none w' 0 0) 2 [(0, rf V v0), (1, .int v1), (2, .int v2), (3, .int v3)] [] w := fun v0 v1 v2 v3 w h => ih0 h
    clear ih0
    intro v0 v1 v2 v3 w h
    unfold L_X2_noteGain_2 at h
    refine g_iload_n (pc := 2) X 3 rfl dX2_noteGain_2 ?_
    refine g_bipush (pc := 3) X (v := 12) dX2_noteGain_3 rfl ?_
    refine g_icmp_ge (pc := 5) X (tgt := 39) dX2_noteGain_5 rfl (fun c => ?_) (fun c => ?_)
    · have h := br_y c h
      obtain ⟨e1, e2⟩ := rt_i h
      exact g_vret (pc := 39) X Y.2.2.1 (Nat.le_of_ble_eq_true rfl) (Nat.le_of_ble_eq_true rfl) e2 dX2_noteGain_39
    · have h := br_n c h
      refine g_iload_n (pc := 8) X 1 rfl dX2_noteGain_8 ?_
      refine g_iload_n (pc := 9) X 3 rfl dX2_noteGain_9 ?_
      obtain ⟨r1, w2, h3, h⟩ := bd2_i h
      refine g_callSN (pc := 10) X mk_X8_has q_480 (host := RX8) (by decide +kernel) (c_X8_has h3) rfl rfl (by rw [Y.2.1]; decide)  rfl (rest := []) rfl (Nat.le_of_ble_eq_true rfl) (by rw [Y.2.1]; exact ⟨Nat.le_of_ble_eq_true rfl, Nat.le_of_ble_eq_true rfl⟩) dX2_noteGain_10 (st' := [.int r1]) rfl ?_
      refine g_if_eq (pc := 13) X (tgt := 33) dX2_noteGain_13 rfl (fun c => ?_) (fun c => ?_)
      · have h := br_y c h
        obtain ⟨x4, e5, h⟩ := lb_i h
        refine g_iinc (pc := 33) X 3 rfl dX2_noteGain_33 (v := x4) e5.symm (by decide) (lv' := [(3, .int x4), (0, rf V v0), (1, .int v1), (2, .int v2)]) rfl ?_
        refine g_goto (pc := 36) X (tgt := 2) dX2_noteGain_36 rfl ?_
        refine g_sub (lv' := [(0, rf V v0), (1, .int v1), (2, .int v2), (3, .int x4)]) [1, 2, 3, 0] rfl ?_
        exact ih _ _ _ _ _ h
      · have h := br_n c h
        refine g_iload_n (pc := 16) X 2 rfl dX2_noteGain_16 ?_
        refine g_aload_n (pc := 17) X 0 rfl dX2_noteGain_17 ?_
        obtain ⟨k6, h⟩ := gd_i h
        obtain ⟨a7, e8, h⟩ := bd1_i h
        refine g_getR (pc := 18) X FcX2 k6 1 e8 (by decide) rfl q_211 dX2_noteGain_18 ?_
        refine g_iload_n (pc := 21) X 3 rfl dX2_noteGain_21 ?_
        obtain ⟨k9, h⟩ := gd_i h
        refine g_iald (pc := 22) X k9 dX2_noteGain_22 ?_
        refine g_icmp_le (pc := 23) X (tgt := 33) dX2_noteGain_23 rfl (fun c => ?_) (fun c => ?_)
        · have h := br_y c h
          obtain ⟨x10, e11, h⟩ := lb_i h
          refine g_iinc (pc := 33) X 3 rfl dX2_noteGain_33 (v := x10) e11.symm (by decide) (lv' := [(3, .int x10), (0, rf V v0), (1, .int v1), (2, .int v2)]) rfl ?_
          refine g_goto (pc := 36) X (tgt := 2) dX2_noteGain_36 rfl ?_
          refine g_sub (lv' := [(0, rf V v0), (1, .int v1), (2, .int v2), (3, .int x10)]) [1, 2, 3, 0] rfl ?_
          exact ih _ _ _ _ _ h
        · have h := br_n c h
          refine g_aload_n (pc := 26) X 0 rfl dX2_noteGain_26 ?_
          obtain ⟨a12, e13, h⟩ := bd1_i h
          refine g_getR (pc := 27) X FcX2 k6 1 e13 (by decide) rfl q_211 dX2_noteGain_27 ?_
          refine g_iload_n (pc := 30) X 3 rfl dX2_noteGain_30 ?_
          refine g_iload_n (pc := 31) X 2 rfl dX2_noteGain_31 ?_
          obtain ⟨k14, h⟩ := gd_i h
          refine g_iast (pc := 32) X k14 dX2_noteGain_32 ?_
          obtain ⟨w15, e16, h⟩ := lb_i h
          refine g_w e16 ?_
          obtain ⟨x17, e18, h⟩ := lb_i h
          refine g_iinc (pc := 33) X 3 rfl dX2_noteGain_33 (v := x17) e18.symm (by decide) (lv' := [(3, .int x17), (0, rf V v0), (1, .int v1), (2, .int v2)]) rfl ?_
          refine g_goto (pc := 36) X (tgt := 2) dX2_noteGain_36 rfl ?_
          refine g_sub (lv' := [(0, rf V v0), (1, .int v1), (2, .int v2), (3, .int x17)]) [1, 2, 3, 0] rfl ?_
          exact ih _ _ _ _ _ h

def f_X2_noteGain (v0 : Nat) (v1 : Int32) (v2 : Int32) (w : Wd) : Option (Unit × Wd) := L_X2_noteGain_2 FU v0 v1 v2 0 w
theorem c_X2_noteGain {l : Launch} {V : Vt} {v0 : Nat} {v1 : Int32} {v2 : Int32} {w w' : Wd} {r : Unit} (h : f_X2_noteGain v0 v1 v2 w = some (r, w')) : MetW l V yX2_noteGain cX2_noteGain 4 (none) { frames := 1, cells := 0, slots := 0, locals := 21 } w [rf V v0, .int v1, .int v2] none w' 0 0 := by
  refine g_start (by decide) (Nat.le_of_ble_eq_true rfl) ?_
  intro t _ hrm X hret hnm
  have Y : Hd_ t V cX2_noteGain 4 RX2 { frames := 1, cells := 0, slots := 0, locals := 21 } (none) "noteGain" := ⟨X, hrm, hret, hnm⟩
  refine g_as (lv' := [(0, rf V v0), (1, .int v1), (2, .int v2)]) (st' := []) rfl rfl ?_
  unfold f_X2_noteGain at h
  refine g_iconst (pc := 0) X (v := 0) dX2_noteGain_0 rfl ?_
  refine g_istore_n (pc := 1) X (lv' := [(3, .int 0), (0, rf V v0), (1, .int v1), (2, .int v2)]) dX2_noteGain_1 (by decide) rfl ?_
  refine g_sub (lv' := [(0, rf V v0), (1, .int v1), (2, .int v2), (3, .int 0)]) [1, 2, 3, 0] rfl ?_
  exact bL_X2_noteGain_2 Y  h

def L_X2_spreadGain_3  (n : Nat) (v0 : Nat) (v1 : Nat) (v2 : Int32) (v3 : Int32) (v4 : Int32) (w : Wd) : Option (Unit × Wd) := match n with
  | 0 => none
  | n + 1 => (if wK w v1 = 1 then
 (bd1 (wR w v1 0) fun a2 =>
 (if wK w a2 = 0 then
 (if (wI w a2 0) ≤ v4 then
 some ((), w)
 else
 (bd2 (f_X8_has v3 v4 w) fun r5 w6 =>
 (if r5 = 0 then
 (lb_ (v4 + 1) fun x8 =>
 L_X2_spreadGain_3 n v0 v1 v2 v3 x8 w6)
 else
 (if wK w6 v0 = 2 then
 (bd1 (wR w6 v0 0) fun a11 =>
 (bd1 (wR w6 v0 0) fun a13 =>
 (if aK 11 w6 a13 v2 = true then
 (if wK w6 v1 = 1 then
 (bd1 (wR w6 v1 4) fun a17 =>
 (if aK 11 w6 a17 0 = true then
 (bd1 (wR w6 v1 3) fun a20 =>
 (if aK 11 w6 a20 v4 = true then
 (if aK 11 w6 a11 (v2 ||| (1 <<< (v4 &&& 31))) = true then
 (lb_ (sI w6 a11 (nx (v2 ||| (1 <<< (v4 &&& 31)))) (((wI w6 a13 (nx v2)) + (wI w6 a17 (nx 0))) + (wI w6 a20 (nx v4)))) fun w24 =>
 (lb_ (v4 + 1) fun x26 =>
 L_X2_spreadGain_3 n v0 v1 v2 v3 x26 w24))
 else none)
 else none))
 else none))
 else none)
 else none)))
 else none))))
 else none))
 else none)
theorem bL_X2_spreadGain_3 {t : Ct} {V : Vt} {r : Unit} {w' : Wd} (Y : Hd_ t V cX2_spreadGain 5 RX2 { frames := 1, cells := 0, slots := 0, locals := 21 } (none) "spreadGain") : ∀ {n : Nat} {v0 : Nat} {v1 : Nat} {v2 : Int32} {v3 : Int32} {v4 : Int32} {w : Wd}, L_X2_spreadGain_3  n v0 v1 v2 v3 v4 w = some (r, w') → Gd t V 5 0 0 (Qe t V none w' 0 0) 3 [(0, rf V v0), (1, rf V v1), (2, .int v2), (3, .int v3), (4, .int v4)] [] w := by
  have X := Y.1
  intro n
  induction n with
  | zero => intro v0 v1 v2 v3 v4 w h; cases h
  | succ n ih0 =>
    have ih : ∀ (v0 : Nat) (v1 : Nat) (v2 : Int32) (v3 : Int32) (v4 : Int32) (w : Wd), L_X2_spreadGain_3  n v0 v1 v2 v3 v4 w = some (r, w') → Gd t V 5 0 0 (Qe t V none w' 0 0) 3 [(0, rf V v0), (1, rf V v1), (2, .int v2), (3, .int v3), (4, .int v4)] [] w := fun v0 v1 v2 v3 v4 w h => ih0 h
    clear ih0
    intro v0 v1 v2 v3 v4 w h
    unfold L_X2_spreadGain_3 at h
    refine g_iload (pc := 3) X 4 rfl dX2_spreadGain_3 ?_
    refine g_aload_n (pc := 5) X 1 rfl dX2_spreadGain_5 ?_
    obtain ⟨k1, h⟩ := gd_i h
    obtain ⟨a2, e3, h⟩ := bd1_i h
    refine g_getR (pc := 6) X FcX1 k1 0 e3 (by decide) rfl q_157 dX2_spreadGain_6 ?_
    obtain ⟨k4, h⟩ := gd_i h
    refine g_getI (pc := 9) X FcX0 k4 0 (by decide) rfl q_103 dX2_spreadGain_9 ?_
    refine g_icmp_ge (pc := 12) X (tgt := 62) dX2_spreadGain_12 rfl (fun c => ?_) (fun c => ?_)
    · have h := br_y c h
      obtain ⟨e1, e2⟩ := rt_i h
      exact g_vret (pc := 62) X Y.2.2.1 (Nat.le_of_ble_eq_true rfl) (Nat.le_of_ble_eq_true rfl) e2 dX2_spreadGain_62
    · have h := br_n c h
      refine g_iload_n (pc := 15) X 3 rfl dX2_spreadGain_15 ?_
      refine g_iload (pc := 16) X 4 rfl dX2_spreadGain_16 ?_
      obtain ⟨r5, w6, h7, h⟩ := bd2_i h
      refine g_callSN (pc := 18) X mk_X8_has q_480 (host := RX8) (by decide +kernel) (c_X8_has h7) rfl rfl (by rw [Y.2.1]; decide)  rfl (rest := []) rfl (Nat.le_of_ble_eq_true rfl) (by rw [Y.2.1]; exact ⟨Nat.le_of_ble_eq_true rfl, Nat.le_of_ble_eq_true rfl⟩) dX2_spreadGain_18 (st' := [.int r5]) rfl ?_
      refine g_if_eq (pc := 21) X (tgt := 56) dX2_spreadGain_21 rfl (fun c => ?_) (fun c => ?_)
      · have h := br_y c h
        obtain ⟨x8, e9, h⟩ := lb_i h
        refine g_iinc (pc := 56) X 4 rfl dX2_spreadGain_56 (v := x8) e9.symm (by decide) (lv' := [(4, .int x8), (0, rf V v0), (1, rf V v1), (2, .int v2), (3, .int v3)]) rfl ?_
        refine g_goto (pc := 59) X (tgt := 3) dX2_spreadGain_59 rfl ?_
        refine g_sub (lv' := [(0, rf V v0), (1, rf V v1), (2, .int v2), (3, .int v3), (4, .int x8)]) [1, 2, 3, 4, 0] rfl ?_
        exact ih _ _ _ _ _ _ h
      · have h := br_n c h
        refine g_aload_n (pc := 24) X 0 rfl dX2_spreadGain_24 ?_
        obtain ⟨k10, h⟩ := gd_i h
        obtain ⟨a11, e12, h⟩ := bd1_i h
        refine g_getR (pc := 25) X FcX2 k10 0 e12 (by decide) rfl q_210 dX2_spreadGain_25 ?_
        refine g_iload_n (pc := 28) X 2 rfl dX2_spreadGain_28 ?_
        refine g_iconst (pc := 29) X (v := 1) dX2_spreadGain_29 rfl ?_
        refine g_iload (pc := 30) X 4 rfl dX2_spreadGain_30 ?_
        refine g_ishl (pc := 32) X dX2_spreadGain_32 ?_
        refine g_ior (pc := 33) X dX2_spreadGain_33 ?_
        refine g_aload_n (pc := 34) X 0 rfl dX2_spreadGain_34 ?_
        obtain ⟨a13, e14, h⟩ := bd1_i h
        refine g_getR (pc := 35) X FcX2 k10 0 e14 (by decide) rfl q_210 dX2_spreadGain_35 ?_
        refine g_iload_n (pc := 38) X 2 rfl dX2_spreadGain_38 ?_
        obtain ⟨k15, h⟩ := gd_i h
        refine g_iald (pc := 39) X k15 dX2_spreadGain_39 ?_
        refine g_aload_n (pc := 40) X 1 rfl dX2_spreadGain_40 ?_
        obtain ⟨k16, h⟩ := gd_i h
        obtain ⟨a17, e18, h⟩ := bd1_i h
        refine g_getR (pc := 41) X FcX1 k16 4 e18 (by decide) rfl q_167 dX2_spreadGain_41 ?_
        refine g_iconst (pc := 44) X (v := 0) dX2_spreadGain_44 rfl ?_
        obtain ⟨k19, h⟩ := gd_i h
        refine g_iald (pc := 45) X k19 dX2_spreadGain_45 ?_
        refine g_iadd (pc := 46) X dX2_spreadGain_46 ?_
        refine g_aload_n (pc := 47) X 1 rfl dX2_spreadGain_47 ?_
        obtain ⟨a20, e21, h⟩ := bd1_i h
        refine g_getR (pc := 48) X FcX1 k16 3 e21 (by decide) rfl q_164 dX2_spreadGain_48 ?_
        refine g_iload (pc := 51) X 4 rfl dX2_spreadGain_51 ?_
        obtain ⟨k22, h⟩ := gd_i h
        refine g_iald (pc := 53) X k22 dX2_spreadGain_53 ?_
        refine g_iadd (pc := 54) X dX2_spreadGain_54 ?_
        obtain ⟨k23, h⟩ := gd_i h
        refine g_iast (pc := 55) X k23 dX2_spreadGain_55 ?_
        obtain ⟨w24, e25, h⟩ := lb_i h
        refine g_w e25 ?_
        obtain ⟨x26, e27, h⟩ := lb_i h
        refine g_iinc (pc := 56) X 4 rfl dX2_spreadGain_56 (v := x26) e27.symm (by decide) (lv' := [(4, .int x26), (0, rf V v0), (1, rf V v1), (2, .int v2), (3, .int v3)]) rfl ?_
        refine g_goto (pc := 59) X (tgt := 3) dX2_spreadGain_59 rfl ?_
        refine g_sub (lv' := [(0, rf V v0), (1, rf V v1), (2, .int v2), (3, .int v3), (4, .int x26)]) [1, 2, 3, 4, 0] rfl ?_
        exact ih _ _ _ _ _ _ h

def f_X2_spreadGain (v0 : Nat) (v1 : Nat) (v2 : Int32) (v3 : Int32) (w : Wd) : Option (Unit × Wd) := L_X2_spreadGain_3 FU v0 v1 v2 v3 0 w
theorem c_X2_spreadGain {l : Launch} {V : Vt} {v0 : Nat} {v1 : Nat} {v2 : Int32} {v3 : Int32} {w w' : Wd} {r : Unit} (h : f_X2_spreadGain v0 v1 v2 v3 w = some (r, w')) : MetW l V yX2_spreadGain cX2_spreadGain 5 (none) { frames := 1, cells := 0, slots := 0, locals := 21 } w [rf V v0, rf V v1, .int v2, .int v3] none w' 0 0 := by
  refine g_start (by decide) (Nat.le_of_ble_eq_true rfl) ?_
  intro t _ hrm X hret hnm
  have Y : Hd_ t V cX2_spreadGain 5 RX2 { frames := 1, cells := 0, slots := 0, locals := 21 } (none) "spreadGain" := ⟨X, hrm, hret, hnm⟩
  refine g_as (lv' := [(0, rf V v0), (1, rf V v1), (2, .int v2), (3, .int v3)]) (st' := []) rfl rfl ?_
  unfold f_X2_spreadGain at h
  refine g_iconst (pc := 0) X (v := 0) dX2_spreadGain_0 rfl ?_
  refine g_istore (pc := 1) X (lv' := [(4, .int 0), (0, rf V v0), (1, rf V v1), (2, .int v2), (3, .int v3)]) dX2_spreadGain_1 (by decide) rfl ?_
  refine g_sub (lv' := [(0, rf V v0), (1, rf V v1), (2, .int v2), (3, .int v3), (4, .int 0)]) [1, 2, 3, 4, 0] rfl ?_
  exact bL_X2_spreadGain_3 Y  h

def L_X2_gatherGains_65  (n : Nat) (v0 : Nat) (v1 : Nat) (v2 : Int32) (v3 : Nat) (v4 : Int32) (w : Wd) : Option (Unit × Wd) := match n with
  | 0 => none
  | n + 1 => (if wK w v3 = 0 then
 (if (wI w v3 3) < v4 then
 some ((), w)
 else
 (if wK w v0 = 2 then
 (bd1 (wR w v0 0) fun a13 =>
 (if aK 11 w a13 v4 = true then
 (if (wI w a13 (nx v4)) = (-1) then
 (lb_ (v4 + 1) fun x16 =>
 L_X2_gatherGains_65 n v0 v1 v2 v3 x16 w)
 else
 (bd2 (f_X0_ordinary v3 v4 w) fun r18 w19 =>
 (if r18 = 0 then
 (if wK w19 v0 = 2 then
 (bd1 (wR w19 v0 0) fun a28 =>
 (if aK 11 w19 a28 v4 = true then
 (bd2 (f_X2_noteGain v0 (v4 &&& (v2 ^^^ (-1))) (wI w19 a28 (nx v4)) w19) fun r31 w32 =>
 (lb_ (v4 + 1) fun x34 =>
 L_X2_gatherGains_65 n v0 v1 v2 v3 x34 w32))
 else none))
 else none)
 else
 (if wK w19 v0 = 2 then
 (bd2 (f_X2_spreadGain v0 v1 v4 r18 w19) fun r22 w23 =>
 (lb_ (v4 + 1) fun x25 =>
 L_X2_gatherGains_65 n v0 v1 v2 v3 x25 w23))
 else none))))
 else none))
 else none))
 else none)
theorem bL_X2_gatherGains_65 {t : Ct} {V : Vt} {r : Unit} {w' : Wd} (Y : Hd_ t V cX2_gatherGains 6 RX2 { frames := 2, cells := 0, slots := 0, locals := 45 } (none) "gatherGains") : ∀ {n : Nat} {v0 : Nat} {v1 : Nat} {v2 : Int32} {v3 : Nat} {v4 : Int32} {w : Wd}, L_X2_gatherGains_65  n v0 v1 v2 v3 v4 w = some (r, w') → Gd t V 6 0 0 (Qe t V none w' 0 0) 65 [(0, rf V v0), (1, rf V v1), (2, .int v2), (3, rf V v3), (4, .int v4)] [] w := by
  have X := Y.1
  intro n
  induction n with
  | zero => intro v0 v1 v2 v3 v4 w h; cases h
  | succ n ih0 =>
    have ih : ∀ (v0 : Nat) (v1 : Nat) (v2 : Int32) (v3 : Nat) (v4 : Int32) (w : Wd), L_X2_gatherGains_65  n v0 v1 v2 v3 v4 w = some (r, w') → Gd t V 6 0 0 (Qe t V none w' 0 0) 65 [(0, rf V v0), (1, rf V v1), (2, .int v2), (3, rf V v3), (4, .int v4)] [] w := fun v0 v1 v2 v3 v4 w h => ih0 h
    clear ih0
    intro v0 v1 v2 v3 v4 w h
    unfold L_X2_gatherGains_65 at h
    refine g_iload (pc := 65) X 4 rfl dX2_gatherGains_65 ?_
    refine g_aload_n (pc := 67) X 3 rfl dX2_gatherGains_67 ?_
    obtain ⟨k11, h⟩ := gd_i h
    refine g_getI (pc := 68) X FcX0 k11 3 (by decide) rfl q_112 dX2_gatherGains_68 ?_
    refine g_icmp_gt (pc := 71) X (tgt := 133) dX2_gatherGains_71 rfl (fun c => ?_) (fun c => ?_)
    · have h := br_y c h
      obtain ⟨e1, e2⟩ := rt_i h
      exact g_vret (pc := 133) X Y.2.2.1 (Nat.le_of_ble_eq_true rfl) (Nat.le_of_ble_eq_true rfl) e2 dX2_gatherGains_133
    · have h := br_n c h
      refine g_aload_n (pc := 74) X 0 rfl dX2_gatherGains_74 ?_
      obtain ⟨k12, h⟩ := gd_i h
      obtain ⟨a13, e14, h⟩ := bd1_i h
      refine g_getR (pc := 75) X FcX2 k12 0 e14 (by decide) rfl q_210 dX2_gatherGains_75 ?_
      refine g_iload (pc := 78) X 4 rfl dX2_gatherGains_78 ?_
      obtain ⟨k15, h⟩ := gd_i h
      refine g_iald (pc := 80) X k15 dX2_gatherGains_80 ?_
      refine g_iconst (pc := 81) X (v := (-1)) dX2_gatherGains_81 rfl ?_
      refine g_icmp_eq (pc := 82) X (tgt := 127) dX2_gatherGains_82 rfl (fun c => ?_) (fun c => ?_)
      · have h := br_y c h
        obtain ⟨x16, e17, h⟩ := lb_i h
        refine g_iinc (pc := 127) X 4 rfl dX2_gatherGains_127 (v := x16) e17.symm (by decide) (lv' := [(4, .int x16), (0, rf V v0), (1, rf V v1), (2, .int v2), (3, rf V v3)]) rfl ?_
        refine g_goto (pc := 130) X (tgt := 65) dX2_gatherGains_130 rfl ?_
        refine g_sub (lv' := [(0, rf V v0), (1, rf V v1), (2, .int v2), (3, rf V v3), (4, .int x16)]) [1, 2, 3, 4, 0] rfl ?_
        exact ih _ _ _ _ _ _ h
      · have h := br_n c h
        refine g_aload_n (pc := 85) X 3 rfl dX2_gatherGains_85 ?_
        refine g_iload (pc := 86) X 4 rfl dX2_gatherGains_86 ?_
        obtain ⟨r18, w19, h20, h⟩ := bd2_i h
        refine g_callV (pc := 88) X FcX0 k11 mk_X0_ordinary q_452 q_453 q_595 (c_X0_ordinary h20) rfl rfl (by rw [Y.2.1]; decide)  rfl (rest := []) rfl (Nat.le_of_ble_eq_true rfl) (by rw [Y.2.1]; exact ⟨Nat.le_of_ble_eq_true rfl, Nat.le_of_ble_eq_true rfl⟩) dX2_gatherGains_88 (st' := [.int r18]) rfl ?_
        refine g_istore (pc := 91) X (lv' := [(5, .int r18), (0, rf V v0), (1, rf V v1), (2, .int v2), (3, rf V v3), (4, .int v4)]) dX2_gatherGains_91 (by decide) rfl ?_
        refine g_iload (pc := 93) X 0 rfl dX2_gatherGains_93 ?_
        refine g_if_ne (pc := 95) X (tgt := 118) dX2_gatherGains_95 rfl (fun c => ?_) (fun c => ?_)
        · have h := br_n c h
          refine g_aload_n (pc := 118) X 1 rfl dX2_gatherGains_118 ?_
          refine g_aload_n (pc := 119) X 2 rfl dX2_gatherGains_119 ?_
          refine g_iload (pc := 120) X 5 rfl dX2_gatherGains_120 ?_
          refine g_iload (pc := 122) X 0 rfl dX2_gatherGains_122 ?_
          obtain ⟨k21, h⟩ := gd_i h
          obtain ⟨r22, w23, h24, h⟩ := bd2_i h
          refine g_callV (pc := 124) X FcX2 k21 mk_X2_spreadGain q_629 q_5 q_627 (c_X2_spreadGain h24) rfl rfl (by rw [Y.2.1]; decide)  rfl (rest := []) rfl (Nat.le_of_ble_eq_true rfl) (by rw [Y.2.1]; exact ⟨Nat.le_of_ble_eq_true rfl, Nat.le_of_ble_eq_true rfl⟩) dX2_gatherGains_124 (st' := []) rfl ?_
          obtain ⟨x25, e26, h⟩ := lb_i h
          refine g_iinc (pc := 127) X 5 rfl dX2_gatherGains_127 (v := x25) e26.symm (by decide) (lv' := [(4, .int x25), (5, .int r18), (0, rf V v0), (1, rf V v1), (2, .int v2), (3, rf V v3)]) rfl ?_
          refine g_goto (pc := 130) X (tgt := 65) dX2_gatherGains_130 rfl ?_
          refine g_sub (lv' := [(0, rf V v0), (1, rf V v1), (2, .int v2), (3, rf V v3), (4, .int x25)]) [2, 3, 4, 5, 0] rfl ?_
          exact ih _ _ _ _ _ _ h
        · have h := br_y c h
          refine g_aload_n (pc := 98) X 1 rfl dX2_gatherGains_98 ?_
          refine g_iload (pc := 99) X 5 rfl dX2_gatherGains_99 ?_
          refine g_iload_n (pc := 101) X 3 rfl dX2_gatherGains_101 ?_
          refine g_iconst (pc := 102) X (v := (-1)) dX2_gatherGains_102 rfl ?_
          refine g_ixor (pc := 103) X dX2_gatherGains_103 ?_
          refine g_iand (pc := 104) X dX2_gatherGains_104 ?_
          refine g_aload_n (pc := 105) X 1 rfl dX2_gatherGains_105 ?_
          obtain ⟨k27, h⟩ := gd_i h
          obtain ⟨a28, e29, h⟩ := bd1_i h
          refine g_getR (pc := 106) X FcX2 k27 0 e29 (by decide) rfl q_210 dX2_gatherGains_106 ?_
          refine g_iload (pc := 109) X 5 rfl dX2_gatherGains_109 ?_
          obtain ⟨k30, h⟩ := gd_i h
          refine g_iald (pc := 111) X k30 dX2_gatherGains_111 ?_
          obtain ⟨r31, w32, h33, h⟩ := bd2_i h
          refine g_callV (pc := 112) X FcX2 k27 mk_X2_noteGain q_625 q_4 q_623 (c_X2_noteGain h33) rfl rfl (by rw [Y.2.1]; decide)  rfl (rest := []) rfl (Nat.le_of_ble_eq_true rfl) (by rw [Y.2.1]; exact ⟨Nat.le_of_ble_eq_true rfl, Nat.le_of_ble_eq_true rfl⟩) dX2_gatherGains_112 (st' := []) rfl ?_
          refine g_goto (pc := 115) X (tgt := 127) dX2_gatherGains_115 rfl ?_
          obtain ⟨x34, e35, h⟩ := lb_i h
          refine g_iinc (pc := 127) X 5 rfl dX2_gatherGains_127 (v := x34) e35.symm (by decide) (lv' := [(4, .int x34), (5, .int r18), (0, rf V v0), (1, rf V v1), (2, .int v2), (3, rf V v3)]) rfl ?_
          refine g_goto (pc := 130) X (tgt := 65) dX2_gatherGains_130 rfl ?_
          refine g_sub (lv' := [(0, rf V v0), (1, rf V v1), (2, .int v2), (3, rf V v3), (4, .int x34)]) [2, 3, 4, 5, 0] rfl ?_
          exact ih _ _ _ _ _ _ h

def L_X2_gatherGains_32  (n : Nat) (v0 : Nat) (v1 : Nat) (v2 : Int32) (v3 : Nat) (v4 : Int32) (w : Wd) : Option (Unit × Wd) := match n with
  | 0 => none
  | n + 1 => (if wK w v3 = 0 then
 (if (wI w v3 3) < v4 then
 (if wK w v0 = 2 then
 (bd1 (wR w v0 0) fun a6 =>
 (if aK 11 w a6 v2 = true then
 (lb_ (sI w a6 (nx v2) 0) fun w9 =>
 L_X2_gatherGains_65 FU v0 v1 v2 v3 v2 w9)
 else none))
 else none)
 else
 (if wK w v0 = 2 then
 (bd1 (wR w v0 0) fun a37 =>
 (if aK 11 w a37 v4 = true then
 (lb_ (sI w a37 (nx v4) (-1)) fun w40 =>
 (lb_ (v4 + 1) fun x42 =>
 L_X2_gatherGains_32 n v0 v1 v2 v3 x42 w40))
 else none))
 else none))
 else none)
theorem bL_X2_gatherGains_32 {t : Ct} {V : Vt} {r : Unit} {w' : Wd} (Y : Hd_ t V cX2_gatherGains 6 RX2 { frames := 2, cells := 0, slots := 0, locals := 45 } (none) "gatherGains") : ∀ {n : Nat} {v0 : Nat} {v1 : Nat} {v2 : Int32} {v3 : Nat} {v4 : Int32} {w : Wd}, L_X2_gatherGains_32  n v0 v1 v2 v3 v4 w = some (r, w') → Gd t V 6 0 0 (Qe t V none w' 0 0) 32 [(0, rf V v0), (1, rf V v1), (2, .int v2), (3, rf V v3), (4, .int v4)] [] w := by
  have X := Y.1
  intro n
  induction n with
  | zero => intro v0 v1 v2 v3 v4 w h; cases h
  | succ n ih0 =>
    have ih : ∀ (v0 : Nat) (v1 : Nat) (v2 : Int32) (v3 : Nat) (v4 : Int32) (w : Wd), L_X2_gatherGains_32  n v0 v1 v2 v3 v4 w = some (r, w') → Gd t V 6 0 0 (Qe t V none w' 0 0) 32 [(0, rf V v0), (1, rf V v1), (2, .int v2), (3, rf V v3), (4, .int v4)] [] w := fun v0 v1 v2 v3 v4 w h => ih0 h
    clear ih0
    intro v0 v1 v2 v3 v4 w h
    unfold L_X2_gatherGains_32 at h
    refine g_iload (pc := 32) X 4 rfl dX2_gatherGains_32 ?_
    refine g_aload_n (pc := 34) X 3 rfl dX2_gatherGains_34 ?_
    obtain ⟨k4, h⟩ := gd_i h
    refine g_getI (pc := 35) X FcX0 k4 3 (by decide) rfl q_112 dX2_gatherGains_35 ?_
    refine g_icmp_gt (pc := 38) X (tgt := 55) dX2_gatherGains_38 rfl (fun c => ?_) (fun c => ?_)
    · have h := br_y c h
      refine g_aload_n (pc := 55) X 0 rfl dX2_gatherGains_55 ?_
      obtain ⟨k5, h⟩ := gd_i h
      obtain ⟨a6, e7, h⟩ := bd1_i h
      refine g_getR (pc := 56) X FcX2 k5 0 e7 (by decide) rfl q_210 dX2_gatherGains_56 ?_
      refine g_iload_n (pc := 59) X 2 rfl dX2_gatherGains_59 ?_
      refine g_iconst (pc := 60) X (v := 0) dX2_gatherGains_60 rfl ?_
      obtain ⟨k8, h⟩ := gd_i h
      refine g_iast (pc := 61) X k8 dX2_gatherGains_61 ?_
      obtain ⟨w9, e10, h⟩ := lb_i h
      refine g_w e10 ?_
      refine g_iload_n (pc := 62) X 2 rfl dX2_gatherGains_62 ?_
      refine g_istore (pc := 63) X (lv' := [(4, .int v2), (0, rf V v0), (1, rf V v1), (2, .int v2), (3, rf V v3)]) dX2_gatherGains_63 (by decide) rfl ?_
      refine g_sub (lv' := [(0, rf V v0), (1, rf V v1), (2, .int v2), (3, rf V v3), (4, .int v2)]) [1, 2, 3, 4, 0] rfl ?_
      exact bL_X2_gatherGains_65 Y  h
    · have h := br_n c h
      refine g_aload_n (pc := 41) X 0 rfl dX2_gatherGains_41 ?_
      obtain ⟨k36, h⟩ := gd_i h
      obtain ⟨a37, e38, h⟩ := bd1_i h
      refine g_getR (pc := 42) X FcX2 k36 0 e38 (by decide) rfl q_210 dX2_gatherGains_42 ?_
      refine g_iload (pc := 45) X 4 rfl dX2_gatherGains_45 ?_
      refine g_iconst (pc := 47) X (v := (-1)) dX2_gatherGains_47 rfl ?_
      obtain ⟨k39, h⟩ := gd_i h
      refine g_iast (pc := 48) X k39 dX2_gatherGains_48 ?_
      obtain ⟨w40, e41, h⟩ := lb_i h
      refine g_w e41 ?_
      obtain ⟨x42, e43, h⟩ := lb_i h
      refine g_iinc (pc := 49) X 4 rfl dX2_gatherGains_49 (v := x42) e43.symm (by decide) (lv' := [(4, .int x42), (0, rf V v0), (1, rf V v1), (2, .int v2), (3, rf V v3)]) rfl ?_
      refine g_goto (pc := 52) X (tgt := 32) dX2_gatherGains_52 rfl ?_
      refine g_sub (lv' := [(0, rf V v0), (1, rf V v1), (2, .int v2), (3, rf V v3), (4, .int x42)]) [1, 2, 3, 4, 0] rfl ?_
      exact ih _ _ _ _ _ _ h

def L_X2_gatherGains_8  (n : Nat) (v0 : Nat) (v1 : Nat) (v2 : Int32) (v3 : Nat) (v4 : Int32) (w : Wd) : Option (Unit × Wd) := match n with
  | 0 => none
  | n + 1 => (if 12 ≤ v4 then
 L_X2_gatherGains_32 FU v0 v1 v2 v3 v2 w
 else
 (if wK w v0 = 2 then
 (bd1 (wR w v0 1) fun a45 =>
 (if aK 11 w a45 v4 = true then
 (lb_ (sI w a45 (nx v4) (-1)) fun w48 =>
 (lb_ (v4 + 1) fun x50 =>
 L_X2_gatherGains_8 n v0 v1 v2 v3 x50 w48))
 else none))
 else none))
theorem bL_X2_gatherGains_8 {t : Ct} {V : Vt} {r : Unit} {w' : Wd} (Y : Hd_ t V cX2_gatherGains 6 RX2 { frames := 2, cells := 0, slots := 0, locals := 45 } (none) "gatherGains") : ∀ {n : Nat} {v0 : Nat} {v1 : Nat} {v2 : Int32} {v3 : Nat} {v4 : Int32} {w : Wd}, L_X2_gatherGains_8  n v0 v1 v2 v3 v4 w = some (r, w') → Gd t V 6 0 0 (Qe t V none w' 0 0) 8 [(0, rf V v0), (1, rf V v1), (2, .int v2), (3, rf V v3), (4, .int v4)] [] w := by
  have X := Y.1
  intro n
  induction n with
  | zero => intro v0 v1 v2 v3 v4 w h; cases h
  | succ n ih0 =>
    have ih : ∀ (v0 : Nat) (v1 : Nat) (v2 : Int32) (v3 : Nat) (v4 : Int32) (w : Wd), L_X2_gatherGains_8  n v0 v1 v2 v3 v4 w = some (r, w') → Gd t V 6 0 0 (Qe t V none w' 0 0) 8 [(0, rf V v0), (1, rf V v1), (2, .int v2), (3, rf V v3), (4, .int v4)] [] w := fun v0 v1 v2 v3 v4 w h => ih0 h
    clear ih0
    intro v0 v1 v2 v3 v4 w h
    unfold L_X2_gatherGains_8 at h
    refine g_iload (pc := 8) X 4 rfl dX2_gatherGains_8 ?_
    refine g_bipush (pc := 10) X (v := 12) dX2_gatherGains_10 rfl ?_
    refine g_icmp_ge (pc := 12) X (tgt := 29) dX2_gatherGains_12 rfl (fun c => ?_) (fun c => ?_)
    · have h := br_y c h
      refine g_iload_n (pc := 29) X 2 rfl dX2_gatherGains_29 ?_
      refine g_istore (pc := 30) X (lv' := [(4, .int v2), (0, rf V v0), (1, rf V v1), (2, .int v2), (3, rf V v3)]) dX2_gatherGains_30 (by decide) rfl ?_
      refine g_sub (lv' := [(0, rf V v0), (1, rf V v1), (2, .int v2), (3, rf V v3), (4, .int v2)]) [1, 2, 3, 4, 0] rfl ?_
      exact bL_X2_gatherGains_32 Y  h
    · have h := br_n c h
      refine g_aload_n (pc := 15) X 0 rfl dX2_gatherGains_15 ?_
      obtain ⟨k44, h⟩ := gd_i h
      obtain ⟨a45, e46, h⟩ := bd1_i h
      refine g_getR (pc := 16) X FcX2 k44 1 e46 (by decide) rfl q_211 dX2_gatherGains_16 ?_
      refine g_iload (pc := 19) X 4 rfl dX2_gatherGains_19 ?_
      refine g_iconst (pc := 21) X (v := (-1)) dX2_gatherGains_21 rfl ?_
      obtain ⟨k47, h⟩ := gd_i h
      refine g_iast (pc := 22) X k47 dX2_gatherGains_22 ?_
      obtain ⟨w48, e49, h⟩ := lb_i h
      refine g_w e49 ?_
      obtain ⟨x50, e51, h⟩ := lb_i h
      refine g_iinc (pc := 23) X 4 rfl dX2_gatherGains_23 (v := x50) e51.symm (by decide) (lv' := [(4, .int x50), (0, rf V v0), (1, rf V v1), (2, .int v2), (3, rf V v3)]) rfl ?_
      refine g_goto (pc := 26) X (tgt := 8) dX2_gatherGains_26 rfl ?_
      refine g_sub (lv' := [(0, rf V v0), (1, rf V v1), (2, .int v2), (3, rf V v3), (4, .int x50)]) [1, 2, 3, 4, 0] rfl ?_
      exact ih _ _ _ _ _ _ h

def f_X2_gatherGains (v0 : Nat) (v1 : Nat) (v2 : Int32) (w : Wd) : Option (Unit × Wd) := (if wK w v1 = 1 then
 (bd1 (wR w v1 0) fun a2 =>
 L_X2_gatherGains_8 FU v0 v1 v2 a2 0 w)
 else none)
theorem c_X2_gatherGains {l : Launch} {V : Vt} {v0 : Nat} {v1 : Nat} {v2 : Int32} {w w' : Wd} {r : Unit} (h : f_X2_gatherGains v0 v1 v2 w = some (r, w')) : MetW l V yX2_gatherGains cX2_gatherGains 6 (none) { frames := 2, cells := 0, slots := 0, locals := 45 } w [rf V v0, rf V v1, .int v2] none w' 0 0 := by
  refine g_start (by decide) (Nat.le_of_ble_eq_true rfl) ?_
  intro t _ hrm X hret hnm
  have Y : Hd_ t V cX2_gatherGains 6 RX2 { frames := 2, cells := 0, slots := 0, locals := 45 } (none) "gatherGains" := ⟨X, hrm, hret, hnm⟩
  refine g_as (lv' := [(0, rf V v0), (1, rf V v1), (2, .int v2)]) (st' := []) rfl rfl ?_
  unfold f_X2_gatherGains at h
  refine g_aload_n (pc := 0) X 1 rfl dX2_gatherGains_0 ?_
  obtain ⟨k1, h⟩ := gd_i h
  obtain ⟨a2, e3, h⟩ := bd1_i h
  refine g_getR (pc := 1) X FcX1 k1 0 e3 (by decide) rfl q_157 dX2_gatherGains_1 ?_
  refine g_astore_n (pc := 4) X (lv' := [(3, rf V a2), (0, rf V v0), (1, rf V v1), (2, .int v2)]) dX2_gatherGains_4 (by decide) rfl ?_
  refine g_iconst (pc := 5) X (v := 0) dX2_gatherGains_5 rfl ?_
  refine g_istore (pc := 6) X (lv' := [(4, .int 0), (3, rf V a2), (0, rf V v0), (1, rf V v1), (2, .int v2)]) dX2_gatherGains_6 (by decide) rfl ?_
  refine g_sub (lv' := [(0, rf V v0), (1, rf V v1), (2, .int v2), (3, rf V a2), (4, .int 0)]) [2, 3, 4, 1, 0] rfl ?_
  exact bL_X2_gatherGains_8 Y  h

def j_X2_weigh_101  (s0 : Int32) (s1 : Nat) (w : Wd) : Option (Unit × Wd) := (if wK w s1 = 2 then
 (lb_ (sI w s1 3 s0) fun w25 =>
 some ((), w25))
 else none)
theorem bj_X2_weigh_101 {t : Ct} {V : Vt} {r : Unit} {w' : Wd} (Y : Hd_ t V cX2_weigh 4 RX2 { frames := 3, cells := 0, slots := 0, locals := 70 } (none) "weigh") {s0 : Int32} {s1 : Nat} {w : Wd} (h : j_X2_weigh_101  s0 s1 w = some (r, w')) : Gd t V 4 0 0 (Qe t V none w' 0 0) 101 [] [.int s0, rf V s1] w := by
  have X := Y.1
  unfold j_X2_weigh_101 at h
  obtain ⟨k24, h⟩ := gd_i h
  refine g_putI (pc := 101) X FcX2 k24 3 (by decide) rfl q_214 rfl rfl rfl dX2_weigh_101 ?_
  obtain ⟨w25, e26, h⟩ := lb_i h
  refine g_w e26 ?_
  obtain ⟨e1, e2⟩ := rt_i h
  exact g_vret (pc := 104) X Y.2.2.1 (Nat.le_of_ble_eq_true rfl) (Nat.le_of_ble_eq_true rfl) e2 dX2_weigh_104

def L_X2_weigh_23  (n : Nat) (v0 : Nat) (v1 : Nat) (v2 : Int32) (v3 : Int32) (w : Wd) : Option (Unit × Wd) := match n with
  | 0 => none
  | n + 1 => (if wK w v1 = 1 then
 (bd1 (wR w v1 0) fun a14 =>
 (if wK w a14 = 0 then
 (if (wI w a14 0) ≤ v3 then
 (if wK w v0 = 2 then
 (bd1 (wR w v0 1) fun a18 =>
 (if aK 11 w a18 (wI w v0 2) = true then
 (if (wI w a18 (nx (wI w v0 2))) = (-1) then
 j_X2_weigh_101 0 v0 w
 else
 (bd1 (wR w v0 1) fun a21 =>
 (if aK 11 w a21 (wI w v0 2) = true then
 j_X2_weigh_101 ((wI w a21 (nx (wI w v0 2))) + 50) v0 w
 else none)))
 else none))
 else none)
 else
 (bd2 (f_X8_has v2 v3 w) fun r27 w28 =>
 (if r27 = 0 then
 (if wK w28 v0 = 2 then
 (bd1 (wR w28 v0 1) fun a33 =>
 (if aK 11 w28 a33 v3 = true then
 (bd1 (wR w28 v0 1) fun a36 =>
 (if aK 11 w28 a36 (wI w28 v0 2) = true then
 (if (wI w28 a33 (nx v3)) ≤ (wI w28 a36 (nx (wI w28 v0 2))) then
 (lb_ (v3 + 1) fun x39 =>
 L_X2_weigh_23 n v0 v1 v2 x39 w28)
 else
 (lb_ (sI w28 v0 2 v3) fun w41 =>
 (lb_ (v3 + 1) fun x43 =>
 L_X2_weigh_23 n v0 v1 v2 x43 w41)))
 else none))
 else none))
 else none)
 else
 (lb_ (v3 + 1) fun x30 =>
 L_X2_weigh_23 n v0 v1 v2 x30 w28))))
 else none))
 else none)
theorem bL_X2_weigh_23 {t : Ct} {V : Vt} {r : Unit} {w' : Wd} (Y : Hd_ t V cX2_weigh 4 RX2 { frames := 3, cells := 0, slots := 0, locals := 70 } (none) "weigh") : ∀ {n : Nat} {v0 : Nat} {v1 : Nat} {v2 : Int32} {v3 : Int32} {w : Wd}, L_X2_weigh_23  n v0 v1 v2 v3 w = some (r, w') → Gd t V 4 0 0 (Qe t V none w' 0 0) 23 [(0, rf V v0), (1, rf V v1), (2, .int v2), (3, .int v3)] [] w := by
  have X := Y.1
  intro n
  induction n with
  | zero => intro v0 v1 v2 v3 w h; cases h
  | succ n ih0 =>
    have ih : ∀ (v0 : Nat) (v1 : Nat) (v2 : Int32) (v3 : Int32) (w : Wd), L_X2_weigh_23  n v0 v1 v2 v3 w = some (r, w') → Gd t V 4 0 0 (Qe t V none w' 0 0) 23 [(0, rf V v0), (1, rf V v1), (2, .int v2), (3, .int v3)] [] w := fun v0 v1 v2 v3 w h => ih0 h
    clear ih0
    intro v0 v1 v2 v3 w h
    unfold L_X2_weigh_23 at h
    refine g_iload_n (pc := 23) X 3 rfl dX2_weigh_23 ?_
    refine g_aload_n (pc := 24) X 1 rfl dX2_weigh_24 ?_
    obtain ⟨k13, h⟩ := gd_i h
    obtain ⟨a14, e15, h⟩ := bd1_i h
    refine g_getR (pc := 25) X FcX1 k13 0 e15 (by decide) rfl q_157 dX2_weigh_25 ?_
    obtain ⟨k16, h⟩ := gd_i h
    refine g_getI (pc := 28) X FcX0 k16 0 (by decide) rfl q_103 dX2_weigh_28 ?_
    refine g_icmp_ge (pc := 31) X (tgt := 71) dX2_weigh_31 rfl (fun c => ?_) (fun c => ?_)
    · have h := br_y c h
      refine g_aload_n (pc := 71) X 0 rfl dX2_weigh_71 ?_
      refine g_aload_n (pc := 72) X 0 rfl dX2_weigh_72 ?_
      obtain ⟨k17, h⟩ := gd_i h
      obtain ⟨a18, e19, h⟩ := bd1_i h
      refine g_getR (pc := 73) X FcX2 k17 1 e19 (by decide) rfl q_211 dX2_weigh_73 ?_
      refine g_aload_n (pc := 76) X 0 rfl dX2_weigh_76 ?_
      refine g_getI (pc := 77) X FcX2 k17 2 (by decide) rfl q_212 dX2_weigh_77 ?_
      obtain ⟨k20, h⟩ := gd_i h
      refine g_iald (pc := 80) X k20 dX2_weigh_80 ?_
      refine g_iconst (pc := 81) X (v := (-1)) dX2_weigh_81 rfl ?_
      refine g_icmp_ne (pc := 82) X (tgt := 89) dX2_weigh_82 rfl (fun c => ?_) (fun c => ?_)
      · have h := br_n c h
        refine g_aload_n (pc := 89) X 0 rfl dX2_weigh_89 ?_
        obtain ⟨a21, e22, h⟩ := bd1_i h
        refine g_getR (pc := 90) X FcX2 k17 1 e22 (by decide) rfl q_211 dX2_weigh_90 ?_
        refine g_aload_n (pc := 93) X 0 rfl dX2_weigh_93 ?_
        refine g_getI (pc := 94) X FcX2 k17 2 (by decide) rfl q_212 dX2_weigh_94 ?_
        obtain ⟨k23, h⟩ := gd_i h
        refine g_iald (pc := 97) X k23 dX2_weigh_97 ?_
        refine g_bipush (pc := 98) X (v := 50) dX2_weigh_98 rfl ?_
        refine g_iadd (pc := 100) X dX2_weigh_100 ?_
        refine g_sub (lv' := []) [] rfl ?_
        exact bj_X2_weigh_101 Y  h
      · have h := br_y c h
        refine g_iconst (pc := 85) X (v := 0) dX2_weigh_85 rfl ?_
        refine g_goto (pc := 86) X (tgt := 101) dX2_weigh_86 rfl ?_
        refine g_sub (lv' := []) [] rfl ?_
        exact bj_X2_weigh_101 Y  h
    · have h := br_n c h
      refine g_iload_n (pc := 34) X 2 rfl dX2_weigh_34 ?_
      refine g_iload_n (pc := 35) X 3 rfl dX2_weigh_35 ?_
      obtain ⟨r27, w28, h29, h⟩ := bd2_i h
      refine g_callSN (pc := 36) X mk_X8_has q_480 (host := RX8) (by decide +kernel) (c_X8_has h29) rfl rfl (by rw [Y.2.1]; decide)  rfl (rest := []) rfl (Nat.le_of_ble_eq_true rfl) (by rw [Y.2.1]; exact ⟨Nat.le_of_ble_eq_true rfl, Nat.le_of_ble_eq_true rfl⟩) dX2_weigh_36 (st' := [.int r27]) rfl ?_
      refine g_if_ne (pc := 39) X (tgt := 65) dX2_weigh_39 rfl (fun c => ?_) (fun c => ?_)
      · have h := br_n c h
        obtain ⟨x30, e31, h⟩ := lb_i h
        refine g_iinc (pc := 65) X 3 rfl dX2_weigh_65 (v := x30) e31.symm (by decide) (lv' := [(3, .int x30), (0, rf V v0), (1, rf V v1), (2, .int v2)]) rfl ?_
        refine g_goto (pc := 68) X (tgt := 23) dX2_weigh_68 rfl ?_
        refine g_sub (lv' := [(0, rf V v0), (1, rf V v1), (2, .int v2), (3, .int x30)]) [1, 2, 3, 0] rfl ?_
        exact ih _ _ _ _ _ h
      · have h := br_y c h
        refine g_aload_n (pc := 42) X 0 rfl dX2_weigh_42 ?_
        obtain ⟨k32, h⟩ := gd_i h
        obtain ⟨a33, e34, h⟩ := bd1_i h
        refine g_getR (pc := 43) X FcX2 k32 1 e34 (by decide) rfl q_211 dX2_weigh_43 ?_
        refine g_iload_n (pc := 46) X 3 rfl dX2_weigh_46 ?_
        obtain ⟨k35, h⟩ := gd_i h
        refine g_iald (pc := 47) X k35 dX2_weigh_47 ?_
        refine g_aload_n (pc := 48) X 0 rfl dX2_weigh_48 ?_
        obtain ⟨a36, e37, h⟩ := bd1_i h
        refine g_getR (pc := 49) X FcX2 k32 1 e37 (by decide) rfl q_211 dX2_weigh_49 ?_
        refine g_aload_n (pc := 52) X 0 rfl dX2_weigh_52 ?_
        refine g_getI (pc := 53) X FcX2 k32 2 (by decide) rfl q_212 dX2_weigh_53 ?_
        obtain ⟨k38, h⟩ := gd_i h
        refine g_iald (pc := 56) X k38 dX2_weigh_56 ?_
        refine g_icmp_le (pc := 57) X (tgt := 65) dX2_weigh_57 rfl (fun c => ?_) (fun c => ?_)
        · have h := br_y c h
          obtain ⟨x39, e40, h⟩ := lb_i h
          refine g_iinc (pc := 65) X 3 rfl dX2_weigh_65 (v := x39) e40.symm (by decide) (lv' := [(3, .int x39), (0, rf V v0), (1, rf V v1), (2, .int v2)]) rfl ?_
          refine g_goto (pc := 68) X (tgt := 23) dX2_weigh_68 rfl ?_
          refine g_sub (lv' := [(0, rf V v0), (1, rf V v1), (2, .int v2), (3, .int x39)]) [1, 2, 3, 0] rfl ?_
          exact ih _ _ _ _ _ h
        · have h := br_n c h
          refine g_aload_n (pc := 60) X 0 rfl dX2_weigh_60 ?_
          refine g_iload_n (pc := 61) X 3 rfl dX2_weigh_61 ?_
          refine g_putI (pc := 62) X FcX2 k32 2 (by decide) rfl q_212 rfl rfl rfl dX2_weigh_62 ?_
          obtain ⟨w41, e42, h⟩ := lb_i h
          refine g_w e42 ?_
          obtain ⟨x43, e44, h⟩ := lb_i h
          refine g_iinc (pc := 65) X 3 rfl dX2_weigh_65 (v := x43) e44.symm (by decide) (lv' := [(3, .int x43), (0, rf V v0), (1, rf V v1), (2, .int v2)]) rfl ?_
          refine g_goto (pc := 68) X (tgt := 23) dX2_weigh_68 rfl ?_
          refine g_sub (lv' := [(0, rf V v0), (1, rf V v1), (2, .int v2), (3, .int x43)]) [1, 2, 3, 0] rfl ?_
          exact ih _ _ _ _ _ h

def f_X2_weigh (v0 : Nat) (v1 : Nat) (v2 : Int32) (w : Wd) : Option (Unit × Wd) := (if wK w v0 = 2 then
 (bd2 (f_X2_gatherGains v0 v1 v2 w) fun r2 w3 =>
 (bd2 (f_J6_numberOfTrailingZeros_0f7a4 (v2 ^^^ (-1)) w3) fun r5 w6 =>
 (if wK w6 v0 = 2 then
 (lb_ (sI w6 v0 2 r5) fun w9 =>
 (lb_ ((wI w9 v0 2) + 1) fun x11 =>
 L_X2_weigh_23 FU v0 v1 v2 x11 w9))
 else none)))
 else none)
theorem c_X2_weigh {l : Launch} {V : Vt} {v0 : Nat} {v1 : Nat} {v2 : Int32} {w w' : Wd} {r : Unit} (h : f_X2_weigh v0 v1 v2 w = some (r, w')) : MetW l V yX2_weigh cX2_weigh 4 (none) { frames := 3, cells := 0, slots := 0, locals := 70 } w [rf V v0, rf V v1, .int v2] none w' 0 0 := by
  refine g_start (by decide) (Nat.le_of_ble_eq_true rfl) ?_
  intro t _ hrm X hret hnm
  have Y : Hd_ t V cX2_weigh 4 RX2 { frames := 3, cells := 0, slots := 0, locals := 70 } (none) "weigh" := ⟨X, hrm, hret, hnm⟩
  refine g_as (lv' := [(0, rf V v0), (1, rf V v1), (2, .int v2)]) (st' := []) rfl rfl ?_
  unfold f_X2_weigh at h
  refine g_aload_n (pc := 0) X 0 rfl dX2_weigh_0 ?_
  refine g_aload_n (pc := 1) X 1 rfl dX2_weigh_1 ?_
  refine g_iload_n (pc := 2) X 2 rfl dX2_weigh_2 ?_
  obtain ⟨k1, h⟩ := gd_i h
  obtain ⟨r2, w3, h4, h⟩ := bd2_i h
  refine g_callV (pc := 3) X FcX2 k1 mk_X2_gatherGains q_621 q_3 q_619 (c_X2_gatherGains h4) rfl rfl (by rw [Y.2.1]; decide)  rfl (rest := []) rfl (Nat.le_of_ble_eq_true rfl) (by rw [Y.2.1]; exact ⟨Nat.le_of_ble_eq_true rfl, Nat.le_of_ble_eq_true rfl⟩) dX2_weigh_3 (st' := []) rfl ?_
  refine g_aload_n (pc := 6) X 0 rfl dX2_weigh_6 ?_
  refine g_iload_n (pc := 7) X 2 rfl dX2_weigh_7 ?_
  refine g_iconst (pc := 8) X (v := (-1)) dX2_weigh_8 rfl ?_
  refine g_ixor (pc := 9) X dX2_weigh_9 ?_
  obtain ⟨r5, w6, h7, h⟩ := bd2_i h
  refine g_callS (pc := 10) X mk_J6_numberOfTrailingZeros_0f7a4 q_571 q_631 (c_J6_numberOfTrailingZeros_0f7a4 h7) rfl rfl (by rw [Y.2.1]; decide)  rfl (rest := [rf V v0]) rfl (Nat.le_of_ble_eq_true rfl) (by rw [Y.2.1]; exact ⟨Nat.le_of_ble_eq_true rfl, Nat.le_of_ble_eq_true rfl⟩) dX2_weigh_10 (st' := [.int r5, rf V v0]) rfl ?_
  obtain ⟨k8, h⟩ := gd_i h
  refine g_putI (pc := 13) X FcX2 k8 2 (by decide) rfl q_212 rfl rfl rfl dX2_weigh_13 ?_
  obtain ⟨w9, e10, h⟩ := lb_i h
  refine g_w e10 ?_
  refine g_aload_n (pc := 16) X 0 rfl dX2_weigh_16 ?_
  refine g_getI (pc := 17) X FcX2 (kd_I e10 k8) 2 (by decide) rfl q_212 dX2_weigh_17 ?_
  refine g_iconst (pc := 20) X (v := 1) dX2_weigh_20 rfl ?_
  refine g_iadd (pc := 21) X dX2_weigh_21 ?_
  obtain ⟨x11, e12, h⟩ := lb_i h
  refine g_top e12 ?_
  refine g_istore_n (pc := 22) X (lv' := [(3, .int x11), (0, rf V v0), (1, rf V v1), (2, .int v2)]) dX2_weigh_22 (by decide) rfl ?_
  refine g_sub (lv' := [(0, rf V v0), (1, rf V v1), (2, .int v2), (3, .int x11)]) [1, 2, 3, 0] rfl ?_
  exact bL_X2_weigh_23 Y  h

def f_X3_init (v0 : Nat) (w : Wd) : Option (Unit × Wd) := (if wK w v0 = 3 then
 (lb_ (sI w v0 0 (-1)) fun w2 =>
 (lb_ (wN w2) fun a4 =>
 (lb_ (nC w2 11 24) fun w6 =>
 (if wK w6 v0 = 3 then
 (lb_ (sR w6 v0 2 (some a4)) fun w9 =>
 some ((), w9))
 else none))))
 else none)
theorem c_X3_init {l : Launch} {V : Vt} {v0 : Nat} {w w' : Wd} {r : Unit} (h : f_X3_init v0 w = some (r, w')) : MetW l V yX3_init cX3_init 1 (none) { frames := 1, cells := 1, slots := 24, locals := 20 } w [rf V v0] none w' 1 24 := by
  refine g_start (by decide) (Nat.le_of_ble_eq_true rfl) ?_
  intro t _ hrm X hret hnm
  have Y : Hd_ t V cX3_init 1 RX3 { frames := 1, cells := 1, slots := 24, locals := 20 } (none) "<init>" := ⟨X, hrm, hret, hnm⟩
  refine g_as (lv' := [(0, rf V v0)]) (st' := []) rfl rfl ?_
  unfold f_X3_init at h
  refine g_aload_n (pc := 0) X 0 rfl dX3_init_0 ?_
  refine g_objInit (pc := 1) X q_283 q_88 q_89 (by rw [Y.2.1]; decide) (by rw [Y.2.1]; exact Nat.le_of_ble_eq_true rfl) dX3_init_1 ?_
  refine g_aload_n (pc := 4) X 0 rfl dX3_init_4 ?_
  refine g_iconst (pc := 5) X (v := (-1)) dX3_init_5 rfl ?_
  obtain ⟨k1, h⟩ := gd_i h
  refine g_putI (pc := 6) X FcX3 k1 0 (by decide) rfl q_284 rfl rfl rfl dX3_init_6 ?_
  obtain ⟨w2, e3, h⟩ := lb_i h
  refine g_w e3 ?_
  refine g_aload_n (pc := 9) X 0 rfl dX3_init_9 ?_
  refine g_bipush (pc := 10) X (v := 24) dX3_init_10 rfl ?_
  refine g_newarr (pc := 12) X (atype := .int) (k := 11) (fty := .int) rfl (by decide) (by decide) rfl ra_int rfl q_155 (N := 24) (by decide) rfl (Nat.le_of_ble_eq_true rfl) (by rw [Y.2.1]; exact Nat.le_of_ble_eq_true rfl) (by rw [Y.2.1]; exact Nat.le_of_ble_eq_true rfl) dX3_init_12 ?_
  obtain ⟨a4, e5, h⟩ := lb_i h
  obtain ⟨w6, e7, h⟩ := lb_i h
  refine g_w e7 ?_
  refine g_topr e5 ?_
  obtain ⟨k8, h⟩ := gd_i h
  refine g_putFR (pc := 14) X FcX3 k8 2 (by decide) rfl q_288 rfl Y.2.2.2 rfl rfl rfl dX3_init_14 ?_
  obtain ⟨w9, e10, h⟩ := lb_i h
  refine g_w e10 ?_
  obtain ⟨e1, e2⟩ := rt_i h
  exact g_vret (pc := 17) X Y.2.2.1 (Nat.le_of_ble_eq_true rfl) (Nat.le_of_ble_eq_true rfl) e2 dX3_init_17

def L_X3_clear_12  (n : Nat) (v0 : Nat) (v3 : Int32) (w : Wd) : Option (Unit × Wd) := match n with
  | 0 => none
  | n + 1 => (if 24 ≤ v3 then
 some ((), w)
 else
 (if wK w v0 = 3 then
 (bd1 (wR w v0 2) fun a7 =>
 (if aK 11 w a7 v3 = true then
 (lb_ (sI w a7 (nx v3) 0) fun w10 =>
 (lb_ (v3 + 1) fun x12 =>
 L_X3_clear_12 n v0 x12 w10))
 else none))
 else none))
theorem bL_X3_clear_12 {t : Ct} {V : Vt} {r : Unit} {w' : Wd} (Y : Hd_ t V cX3_clear 4 RX3 { frames := 0, cells := 0, slots := 0, locals := 0 } (none) "clear") : ∀ {n : Nat} {v0 : Nat} {v3 : Int32} {w : Wd}, L_X3_clear_12  n v0 v3 w = some (r, w') → Gd t V 4 0 0 (Qe t V none w' 0 0) 12 [(0, rf V v0), (3, .int v3)] [] w := by
  have X := Y.1
  intro n
  induction n with
  | zero => intro v0 v3 w h; cases h
  | succ n ih0 =>
    have ih : ∀ (v0 : Nat) (v3 : Int32) (w : Wd), L_X3_clear_12  n v0 v3 w = some (r, w') → Gd t V 4 0 0 (Qe t V none w' 0 0) 12 [(0, rf V v0), (3, .int v3)] [] w := fun v0 v3 w h => ih0 h
    clear ih0
    intro v0 v3 w h
    unfold L_X3_clear_12 at h
    refine g_iload_n (pc := 12) X 1 rfl dX3_clear_12 ?_
    refine g_bipush (pc := 13) X (v := 24) dX3_clear_13 rfl ?_
    refine g_icmp_ge (pc := 15) X (tgt := 31) dX3_clear_15 rfl (fun c => ?_) (fun c => ?_)
    · have h := br_y c h
      obtain ⟨e1, e2⟩ := rt_i h
      exact g_vret (pc := 31) X Y.2.2.1 (Nat.le_of_ble_eq_true rfl) (Nat.le_of_ble_eq_true rfl) e2 dX3_clear_31
    · have h := br_n c h
      refine g_aload_n (pc := 18) X 0 rfl dX3_clear_18 ?_
      obtain ⟨k6, h⟩ := gd_i h
      obtain ⟨a7, e8, h⟩ := bd1_i h
      refine g_getR (pc := 19) X FcX3 k6 2 e8 (by decide) rfl q_288 dX3_clear_19 ?_
      refine g_iload_n (pc := 22) X 1 rfl dX3_clear_22 ?_
      refine g_iconst (pc := 23) X (v := 0) dX3_clear_23 rfl ?_
      obtain ⟨k9, h⟩ := gd_i h
      refine g_iast (pc := 24) X k9 dX3_clear_24 ?_
      obtain ⟨w10, e11, h⟩ := lb_i h
      refine g_w e11 ?_
      obtain ⟨x12, e13, h⟩ := lb_i h
      refine g_iinc (pc := 25) X 1 rfl dX3_clear_25 (v := x12) e13.symm (by decide) (lv' := [(3, .int x12), (0, rf V v0)]) rfl ?_
      refine g_goto (pc := 28) X (tgt := 12) dX3_clear_28 rfl ?_
      refine g_sub (lv' := [(0, rf V v0), (3, .int x12)]) [1, 0] rfl ?_
      exact ih _ _ _ h

def f_X3_clear (v0 : Nat) (v1 : Int32) (v2 : Int32) (w : Wd) : Option (Unit × Wd) := (if wK w v0 = 3 then
 (lb_ (sI w v0 0 v1) fun w2 =>
 (lb_ (sI w2 v0 1 v2) fun w4 =>
 L_X3_clear_12 FU v0 0 w4))
 else none)
theorem c_X3_clear {l : Launch} {V : Vt} {v0 : Nat} {v1 : Int32} {v2 : Int32} {w w' : Wd} {r : Unit} (h : f_X3_clear v0 v1 v2 w = some (r, w')) : MetW l V yX3_clear cX3_clear 4 (none) { frames := 0, cells := 0, slots := 0, locals := 0 } w [rf V v0, .int v1, .int v2] none w' 0 0 := by
  refine g_start (by decide) (Nat.le_of_ble_eq_true rfl) ?_
  intro t _ hrm X hret hnm
  have Y : Hd_ t V cX3_clear 4 RX3 { frames := 0, cells := 0, slots := 0, locals := 0 } (none) "clear" := ⟨X, hrm, hret, hnm⟩
  refine g_as (lv' := [(0, rf V v0), (1, .int v1), (2, .int v2)]) (st' := []) rfl rfl ?_
  unfold f_X3_clear at h
  refine g_aload_n (pc := 0) X 0 rfl dX3_clear_0 ?_
  refine g_iload_n (pc := 1) X 1 rfl dX3_clear_1 ?_
  obtain ⟨k1, h⟩ := gd_i h
  refine g_putI (pc := 2) X FcX3 k1 0 (by decide) rfl q_284 rfl rfl rfl dX3_clear_2 ?_
  obtain ⟨w2, e3, h⟩ := lb_i h
  refine g_w e3 ?_
  refine g_aload_n (pc := 5) X 0 rfl dX3_clear_5 ?_
  refine g_iload_n (pc := 6) X 2 rfl dX3_clear_6 ?_
  refine g_putI (pc := 7) X FcX3 (kd_I e3 k1) 1 (by decide) rfl q_286 rfl rfl rfl dX3_clear_7 ?_
  obtain ⟨w4, e5, h⟩ := lb_i h
  refine g_w e5 ?_
  refine g_iconst (pc := 10) X (v := 0) dX3_clear_10 rfl ?_
  refine g_istore_n (pc := 11) X (lv' := [(3, .int 0), (0, rf V v0), (1, .int v1), (2, .int v2)]) dX3_clear_11 (by decide) rfl ?_
  refine g_sub (lv' := [(0, rf V v0), (3, .int 0)]) [1, 0] rfl ?_
  exact bL_X3_clear_12 Y  h

def f_X3_become (v0 : Nat) (v1 : Nat) (w : Wd) : Option (Unit × Wd) := (if wK w v1 = 3 then
 (if wK w v0 = 3 then
 (lb_ (sI w v0 0 (wI w v1 0)) fun w3 =>
 (lb_ (sI w3 v0 1 (wI w3 v1 1)) fun w5 =>
 (bd1 (wR w5 v1 2) fun a7 =>
 (bd1 (wR w5 v0 2) fun a9 =>
 (if cp_ok w5 a7 0 a9 0 24 = true then
 (lb_ (cp_W w5 a7 0 a9 0 24) fun w12 =>
 some ((), w12))
 else none)))))
 else none)
 else none)
theorem c_X3_become {l : Launch} {V : Vt} {v0 : Nat} {v1 : Nat} {w w' : Wd} {r : Unit} (h : f_X3_become v0 v1 w = some (r, w')) : MetW l V yX3_become cX3_become 2 (none) { frames := 1, cells := 0, slots := 0, locals := 64 } w [rf V v0, rf V v1] none w' 0 0 := by
  refine g_start (by decide) (Nat.le_of_ble_eq_true rfl) ?_
  intro t _ hrm X hret hnm
  have Y : Hd_ t V cX3_become 2 RX3 { frames := 1, cells := 0, slots := 0, locals := 64 } (none) "become" := ⟨X, hrm, hret, hnm⟩
  refine g_as (lv' := [(0, rf V v0), (1, rf V v1)]) (st' := []) rfl rfl ?_
  unfold f_X3_become at h
  refine g_aload_n (pc := 0) X 0 rfl dX3_become_0 ?_
  refine g_aload_n (pc := 1) X 1 rfl dX3_become_1 ?_
  obtain ⟨k1, h⟩ := gd_i h
  refine g_getI (pc := 2) X FcX3 k1 0 (by decide) rfl q_284 dX3_become_2 ?_
  obtain ⟨k2, h⟩ := gd_i h
  refine g_putI (pc := 5) X FcX3 k2 0 (by decide) rfl q_284 rfl rfl rfl dX3_become_5 ?_
  obtain ⟨w3, e4, h⟩ := lb_i h
  refine g_w e4 ?_
  refine g_aload_n (pc := 8) X 0 rfl dX3_become_8 ?_
  refine g_aload_n (pc := 9) X 1 rfl dX3_become_9 ?_
  refine g_getI (pc := 10) X FcX3 (kd_I e4 k1) 1 (by decide) rfl q_286 dX3_become_10 ?_
  refine g_putI (pc := 13) X FcX3 (kd_I e4 k2) 1 (by decide) rfl q_286 rfl rfl rfl dX3_become_13 ?_
  obtain ⟨w5, e6, h⟩ := lb_i h
  refine g_w e6 ?_
  refine g_aload_n (pc := 16) X 1 rfl dX3_become_16 ?_
  obtain ⟨a7, e8, h⟩ := bd1_i h
  refine g_getR (pc := 17) X FcX3 (kd_I e6 (kd_I e4 k1)) 2 e8 (by decide) rfl q_288 dX3_become_17 ?_
  refine g_iconst (pc := 20) X (v := 0) dX3_become_20 rfl ?_
  refine g_aload_n (pc := 21) X 0 rfl dX3_become_21 ?_
  obtain ⟨a9, e10, h⟩ := bd1_i h
  refine g_getR (pc := 22) X FcX3 (kd_I e6 (kd_I e4 k2)) 2 e10 (by decide) rfl q_288 dX3_become_22 ?_
  refine g_iconst (pc := 25) X (v := 0) dX3_become_25 rfl ?_
  refine g_bipush (pc := 26) X (v := 24) dX3_become_26 rfl ?_
  obtain ⟨k11, h⟩ := gd_i h
  refine g_copy (pc := 28) X k11 q_977 q_651 q_650 q_76 (by rw [Y.2.1]; decide) (by rw [Y.2.1]; exact Nat.le_of_ble_eq_true rfl) dX3_become_28 ?_
  obtain ⟨w12, e13, h⟩ := lb_i h
  refine g_w e13 ?_
  obtain ⟨e1, e2⟩ := rt_i h
  exact g_vret (pc := 31) X Y.2.2.1 (Nat.le_of_ble_eq_true rfl) (Nat.le_of_ble_eq_true rfl) e2 dX3_become_31

def f_X8_isWithin (v0 : Int32) (v1 : Int32) (v2 : Int32) (w : Wd) : Option (Int32 × Wd) := some ((if v0 < v1 then 0 else (if v2 < v0 then 0 else 1 : Int32) : Int32), w)
theorem c_X8_isWithin {l : Launch} {V : Vt} {v0 : Int32} {v1 : Int32} {v2 : Int32} {w w' : Wd} {r : Int32} (h : f_X8_isWithin v0 v1 v2 w = some (r, w')) : MetW l V yX8_isWithin cX8_isWithin 3 (some .boolean) { frames := 0, cells := 0, slots := 0, locals := 0 } w [.int v0, .int v1, .int v2] (some (.int r)) w' 0 0 := by
  refine g_start (by decide) (Nat.le_of_ble_eq_true rfl) ?_
  intro t _ hrm X hret hnm
  have Y : Hd_ t V cX8_isWithin 3 RX8 { frames := 0, cells := 0, slots := 0, locals := 0 } (some .boolean) "isWithin" := ⟨X, hrm, hret, hnm⟩
  refine g_as (lv' := [(0, .int v0), (1, .int v1), (2, .int v2)]) (st' := []) rfl rfl ?_
  unfold f_X8_isWithin at h
  refine g_iload_n (pc := 0) X 1 rfl dX8_isWithin_0 ?_
  refine g_iload_n (pc := 1) X 0 rfl dX8_isWithin_1 ?_
  have kJ : Gd t V 3 0 0 (Qe t V (some (.int r)) w' 0 0) 15 [(0, .int v0), (1, .int v1), (2, .int v2)] [.int (if v0 < v1 then 0 else (if v2 < v0 then 0 else 1 : Int32) : Int32)] w := by
    obtain ⟨e1, e2⟩ := rt_i h
    exact g_zret (pc := 15) X Y.2.2.1 (bz_ite (Or.inl rfl) (bz_ite (Or.inl rfl) (Or.inr rfl))) (Nat.le_of_ble_eq_true rfl) (Nat.le_of_ble_eq_true rfl) e1 e2 dX8_isWithin_15
  refine g_icmp_gt (pc := 2) X (tgt := 14) dX8_isWithin_2 rfl (fun c0 => ?_) (fun c0 => ?_)
  · refine g_iconst (pc := 14) X (v := 0) dX8_isWithin_14 rfl ?_
    exact g_top (by rw [if_pos c0]) kJ
  · refine g_iload_n (pc := 5) X 0 rfl dX8_isWithin_5 ?_
    refine g_iload_n (pc := 6) X 2 rfl dX8_isWithin_6 ?_
    refine g_icmp_gt (pc := 7) X (tgt := 14) dX8_isWithin_7 rfl (fun c1 => ?_) (fun c1 => ?_)
    · refine g_iconst (pc := 14) X (v := 0) dX8_isWithin_14 rfl ?_
      exact g_top (by rw [if_neg c0, if_pos c1]) kJ
    · refine g_iconst (pc := 10) X (v := 1) dX8_isWithin_10 rfl ?_
      refine g_goto (pc := 11) X (tgt := 15) dX8_isWithin_11 rfl ?_
      exact g_top (by rw [if_neg c0, if_neg c1]) kJ

def f_X3_hasPlace (v0 : Nat) (v1 : Int32) (w : Wd) : Option (Int32 × Wd) := (if wK w v0 = 3 then
 (bd2 (f_X8_isWithin v1 0 ((wI w v0 1) - 1) w) fun r2 w3 =>
 (if r2 = 0 ∨ r2 = 1 then
 some (r2, w3)
 else none))
 else none)
theorem c_X3_hasPlace {l : Launch} {V : Vt} {v0 : Nat} {v1 : Int32} {w w' : Wd} {r : Int32} (h : f_X3_hasPlace v0 v1 w = some (r, w')) : MetW l V yX3_hasPlace cX3_hasPlace 2 (some .boolean) { frames := 1, cells := 0, slots := 0, locals := 22 } w [rf V v0, .int v1] (some (.int r)) w' 0 0 := by
  refine g_start (by decide) (Nat.le_of_ble_eq_true rfl) ?_
  intro t _ hrm X hret hnm
  have Y : Hd_ t V cX3_hasPlace 2 RX3 { frames := 1, cells := 0, slots := 0, locals := 22 } (some .boolean) "hasPlace" := ⟨X, hrm, hret, hnm⟩
  refine g_as (lv' := [(0, rf V v0), (1, .int v1)]) (st' := []) rfl rfl ?_
  unfold f_X3_hasPlace at h
  refine g_iload_n (pc := 0) X 1 rfl dX3_hasPlace_0 ?_
  refine g_iconst (pc := 1) X (v := 0) dX3_hasPlace_1 rfl ?_
  refine g_aload_n (pc := 2) X 0 rfl dX3_hasPlace_2 ?_
  obtain ⟨k1, h⟩ := gd_i h
  refine g_getI (pc := 3) X FcX3 k1 1 (by decide) rfl q_286 dX3_hasPlace_3 ?_
  refine g_iconst (pc := 6) X (v := 1) dX3_hasPlace_6 rfl ?_
  refine g_isub (pc := 7) X dX3_hasPlace_7 ?_
  obtain ⟨r2, w3, h4, h⟩ := bd2_i h
  refine g_callSN (pc := 8) X mk_X8_isWithin q_357 (host := RX8) (by decide +kernel) (c_X8_isWithin h4) rfl rfl (by rw [Y.2.1]; decide)  rfl (rest := []) rfl (Nat.le_of_ble_eq_true rfl) (by rw [Y.2.1]; exact ⟨Nat.le_of_ble_eq_true rfl, Nat.le_of_ble_eq_true rfl⟩) dX3_hasPlace_8 (st' := [.int r2]) rfl ?_
  obtain ⟨k5, h⟩ := gd_i h
  obtain ⟨e1, e2⟩ := rt_i h
  exact g_zret (pc := 11) X Y.2.2.1 k5 (Nat.le_of_ble_eq_true rfl) (Nat.le_of_ble_eq_true rfl) e1 e2 dX3_hasPlace_11

def f_X3_hasPlaces (v0 : Nat) (v1 : Int32) (v2 : Int32) (w : Wd) : Option (Int32 × Wd) := (if wK w v0 = 3 then
 (bd2 (f_X8_isWithin v1 0 (wI w v0 1) w) fun r2 w3 =>
 (if r2 = 0 then
 some (0, w3)
 else
 (if wK w3 v0 = 3 then
 (bd2 (f_X8_isWithin v2 0 ((wI w3 v0 1) - v1) w3) fun r6 w7 =>
 some ((if r6 = 0 then 0 else 1 : Int32), w7))
 else none)))
 else none)
theorem c_X3_hasPlaces {l : Launch} {V : Vt} {v0 : Nat} {v1 : Int32} {v2 : Int32} {w w' : Wd} {r : Int32} (h : f_X3_hasPlaces v0 v1 v2 w = some (r, w')) : MetW l V yX3_hasPlaces cX3_hasPlaces 3 (some .boolean) { frames := 1, cells := 0, slots := 0, locals := 22 } w [rf V v0, .int v1, .int v2] (some (.int r)) w' 0 0 := by
  refine g_start (by decide) (Nat.le_of_ble_eq_true rfl) ?_
  intro t _ hrm X hret hnm
  have Y : Hd_ t V cX3_hasPlaces 3 RX3 { frames := 1, cells := 0, slots := 0, locals := 22 } (some .boolean) "hasPlaces" := ⟨X, hrm, hret, hnm⟩
  refine g_as (lv' := [(0, rf V v0), (1, .int v1), (2, .int v2)]) (st' := []) rfl rfl ?_
  unfold f_X3_hasPlaces at h
  refine g_iload_n (pc := 0) X 1 rfl dX3_hasPlaces_0 ?_
  refine g_iconst (pc := 1) X (v := 0) dX3_hasPlaces_1 rfl ?_
  refine g_aload_n (pc := 2) X 0 rfl dX3_hasPlaces_2 ?_
  obtain ⟨k1, h⟩ := gd_i h
  refine g_getI (pc := 3) X FcX3 k1 1 (by decide) rfl q_286 dX3_hasPlaces_3 ?_
  obtain ⟨r2, w3, h4, h⟩ := bd2_i h
  refine g_callSN (pc := 6) X mk_X8_isWithin q_357 (host := RX8) (by decide +kernel) (c_X8_isWithin h4) rfl rfl (by rw [Y.2.1]; decide)  rfl (rest := []) rfl (Nat.le_of_ble_eq_true rfl) (by rw [Y.2.1]; exact ⟨Nat.le_of_ble_eq_true rfl, Nat.le_of_ble_eq_true rfl⟩) dX3_hasPlaces_6 (st' := [.int r2]) rfl ?_
  refine g_if_eq (pc := 9) X (tgt := 30) dX3_hasPlaces_9 rfl (fun c => ?_) (fun c => ?_)
  · have h := br_y c h
    refine g_iconst (pc := 30) X (v := 0) dX3_hasPlaces_30 rfl ?_
    obtain ⟨e1, e2⟩ := rt_i h
    exact g_zret (pc := 31) X Y.2.2.1 (Or.inl rfl) (Nat.le_of_ble_eq_true rfl) (Nat.le_of_ble_eq_true rfl) e1 e2 dX3_hasPlaces_31
  · have h := br_n c h
    refine g_iload_n (pc := 12) X 2 rfl dX3_hasPlaces_12 ?_
    refine g_iconst (pc := 13) X (v := 0) dX3_hasPlaces_13 rfl ?_
    refine g_aload_n (pc := 14) X 0 rfl dX3_hasPlaces_14 ?_
    obtain ⟨k5, h⟩ := gd_i h
    refine g_getI (pc := 15) X FcX3 k5 1 (by decide) rfl q_286 dX3_hasPlaces_15 ?_
    refine g_iload_n (pc := 18) X 1 rfl dX3_hasPlaces_18 ?_
    refine g_isub (pc := 19) X dX3_hasPlaces_19 ?_
    obtain ⟨r6, w7, h8, h⟩ := bd2_i h
    refine g_callSN (pc := 20) X mk_X8_isWithin q_357 (host := RX8) (by decide +kernel) (c_X8_isWithin h8) rfl rfl (by rw [Y.2.1]; decide)  rfl (rest := []) rfl (Nat.le_of_ble_eq_true rfl) (by rw [Y.2.1]; exact ⟨Nat.le_of_ble_eq_true rfl, Nat.le_of_ble_eq_true rfl⟩) dX3_hasPlaces_20 (st' := [.int r6]) rfl ?_
    have kJ : Gd t V 3 0 0 (Qe t V (some (.int r)) w' 0 0) 31 [(0, rf V v0), (1, .int v1), (2, .int v2)] [.int (if r6 = 0 then 0 else 1 : Int32)] w7 := by
      obtain ⟨e1, e2⟩ := rt_i h
      exact g_zret (pc := 31) X Y.2.2.1 (bz_ite (Or.inl rfl) (Or.inr rfl)) (Nat.le_of_ble_eq_true rfl) (Nat.le_of_ble_eq_true rfl) e1 e2 dX3_hasPlaces_31
    refine g_if_eq (pc := 23) X (tgt := 30) dX3_hasPlaces_23 rfl (fun c0 => ?_) (fun c0 => ?_)
    · refine g_iconst (pc := 30) X (v := 0) dX3_hasPlaces_30 rfl ?_
      exact g_top (by rw [if_pos c0]) kJ
    · refine g_iconst (pc := 26) X (v := 1) dX3_hasPlaces_26 rfl ?_
      refine g_goto (pc := 27) X (tgt := 31) dX3_hasPlaces_27 rfl ?_
      exact g_top (by rw [if_neg c0]) kJ

def f_X4_worth (v0 : Nat) (w : Wd) : Option (Int32 × Wd) := (if wK w v0 = 4 then
 (if (wI w v0 0) = 1 then
 some ((wI w v0 3) + 6, w)
 else
 (if (wI w v0 0) = 2 then
 some (99 - (wI w v0 3), w)
 else
 (if (wI w v0 0) = 3 then
 some (2 * ((wI w v0 3) + 6), w)
 else
 (if (wI w v0 0) = 4 then
 some ((99 - (wI w v0 3)) - 4, w)
 else
 (if (wI w v0 0) = 5 then
 some (3, w)
 else
 some (wI w v0 3, w))))))
 else none)
theorem c_X4_worth {l : Launch} {V : Vt} {v0 : Nat} {w w' : Wd} {r : Int32} (h : f_X4_worth v0 w = some (r, w')) : MetW l V yX4_worth cX4_worth 1 (some .int) { frames := 0, cells := 0, slots := 0, locals := 0 } w [rf V v0] (some (.int r)) w' 0 0 := by
  refine g_start (by decide) (Nat.le_of_ble_eq_true rfl) ?_
  intro t _ hrm X hret hnm
  have Y : Hd_ t V cX4_worth 1 RX4 { frames := 0, cells := 0, slots := 0, locals := 0 } (some .int) "worth" := ⟨X, hrm, hret, hnm⟩
  refine g_as (lv' := [(0, rf V v0)]) (st' := []) rfl rfl ?_
  unfold f_X4_worth at h
  refine g_aload_n (pc := 0) X 0 rfl dX4_worth_0 ?_
  obtain ⟨k1, h⟩ := gd_i h
  refine g_getI (pc := 1) X FcX4 k1 0 (by decide) rfl q_134 dX4_worth_1 ?_
  by_cases c2 : (wI w v0 0) = 1
  · have h := br_y c2 h
    refine g_tswI (pc := 4) X 1 (tgt := 40) dX4_worth_4 c2 (by decide) (by decide) rfl rfl ?_
    refine g_aload_n (pc := 40) X 0 rfl dX4_worth_40 ?_
    refine g_getI (pc := 41) X FcX4 k1 3 (by decide) rfl q_143 dX4_worth_41 ?_
    refine g_bipush (pc := 44) X (v := 6) dX4_worth_44 rfl ?_
    refine g_iadd (pc := 46) X dX4_worth_46 ?_
    obtain ⟨e1, e2⟩ := rt_i h
    exact g_iret (pc := 47) X Y.2.2.1 (Nat.le_of_ble_eq_true rfl) (Nat.le_of_ble_eq_true rfl) e1 e2 dX4_worth_47
  · have h := br_n c2 h
    by_cases c3 : (wI w v0 0) = 2
    · have h := br_y c3 h
      refine g_tswI (pc := 4) X 2 (tgt := 58) dX4_worth_4 c3 (by decide) (by decide) rfl rfl ?_
      refine g_bipush (pc := 58) X (v := 99) dX4_worth_58 rfl ?_
      refine g_aload_n (pc := 60) X 0 rfl dX4_worth_60 ?_
      refine g_getI (pc := 61) X FcX4 k1 3 (by decide) rfl q_143 dX4_worth_61 ?_
      refine g_isub (pc := 64) X dX4_worth_64 ?_
      obtain ⟨e1, e2⟩ := rt_i h
      exact g_iret (pc := 65) X Y.2.2.1 (Nat.le_of_ble_eq_true rfl) (Nat.le_of_ble_eq_true rfl) e1 e2 dX4_worth_65
    · have h := br_n c3 h
      by_cases c4 : (wI w v0 0) = 3
      · have h := br_y c4 h
        refine g_tswI (pc := 4) X 3 (tgt := 48) dX4_worth_4 c4 (by decide) (by decide) rfl rfl ?_
        refine g_iconst (pc := 48) X (v := 2) dX4_worth_48 rfl ?_
        refine g_aload_n (pc := 49) X 0 rfl dX4_worth_49 ?_
        refine g_getI (pc := 50) X FcX4 k1 3 (by decide) rfl q_143 dX4_worth_50 ?_
        refine g_bipush (pc := 53) X (v := 6) dX4_worth_53 rfl ?_
        refine g_iadd (pc := 55) X dX4_worth_55 ?_
        refine g_imul (pc := 56) X dX4_worth_56 ?_
        obtain ⟨e1, e2⟩ := rt_i h
        exact g_iret (pc := 57) X Y.2.2.1 (Nat.le_of_ble_eq_true rfl) (Nat.le_of_ble_eq_true rfl) e1 e2 dX4_worth_57
      · have h := br_n c4 h
        by_cases c5 : (wI w v0 0) = 4
        · have h := br_y c5 h
          refine g_tswI (pc := 4) X 4 (tgt := 66) dX4_worth_4 c5 (by decide) (by decide) rfl rfl ?_
          refine g_bipush (pc := 66) X (v := 99) dX4_worth_66 rfl ?_
          refine g_aload_n (pc := 68) X 0 rfl dX4_worth_68 ?_
          refine g_getI (pc := 69) X FcX4 k1 3 (by decide) rfl q_143 dX4_worth_69 ?_
          refine g_isub (pc := 72) X dX4_worth_72 ?_
          refine g_iconst (pc := 73) X (v := 4) dX4_worth_73 rfl ?_
          refine g_isub (pc := 74) X dX4_worth_74 ?_
          obtain ⟨e1, e2⟩ := rt_i h
          exact g_iret (pc := 75) X Y.2.2.1 (Nat.le_of_ble_eq_true rfl) (Nat.le_of_ble_eq_true rfl) e1 e2 dX4_worth_75
        · have h := br_n c5 h
          by_cases c6 : (wI w v0 0) = 5
          · have h := br_y c6 h
            refine g_tswI (pc := 4) X 5 (tgt := 76) dX4_worth_4 c6 (by decide) (by decide) rfl rfl ?_
            refine g_iconst (pc := 76) X (v := 3) dX4_worth_76 rfl ?_
            obtain ⟨e1, e2⟩ := rt_i h
            exact g_iret (pc := 77) X Y.2.2.1 (Nat.le_of_ble_eq_true rfl) (Nat.le_of_ble_eq_true rfl) e1 e2 dX4_worth_77
          · have h := br_n c6 h
            refine g_tswO (pc := 4) X (tgt := 78) dX4_worth_4 (by have n0 : Int32.toInt (wI w v0 0) ≠ 1 := nt_ c2; have n1 : Int32.toInt (wI w v0 0) ≠ 2 := nt_ c3; have n2 : Int32.toInt (wI w v0 0) ≠ 3 := nt_ c4; have n3 : Int32.toInt (wI w v0 0) ≠ 4 := nt_ c5; have n4 : Int32.toInt (wI w v0 0) ≠ 5 := nt_ c6; omega) rfl ?_
            refine g_aload_n (pc := 78) X 0 rfl dX4_worth_78 ?_
            refine g_getI (pc := 79) X FcX4 k1 3 (by decide) rfl q_143 dX4_worth_79 ?_
            obtain ⟨e1, e2⟩ := rt_i h
            exact g_iret (pc := 82) X Y.2.2.1 (Nat.le_of_ble_eq_true rfl) (Nat.le_of_ble_eq_true rfl) e1 e2 dX4_worth_82

def f_X5_init (v0 : Nat) (w : Wd) : Option (Unit × Wd) := (lb_ (wN w) fun a1 =>
 (lb_ (nC w 4 4) fun w3 =>
 (bd2 (f_X4_init a1 w3) fun r5 w6 =>
 (if wK w6 v0 = 5 then
 (lb_ (sR w6 v0 1 (some a1)) fun w9 =>
 (lb_ (wN w9) fun a11 =>
 (lb_ (nC w9 3 3) fun w13 =>
 (bd2 (f_X3_init a11 w13) fun r15 w16 =>
 (if wK w16 v0 = 5 then
 (lb_ (sR w16 v0 2 (some a11)) fun w19 =>
 some ((), w19))
 else none)))))
 else none))))
theorem c_X5_init {l : Launch} {V : Vt} {v0 : Nat} {w w' : Wd} {r : Unit} (h : f_X5_init v0 w = some (r, w')) : MetW l V yX5_init cX5_init 1 (none) { frames := 2, cells := 3, slots := 31, locals := 40 } w [rf V v0] none w' 3 31 := by
  refine g_start (by decide) (Nat.le_of_ble_eq_true rfl) ?_
  intro t _ hrm X hret hnm
  have Y : Hd_ t V cX5_init 1 RX5 { frames := 2, cells := 3, slots := 31, locals := 40 } (none) "<init>" := ⟨X, hrm, hret, hnm⟩
  refine g_as (lv' := [(0, rf V v0)]) (st' := []) rfl rfl ?_
  unfold f_X5_init at h
  refine g_aload_n (pc := 0) X 0 rfl dX5_init_0 ?_
  refine g_objInit (pc := 1) X q_301 q_88 q_89 (by rw [Y.2.1]; decide) (by rw [Y.2.1]; exact Nat.le_of_ble_eq_true rfl) dX5_init_1 ?_
  refine g_aload_n (pc := 4) X 0 rfl dX5_init_4 ?_
  refine g_new (pc := 5) X FcX4 dfX4 q_302 q_129 q_67 (by rw [Y.2.1]; exact Nat.le_of_ble_eq_true rfl) (by rw [Y.2.1]; exact Nat.le_of_ble_eq_true rfl) dX5_init_5 ?_
  obtain ⟨a1, e2, h⟩ := lb_i h
  obtain ⟨w3, e4, h⟩ := lb_i h
  refine g_w e4 ?_
  refine g_topr e2 ?_
  refine g_dup (pc := 8) X rfl dX5_init_8 ?_
  obtain ⟨r5, w6, h7, h⟩ := bd2_i h
  refine g_callIN (pc := 9) X mk_X4_init rfl q_131 (host := RX8) (by decide +kernel) (c_X4_init h7) rfl rfl (by rw [Y.2.1]; decide)  rfl (rest := [rf V a1, rf V v0]) rfl (Nat.le_of_ble_eq_true rfl) (by rw [Y.2.1]; exact ⟨Nat.le_of_ble_eq_true rfl, Nat.le_of_ble_eq_true rfl⟩) dX5_init_9 (st' := [rf V a1, rf V v0]) rfl ?_
  obtain ⟨k8, h⟩ := gd_i h
  refine g_putFR (pc := 12) X FcX5 k8 1 (by decide) rfl q_307 rfl Y.2.2.2 rfl rfl rfl dX5_init_12 ?_
  obtain ⟨w9, e10, h⟩ := lb_i h
  refine g_w e10 ?_
  refine g_aload_n (pc := 15) X 0 rfl dX5_init_15 ?_
  refine g_new (pc := 16) X FcX3 dfX3 q_304 q_279 q_70 (by rw [Y.2.1]; exact Nat.le_of_ble_eq_true rfl) (by rw [Y.2.1]; exact Nat.le_of_ble_eq_true rfl) dX5_init_16 ?_
  obtain ⟨a11, e12, h⟩ := lb_i h
  obtain ⟨w13, e14, h⟩ := lb_i h
  refine g_w e14 ?_
  refine g_topr e12 ?_
  refine g_dup (pc := 19) X rfl dX5_init_19 ?_
  obtain ⟨r15, w16, h17, h⟩ := bd2_i h
  refine g_callIN (pc := 20) X mk_X3_init rfl q_281 (host := RX8) (by decide +kernel) (c_X3_init h17) rfl rfl (by rw [Y.2.1]; decide)  rfl (rest := [rf V a11, rf V v0]) rfl (Nat.le_of_ble_eq_true rfl) (by rw [Y.2.1]; exact ⟨Nat.le_of_ble_eq_true rfl, Nat.le_of_ble_eq_true rfl⟩) dX5_init_20 (st' := [rf V a11, rf V v0]) rfl ?_
  obtain ⟨k18, h⟩ := gd_i h
  refine g_putFR (pc := 23) X FcX5 k18 2 (by decide) rfl q_309 rfl Y.2.2.2 rfl rfl rfl dX5_init_23 ?_
  obtain ⟨w19, e20, h⟩ := lb_i h
  refine g_w e20 ?_
  obtain ⟨e1, e2⟩ := rt_i h
  exact g_vret (pc := 26) X Y.2.2.1 (Nat.le_of_ble_eq_true rfl) (Nat.le_of_ble_eq_true rfl) e2 dX5_init_26

def f_X6_init (v0 : Nat) (w : Wd) : Option (Unit × Wd) := (lb_ (wN w) fun a1 =>
 (lb_ (nC w 11 96) fun w3 =>
 (if wK w3 v0 = 6 then
 (lb_ (sR w3 v0 0 (some a1)) fun w6 =>
 (lb_ (wN w6) fun a8 =>
 (lb_ (nC w6 11 96) fun w10 =>
 (if wK w10 v0 = 6 then
 (lb_ (sR w10 v0 7 (some a8)) fun w13 =>
 (lb_ (wN w13) fun a15 =>
 (lb_ (nC w13 11 96) fun w17 =>
 (if wK w17 v0 = 6 then
 (lb_ (sR w17 v0 10 (some a15)) fun w20 =>
 some ((), w20))
 else none))))
 else none))))
 else none)))
theorem c_X6_init {l : Launch} {V : Vt} {v0 : Nat} {w w' : Wd} {r : Unit} (h : f_X6_init v0 w = some (r, w')) : MetW l V yX6_init cX6_init 1 (none) { frames := 1, cells := 3, slots := 288, locals := 20 } w [rf V v0] none w' 3 288 := by
  refine g_start (by decide) (Nat.le_of_ble_eq_true rfl) ?_
  intro t _ hrm X hret hnm
  have Y : Hd_ t V cX6_init 1 RX6 { frames := 1, cells := 3, slots := 288, locals := 20 } (none) "<init>" := ⟨X, hrm, hret, hnm⟩
  refine g_as (lv' := [(0, rf V v0)]) (st' := []) rfl rfl ?_
  unfold f_X6_init at h
  refine g_aload_n (pc := 0) X 0 rfl dX6_init_0 ?_
  refine g_objInit (pc := 1) X q_230 q_88 q_89 (by rw [Y.2.1]; decide) (by rw [Y.2.1]; exact Nat.le_of_ble_eq_true rfl) dX6_init_1 ?_
  refine g_aload_n (pc := 4) X 0 rfl dX6_init_4 ?_
  refine g_bipush (pc := 5) X (v := 96) dX6_init_5 rfl ?_
  refine g_newarr (pc := 7) X (atype := .int) (k := 11) (fty := .int) rfl (by decide) (by decide) rfl ra_int rfl q_155 (N := 96) (by decide) rfl (Nat.le_of_ble_eq_true rfl) (by rw [Y.2.1]; exact Nat.le_of_ble_eq_true rfl) (by rw [Y.2.1]; exact Nat.le_of_ble_eq_true rfl) dX6_init_7 ?_
  obtain ⟨a1, e2, h⟩ := lb_i h
  obtain ⟨w3, e4, h⟩ := lb_i h
  refine g_w e4 ?_
  refine g_topr e2 ?_
  obtain ⟨k5, h⟩ := gd_i h
  refine g_putFR (pc := 9) X FcX6 k5 0 (by decide) rfl q_231 rfl Y.2.2.2 rfl rfl rfl dX6_init_9 ?_
  obtain ⟨w6, e7, h⟩ := lb_i h
  refine g_w e7 ?_
  refine g_aload_n (pc := 12) X 0 rfl dX6_init_12 ?_
  refine g_bipush (pc := 13) X (v := 96) dX6_init_13 rfl ?_
  refine g_newarr (pc := 15) X (atype := .int) (k := 11) (fty := .int) rfl (by decide) (by decide) rfl ra_int rfl q_155 (N := 96) (by decide) rfl (Nat.le_of_ble_eq_true rfl) (by rw [Y.2.1]; exact Nat.le_of_ble_eq_true rfl) (by rw [Y.2.1]; exact Nat.le_of_ble_eq_true rfl) dX6_init_15 ?_
  obtain ⟨a8, e9, h⟩ := lb_i h
  obtain ⟨w10, e11, h⟩ := lb_i h
  refine g_w e11 ?_
  refine g_topr e9 ?_
  obtain ⟨k12, h⟩ := gd_i h
  refine g_putFR (pc := 17) X FcX6 k12 7 (by decide) rfl q_239 rfl Y.2.2.2 rfl rfl rfl dX6_init_17 ?_
  obtain ⟨w13, e14, h⟩ := lb_i h
  refine g_w e14 ?_
  refine g_aload_n (pc := 20) X 0 rfl dX6_init_20 ?_
  refine g_bipush (pc := 21) X (v := 96) dX6_init_21 rfl ?_
  refine g_newarr (pc := 23) X (atype := .int) (k := 11) (fty := .int) rfl (by decide) (by decide) rfl ra_int rfl q_155 (N := 96) (by decide) rfl (Nat.le_of_ble_eq_true rfl) (by rw [Y.2.1]; exact Nat.le_of_ble_eq_true rfl) (by rw [Y.2.1]; exact Nat.le_of_ble_eq_true rfl) dX6_init_23 ?_
  obtain ⟨a15, e16, h⟩ := lb_i h
  obtain ⟨w17, e18, h⟩ := lb_i h
  refine g_w e18 ?_
  refine g_topr e16 ?_
  obtain ⟨k19, h⟩ := gd_i h
  refine g_putFR (pc := 25) X FcX6 k19 10 (by decide) rfl q_242 rfl Y.2.2.2 rfl rfl rfl dX6_init_25 ?_
  obtain ⟨w20, e21, h⟩ := lb_i h
  refine g_w e21 ?_
  obtain ⟨e1, e2⟩ := rt_i h
  exact g_vret (pc := 28) X Y.2.2.1 (Nat.le_of_ble_eq_true rfl) (Nat.le_of_ble_eq_true rfl) e2 dX6_init_28

