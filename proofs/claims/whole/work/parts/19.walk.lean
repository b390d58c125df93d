/-! by program: the pure functions of the methods, and their walks -/
def f_X9_rest (v0 : Nat) (v1 : Int32) (v2 : Int32) (w : Wd) : Option (Int32 × Wd) := (bd2 (f_X9_isSlot v1 w) fun r1 w2 =>
 (if r1 = 0 then
 some ((-1000000001), w2)
 else
 (if wK w2 v0 = 9 then
 (bd1 (wR w2 v0 28) fun a5 =>
 (if aK 11 w2 a5 v1 = true then
 (if (wI w2 a5 (nx v1)) = 0 then
 some ((-1000000011), w2)
 else
 (bd1 (wR w2 v0 28) fun a8 =>
 (if aK 11 w2 a8 v1 = true then
 (if (wI w2 a8 (nx v1)) = 3 then
 (if v2 = 0 then
 some ((-1000000002), w2)
 else
 (if v2 = (-1) then
 some (0, w2)
 else
 (bd1 (wR w2 v0 29) fun a11 =>
 (if aK 11 w2 a11 v1 = true then
 (if ¬ v2 = 0 then
 some (irem (wI w2 a11 (nx v1)) v2, w2)
 else none)
 else none))))
 else
 some ((-1000000012), w2))
 else none)))
 else none))
 else none)))
theorem c_X9_rest {l : Launch} {V : Vt} {v0 : Nat} {v1 : Int32} {v2 : Int32} {w w' : Wd} {r : Int32} (h : f_X9_rest v0 v1 v2 w = some (r, w')) : MetW l V yX9_rest cX9_rest 3 (some .int) { frames := 2, cells := 0, slots := 0, locals := 42 } w [rf V v0, .int v1, .int v2] (some (.int r)) w' 0 0 := by
  refine g_start (by decide) (Nat.le_of_ble_eq_true rfl) ?_
  intro t _ hrm X hret hnm
  have Y : Hd_ t V cX9_rest 3 RX9 { frames := 2, cells := 0, slots := 0, locals := 42 } (some .int) "rest" := ⟨X, hrm, hret, hnm⟩
  refine g_as (lv' := [(0, rf V v0), (1, .int v1), (2, .int v2)]) (st' := []) rfl rfl ?_
  unfold f_X9_rest at h
  refine g_iload_n (pc := 0) X 1 rfl dX9_rest_0 ?_
  obtain ⟨r1, w2, h3, h⟩ := bd2_i h
  refine g_callS (pc := 1) X mk_X9_isSlot q_1471 q_1470 (c_X9_isSlot h3) rfl rfl (by rw [Y.2.1]; decide)  rfl (rest := []) rfl (Nat.le_of_ble_eq_true rfl) (by rw [Y.2.1]; exact ⟨Nat.le_of_ble_eq_true rfl, Nat.le_of_ble_eq_true rfl⟩) dX9_rest_1 (st' := [.int r1]) rfl ?_
  refine g_if_ne (pc := 4) X (tgt := 10) dX9_rest_4 rfl (fun c => ?_) (fun c => ?_)
  · have h := br_n c h
    refine g_aload_n (pc := 10) X 0 rfl dX9_rest_10 ?_
    obtain ⟨k4, h⟩ := gd_i h
    obtain ⟨a5, e6, h⟩ := bd1_i h
    refine g_getR (pc := 11) X FcX9 k4 28 e6 (by decide) rfl q_1048 dX9_rest_11 ?_
    refine g_iload_n (pc := 14) X 1 rfl dX9_rest_14 ?_
    obtain ⟨k7, h⟩ := gd_i h
    refine g_iald (pc := 15) X k7 dX9_rest_15 ?_
    refine g_if_ne (pc := 16) X (tgt := 22) dX9_rest_16 rfl (fun c => ?_) (fun c => ?_)
    · have h := br_n c h
      refine g_aload_n (pc := 22) X 0 rfl dX9_rest_22 ?_
      obtain ⟨a8, e9, h⟩ := bd1_i h
      refine g_getR (pc := 23) X FcX9 k4 28 e9 (by decide) rfl q_1048 dX9_rest_23 ?_
      refine g_iload_n (pc := 26) X 1 rfl dX9_rest_26 ?_
      obtain ⟨k10, h⟩ := gd_i h
      refine g_iald (pc := 27) X k10 dX9_rest_27 ?_
      refine g_iconst (pc := 28) X (v := 3) dX9_rest_28 rfl ?_
      refine g_icmp_eq (pc := 29) X (tgt := 35) dX9_rest_29 rfl (fun c => ?_) (fun c => ?_)
      · have h := br_y c h
        refine g_iload_n (pc := 35) X 2 rfl dX9_rest_35 ?_
        refine g_if_ne (pc := 36) X (tgt := 44) dX9_rest_36 rfl (fun c => ?_) (fun c => ?_)
        · have h := br_n c h
          refine g_iload_n (pc := 44) X 2 rfl dX9_rest_44 ?_
          refine g_iconst (pc := 45) X (v := (-1)) dX9_rest_45 rfl ?_
          refine g_icmp_ne (pc := 46) X (tgt := 53) dX9_rest_46 rfl (fun c => ?_) (fun c => ?_)
          · have h := br_n c h
            refine g_aload_n (pc := 53) X 0 rfl dX9_rest_53 ?_
            obtain ⟨a11, e12, h⟩ := bd1_i h
            refine g_getR (pc := 54) X FcX9 k4 29 e12 (by decide) rfl q_1049 dX9_rest_54 ?_
            refine g_iload_n (pc := 57) X 1 rfl dX9_rest_57 ?_
            obtain ⟨k13, h⟩ := gd_i h
            refine g_iald (pc := 58) X k13 dX9_rest_58 ?_
            refine g_iload_n (pc := 59) X 2 rfl dX9_rest_59 ?_
            obtain ⟨k14, h⟩ := gd_i h
            refine g_irem (pc := 60) X k14 dX9_rest_60 ?_
            obtain ⟨e1, e2⟩ := rt_i h
            exact g_iret (pc := 61) X Y.2.2.1 (Nat.le_of_ble_eq_true rfl) (Nat.le_of_ble_eq_true rfl) e1 e2 dX9_rest_61
          · have h := br_y c h
            refine g_iconst (pc := 49) X (v := 0) dX9_rest_49 rfl ?_
            refine g_goto (pc := 50) X (tgt := 61) dX9_rest_50 rfl ?_
            obtain ⟨e1, e2⟩ := rt_i h
            exact g_iret (pc := 61) X Y.2.2.1 (Nat.le_of_ble_eq_true rfl) (Nat.le_of_ble_eq_true rfl) e1 e2 dX9_rest_61
        · have h := br_y c h
          refine g_ldc (pc := 39) X q_1219 dX9_rest_39 ?_
          refine g_goto (pc := 41) X (tgt := 61) dX9_rest_41 rfl ?_
          obtain ⟨e1, e2⟩ := rt_i h
          exact g_iret (pc := 61) X Y.2.2.1 (Nat.le_of_ble_eq_true rfl) (Nat.le_of_ble_eq_true rfl) e1 e2 dX9_rest_61
      · have h := br_n c h
        refine g_ldc (pc := 32) X q_1214 dX9_rest_32 ?_
        obtain ⟨e1, e2⟩ := rt_i h
        exact g_iret (pc := 34) X Y.2.2.1 (Nat.le_of_ble_eq_true rfl) (Nat.le_of_ble_eq_true rfl) e1 e2 dX9_rest_34
    · have h := br_y c h
      refine g_ldc (pc := 19) X q_1370 dX9_rest_19 ?_
      obtain ⟨e1, e2⟩ := rt_i h
      exact g_iret (pc := 21) X Y.2.2.1 (Nat.le_of_ble_eq_true rfl) (Nat.le_of_ble_eq_true rfl) e1 e2 dX9_rest_21
  · have h := br_y c h
    refine g_ldc (pc := 7) X q_1135 dX9_rest_7 ?_
    obtain ⟨e1, e2⟩ := rt_i h
    exact g_iret (pc := 9) X Y.2.2.1 (Nat.le_of_ble_eq_true rfl) (Nat.le_of_ble_eq_true rfl) e1 e2 dX9_rest_9

def f_X9_tell (v0 : Nat) (v1 : Int32) (w : Wd) : Option (Int32 × Wd) := (if wK w v0 = 9 then
 (if (wI w v0 34) = 60 then
 some ((-1000000003), w)
 else
 (bd1 (wR w v0 33) fun a2 =>
 (if aK 11 w a2 (wI w v0 34) = true then
 (lb_ (sI w a2 (nx (wI w v0 34)) v1) fun w5 =>
 (lb_ (sI w5 v0 34 ((wI w5 v0 34) + 1)) fun w7 =>
 some (wI w7 v0 34, w7)))
 else none)))
 else none)
theorem c_X9_tell {l : Launch} {V : Vt} {v0 : Nat} {v1 : Int32} {w w' : Wd} {r : Int32} (h : f_X9_tell v0 v1 w = some (r, w')) : MetW l V yX9_tell cX9_tell 2 (some .int) { frames := 0, cells := 0, slots := 0, locals := 0 } w [rf V v0, .int v1] (some (.int r)) w' 0 0 := by
  refine g_start (by decide) (Nat.le_of_ble_eq_true rfl) ?_
  intro t _ hrm X hret hnm
  have Y : Hd_ t V cX9_tell 2 RX9 { frames := 0, cells := 0, slots := 0, locals := 0 } (some .int) "tell" := ⟨X, hrm, hret, hnm⟩
  refine g_as (lv' := [(0, rf V v0), (1, .int v1)]) (st' := []) rfl rfl ?_
  unfold f_X9_tell at h
  refine g_aload_n (pc := 0) X 0 rfl dX9_tell_0 ?_
  obtain ⟨k1, h⟩ := gd_i h
  refine g_getI (pc := 1) X FcX9 k1 34 (by decide) rfl q_1054 dX9_tell_1 ?_
  refine g_bipush (pc := 4) X (v := 60) dX9_tell_4 rfl ?_
  refine g_icmp_ne (pc := 6) X (tgt := 12) dX9_tell_6 rfl (fun c => ?_) (fun c => ?_)
  · have h := br_n c h
    refine g_aload_n (pc := 12) X 0 rfl dX9_tell_12 ?_
    obtain ⟨a2, e3, h⟩ := bd1_i h
    refine g_getR (pc := 13) X FcX9 k1 33 e3 (by decide) rfl q_1053 dX9_tell_13 ?_
    refine g_aload_n (pc := 16) X 0 rfl dX9_tell_16 ?_
    refine g_getI (pc := 17) X FcX9 k1 34 (by decide) rfl q_1054 dX9_tell_17 ?_
    refine g_iload_n (pc := 20) X 1 rfl dX9_tell_20 ?_
    obtain ⟨k4, h⟩ := gd_i h
    refine g_iast (pc := 21) X k4 dX9_tell_21 ?_
    obtain ⟨w5, e6, h⟩ := lb_i h
    refine g_w e6 ?_
    refine g_aload_n (pc := 22) X 0 rfl dX9_tell_22 ?_
    refine g_dup (pc := 23) X rfl dX9_tell_23 ?_
    refine g_getI (pc := 24) X FcX9 (kd_I e6 k1) 34 (by decide) rfl q_1054 dX9_tell_24 ?_
    refine g_iconst (pc := 27) X (v := 1) dX9_tell_27 rfl ?_
    refine g_iadd (pc := 28) X dX9_tell_28 ?_
    refine g_putI (pc := 29) X FcX9 (kd_I e6 k1) 34 (by decide) rfl q_1054 rfl rfl rfl dX9_tell_29 ?_
    obtain ⟨w7, e8, h⟩ := lb_i h
    refine g_w e8 ?_
    refine g_aload_n (pc := 32) X 0 rfl dX9_tell_32 ?_
    refine g_getI (pc := 33) X FcX9 (kd_I e8 (kd_I e6 k1)) 34 (by decide) rfl q_1054 dX9_tell_33 ?_
    obtain ⟨e1, e2⟩ := rt_i h
    exact g_iret (pc := 36) X Y.2.2.1 (Nat.le_of_ble_eq_true rfl) (Nat.le_of_ble_eq_true rfl) e1 e2 dX9_tell_36
  · have h := br_y c h
    refine g_ldc (pc := 9) X q_1152 dX9_tell_9 ?_
    obtain ⟨e1, e2⟩ := rt_i h
    exact g_iret (pc := 11) X Y.2.2.1 (Nat.le_of_ble_eq_true rfl) (Nat.le_of_ble_eq_true rfl) e1 e2 dX9_tell_11

def j_X9_check_180  (v0 : Nat) (v2 : Int32) (v3 : Int32) (v4 : Int32) (w : Wd) : Option (Int32 × Wd) := (if wK w v0 = 9 then
 (bd1 (wR w v0 2) fun a35 =>
 (bd1 (wR w v0 0) fun a37 =>
 (bd2 (f_X9_copyAll a35 a37 w) fun r39 w40 =>
 some ((if v4 = v2 then (if v4 = v3 then 0 else 1 + v4 : Int32) else 1 + v4 : Int32), w40))))
 else none)
theorem bj_X9_check_180 {t : Ct} {V : Vt} {r : Int32} {w' : Wd} (Y : Hd_ t V cX9_check 6 RX9 { frames := 8, cells := 0, slots := 0, locals := 186 } (some .int) "check") {v0 : Nat} {v2 : Int32} {v3 : Int32} {v4 : Int32} {w : Wd} (h : j_X9_check_180  v0 v2 v3 v4 w = some (r, w')) : Gd t V 6 0 0 (Qe t V (some (.int r)) w' 0 0) 180 [(0, rf V v0), (2, .int v2), (3, .int v3), (4, .int v4)] [] w := by
  have X := Y.1
  unfold j_X9_check_180 at h
  refine g_aload_n (pc := 180) X 0 rfl dX9_check_180 ?_
  obtain ⟨k34, h⟩ := gd_i h
  obtain ⟨a35, e36, h⟩ := bd1_i h
  refine g_getR (pc := 181) X FcX9 k34 2 e36 (by decide) rfl q_1022 dX9_check_181 ?_
  refine g_aload_n (pc := 184) X 0 rfl dX9_check_184 ?_
  obtain ⟨a37, e38, h⟩ := bd1_i h
  refine g_getR (pc := 185) X FcX9 k34 0 e38 (by decide) rfl q_1020 dX9_check_185 ?_
  obtain ⟨r39, w40, h41, h⟩ := bd2_i h
  refine g_callS (pc := 188) X mk_X9_copyAll q_1494 q_1493 (c_X9_copyAll h41) rfl rfl (by rw [Y.2.1]; decide)  rfl (rest := []) rfl (Nat.le_of_ble_eq_true rfl) (by rw [Y.2.1]; exact ⟨Nat.le_of_ble_eq_true rfl, Nat.le_of_ble_eq_true rfl⟩) dX9_check_188 (st' := []) rfl ?_
  refine g_iload (pc := 191) X 3 rfl dX9_check_191 ?_
  refine g_iload_n (pc := 193) X 1 rfl dX9_check_193 ?_
  have kJ : Gd t V 6 0 0 (Qe t V (some (.int r)) w' 0 0) 211 [(0, rf V v0), (2, .int v2), (3, .int v3), (4, .int v4)] [.int (if v4 = v2 then (if v4 = v3 then 0 else 1 + v4 : Int32) else 1 + v4 : Int32)] w40 := by
    obtain ⟨e1, e2⟩ := rt_i h
    exact g_iret (pc := 211) X Y.2.2.1 (Nat.le_of_ble_eq_true rfl) (Nat.le_of_ble_eq_true rfl) e1 e2 dX9_check_211
  refine g_icmp_ne (pc := 194) X (tgt := 207) dX9_check_194 rfl (fun c0 => ?_) (fun c0 => ?_)
  · refine g_iconst (pc := 207) X (v := 1) dX9_check_207 rfl ?_
    refine g_iload (pc := 208) X 3 rfl dX9_check_208 ?_
    refine g_iadd (pc := 210) X dX9_check_210 ?_
    exact g_top (by rw [if_neg c0]) kJ
  · refine g_iload (pc := 197) X 3 rfl dX9_check_197 ?_
    refine g_iload_n (pc := 199) X 2 rfl dX9_check_199 ?_
    refine g_icmp_ne (pc := 200) X (tgt := 207) dX9_check_200 rfl (fun c1 => ?_) (fun c1 => ?_)
    · refine g_iconst (pc := 207) X (v := 1) dX9_check_207 rfl ?_
      refine g_iload (pc := 208) X 3 rfl dX9_check_208 ?_
      refine g_iadd (pc := 210) X dX9_check_210 ?_
      exact g_top (by rw [if_pos c0, if_neg c1]) kJ
    · refine g_iconst (pc := 203) X (v := 0) dX9_check_203 rfl ?_
      refine g_goto (pc := 204) X (tgt := 211) dX9_check_204 rfl ?_
      exact g_top (by rw [if_pos c0, if_pos c1]) kJ

def j_X9_check_170 (kk79 : Nat → Int32 → Int32 → Int32 → Int32 → Wd → Option (Int32 × Wd)) (v0 : Nat) (v2 : Int32) (v3 : Int32) (v5 : Int32) (s0 : Int32) (w : Wd) : Option (Int32 × Wd) := (lb_ (s0 + 0) fun x48 =>
 (lb_ (v5 + 1) fun x50 =>
 kk79 v0 v2 v3 x48 x50 w))
theorem bj_X9_check_170 {t : Ct} {V : Vt} {r : Int32} {w' : Wd} {kk79 : Nat → Int32 → Int32 → Int32 → Int32 → Wd → Option (Int32 × Wd)} (Y : Hd_ t V cX9_check 6 RX9 { frames := 8, cells := 0, slots := 0, locals := 186 } (some .int) "check") (hk79 : ∀ (u0 : Nat) (u2 : Int32) (u3 : Int32) (u4 : Int32) (u5 : Int32) (w : Wd), kk79 u0 u2 u3 u4 u5 w = some (r, w') → Gd t V 6 0 0 (Qe t V (some (.int r)) w' 0 0) 79 [(0, rf V u0), (2, .int u2), (3, .int u3), (4, .int u4), (5, .int u5)] [] w) {v0 : Nat} {v2 : Int32} {v3 : Int32} {v5 : Int32} {s0 : Int32} {w : Wd} (h : j_X9_check_170 kk79 v0 v2 v3 v5 s0 w = some (r, w')) : Gd t V 6 0 0 (Qe t V (some (.int r)) w' 0 0) 170 [(0, rf V v0), (2, .int v2), (3, .int v3), (5, .int v5)] [.int s0] w := by
  have X := Y.1
  unfold j_X9_check_170 at h
  refine g_iconst (pc := 170) X (v := 0) dX9_check_170 rfl ?_
  refine g_iadd (pc := 171) X dX9_check_171 ?_
  obtain ⟨x48, e49, h⟩ := lb_i h
  refine g_top e49 ?_
  refine g_istore (pc := 172) X (lv' := [(4, .int x48), (0, rf V v0), (2, .int v2), (3, .int v3), (5, .int v5)]) dX9_check_172 (by decide) rfl ?_
  obtain ⟨x50, e51, h⟩ := lb_i h
  refine g_iinc (pc := 174) X 4 rfl dX9_check_174 (v := x50) e51.symm (by decide) (lv' := [(5, .int x50), (4, .int x48), (0, rf V v0), (2, .int v2), (3, .int v3)]) rfl ?_
  refine g_goto (pc := 177) X (tgt := 79) dX9_check_177 rfl ?_
  refine g_sub (lv' := [(0, rf V v0), (2, .int v2), (3, .int v3), (4, .int x48), (5, .int x50)]) [2, 3, 4, 1, 0] rfl ?_
  exact hk79 _ _ _ _ _ _ h

def j_X9_check_127 (kk79 : Nat → Int32 → Int32 → Int32 → Int32 → Wd → Option (Int32 × Wd)) (v0 : Nat) (v2 : Int32) (v3 : Int32) (v5 : Int32) (s0 : Int32) (s1 : Int32) (w : Wd) : Option (Int32 × Wd) := (lb_ (s1 + s0) fun x46 =>
 (if x46 = ((2 * v5) + 1) then
 (if v2 ≤ x46 then
 j_X9_check_170 kk79 v0 v2 v3 v5 x46 w
 else
 (if wK w v0 = 9 then
 (bd1 (wR w v0 33) fun a53 =>
 (if aK 11 w a53 x46 = true then
 (bd1 (wR w v0 0) fun a56 =>
 (if aK 11 w a56 10 = true then
 (lb_ (x46 + (if (wI w a53 (nx x46)) = (wI w a56 (nx 10)) then 1 else 0 : Int32)) fun x59 =>
 (lb_ (v5 + 1) fun x61 =>
 kk79 v0 v2 v3 x59 x61 w))
 else none))
 else none))
 else none))
 else
 j_X9_check_170 kk79 v0 v2 v3 v5 x46 w))
theorem bj_X9_check_127 {t : Ct} {V : Vt} {r : Int32} {w' : Wd} {kk79 : Nat → Int32 → Int32 → Int32 → Int32 → Wd → Option (Int32 × Wd)} (Y : Hd_ t V cX9_check 6 RX9 { frames := 8, cells := 0, slots := 0, locals := 186 } (some .int) "check") (hk79 : ∀ (u0 : Nat) (u2 : Int32) (u3 : Int32) (u4 : Int32) (u5 : Int32) (w : Wd), kk79 u0 u2 u3 u4 u5 w = some (r, w') → Gd t V 6 0 0 (Qe t V (some (.int r)) w' 0 0) 79 [(0, rf V u0), (2, .int u2), (3, .int u3), (4, .int u4), (5, .int u5)] [] w) {v0 : Nat} {v2 : Int32} {v3 : Int32} {v5 : Int32} {s0 : Int32} {s1 : Int32} {w : Wd} (h : j_X9_check_127 kk79 v0 v2 v3 v5 s0 s1 w = some (r, w')) : Gd t V 6 0 0 (Qe t V (some (.int r)) w' 0 0) 127 [(0, rf V v0), (2, .int v2), (3, .int v3), (5, .int v5)] [.int s0, .int s1] w := by
  have X := Y.1
  unfold j_X9_check_127 at h
  refine g_iadd (pc := 127) X dX9_check_127 ?_
  obtain ⟨x46, e47, h⟩ := lb_i h
  refine g_top e47 ?_
  refine g_istore (pc := 128) X (lv' := [(4, .int x46), (0, rf V v0), (2, .int v2), (3, .int v3), (5, .int v5)]) dX9_check_128 (by decide) rfl ?_
  refine g_iload (pc := 130) X 0 rfl dX9_check_130 ?_
  refine g_iload (pc := 132) X 0 rfl dX9_check_132 ?_
  refine g_iconst (pc := 134) X (v := 2) dX9_check_134 rfl ?_
  refine g_iload (pc := 135) X 4 rfl dX9_check_135 ?_
  refine g_imul (pc := 137) X dX9_check_137 ?_
  refine g_iconst (pc := 138) X (v := 1) dX9_check_138 rfl ?_
  refine g_iadd (pc := 139) X dX9_check_139 ?_
  refine g_icmp_ne (pc := 140) X (tgt := 170) dX9_check_140 rfl (fun c => ?_) (fun c => ?_)
  · have h := br_n c h
    refine g_sub (lv' := [(0, rf V v0), (2, .int v2), (3, .int v3), (5, .int v5)]) [1, 2, 3, 4] rfl ?_
    exact bj_X9_check_170 Y hk79 h
  · have h := br_y c h
    refine g_iload (pc := 143) X 0 rfl dX9_check_143 ?_
    refine g_iload_n (pc := 145) X 2 rfl dX9_check_145 ?_
    refine g_icmp_ge (pc := 146) X (tgt := 170) dX9_check_146 rfl (fun c => ?_) (fun c => ?_)
    · have h := br_y c h
      refine g_sub (lv' := [(0, rf V v0), (2, .int v2), (3, .int v3), (5, .int v5)]) [1, 2, 3, 4] rfl ?_
      exact bj_X9_check_170 Y hk79 h
    · have h := br_n c h
      refine g_aload_n (pc := 149) X 1 rfl dX9_check_149 ?_
      obtain ⟨k52, h⟩ := gd_i h
      obtain ⟨a53, e54, h⟩ := bd1_i h
      refine g_getR (pc := 150) X FcX9 k52 33 e54 (by decide) rfl q_1053 dX9_check_150 ?_
      refine g_iload (pc := 153) X 0 rfl dX9_check_153 ?_
      obtain ⟨k55, h⟩ := gd_i h
      refine g_iald (pc := 155) X k55 dX9_check_155 ?_
      refine g_aload_n (pc := 156) X 1 rfl dX9_check_156 ?_
      obtain ⟨a56, e57, h⟩ := bd1_i h
      refine g_getR (pc := 157) X FcX9 k52 0 e57 (by decide) rfl q_1020 dX9_check_157 ?_
      refine g_bipush (pc := 160) X (v := 10) dX9_check_160 rfl ?_
      obtain ⟨k58, h⟩ := gd_i h
      refine g_iald (pc := 162) X k58 dX9_check_162 ?_
      have kJ : Gd t V 6 0 0 (Qe t V (some (.int r)) w' 0 0) 171 [(4, .int x46), (0, rf V v0), (2, .int v2), (3, .int v3), (5, .int v5)] [.int (if (wI w a53 (nx x46)) = (wI w a56 (nx 10)) then 1 else 0 : Int32), .int x46] w := by
        refine g_iadd (pc := 171) X dX9_check_171 ?_
        obtain ⟨x59, e60, h⟩ := lb_i h
        refine g_top e60 ?_
        refine g_istore (pc := 172) X (lv' := [(4, .int x59), (0, rf V v0), (2, .int v2), (3, .int v3), (5, .int v5)]) dX9_check_172 (by decide) rfl ?_
        obtain ⟨x61, e62, h⟩ := lb_i h
        refine g_iinc (pc := 174) X 4 rfl dX9_check_174 (v := x61) e62.symm (by decide) (lv' := [(5, .int x61), (4, .int x59), (0, rf V v0), (2, .int v2), (3, .int v3)]) rfl ?_
        refine g_goto (pc := 177) X (tgt := 79) dX9_check_177 rfl ?_
        refine g_sub (lv' := [(0, rf V v0), (2, .int v2), (3, .int v3), (4, .int x59), (5, .int x61)]) [2, 3, 4, 1, 0] rfl ?_
        exact hk79 _ _ _ _ _ _ h
      refine g_icmp_ne (pc := 163) X (tgt := 170) dX9_check_163 rfl (fun c0 => ?_) (fun c0 => ?_)
      · refine g_iconst (pc := 170) X (v := 0) dX9_check_170 rfl ?_
        exact g_top (by rw [if_neg c0]) kJ
      · refine g_iconst (pc := 166) X (v := 1) dX9_check_166 rfl ?_
        refine g_goto (pc := 167) X (tgt := 171) dX9_check_167 rfl ?_
        exact g_top (by rw [if_pos c0]) kJ

def j_X9_check_126 (kk79 : Nat → Int32 → Int32 → Int32 → Int32 → Wd → Option (Int32 × Wd)) (v0 : Nat) (v2 : Int32) (v3 : Int32) (v5 : Int32) (s0 : Int32) (w : Wd) : Option (Int32 × Wd) := j_X9_check_127 kk79 v0 v2 v3 v5 0 s0 w
theorem bj_X9_check_126 {t : Ct} {V : Vt} {r : Int32} {w' : Wd} {kk79 : Nat → Int32 → Int32 → Int32 → Int32 → Wd → Option (Int32 × Wd)} (Y : Hd_ t V cX9_check 6 RX9 { frames := 8, cells := 0, slots := 0, locals := 186 } (some .int) "check") (hk79 : ∀ (u0 : Nat) (u2 : Int32) (u3 : Int32) (u4 : Int32) (u5 : Int32) (w : Wd), kk79 u0 u2 u3 u4 u5 w = some (r, w') → Gd t V 6 0 0 (Qe t V (some (.int r)) w' 0 0) 79 [(0, rf V u0), (2, .int u2), (3, .int u3), (4, .int u4), (5, .int u5)] [] w) {v0 : Nat} {v2 : Int32} {v3 : Int32} {v5 : Int32} {s0 : Int32} {w : Wd} (h : j_X9_check_126 kk79 v0 v2 v3 v5 s0 w = some (r, w')) : Gd t V 6 0 0 (Qe t V (some (.int r)) w' 0 0) 126 [(0, rf V v0), (2, .int v2), (3, .int v3), (5, .int v5)] [.int s0] w := by
  have X := Y.1
  unfold j_X9_check_126 at h
  refine g_iconst (pc := 126) X (v := 0) dX9_check_126 rfl ?_
  refine g_sub (lv' := [(0, rf V v0), (2, .int v2), (3, .int v3), (5, .int v5)]) [0, 1, 2, 3] rfl ?_
  exact bj_X9_check_127 Y hk79 h

def L_X9_check_79  (n : Nat) (v0 : Nat) (v2 : Int32) (v3 : Int32) (v4 : Int32) (v5 : Int32) (w : Wd) : Option (Int32 × Wd) := match n with
  | 0 => none
  | n + 1 => (if v3 ≤ (2 * v5) then
 j_X9_check_180 v0 v2 v3 v4 w
 else
 (if v4 = (2 * v5) then
 (if wK w v0 = 9 then
 (bd2 (f_X9_minute v0 w) fun r43 w44 =>
 (if v2 ≤ v4 then
 j_X9_check_126 (L_X9_check_79 n) v0 v2 v3 v5 v4 w44
 else
 (if wK w44 v0 = 9 then
 (bd1 (wR w44 v0 33) fun a64 =>
 (if aK 11 w44 a64 v4 = true then
 (bd2 (f_X9_taken v0 w44) fun r67 w68 =>
 (lb_ (v4 + (if (wI w44 a64 (nx v4)) = r67 then 1 else 0 : Int32)) fun x70 =>
 (if x70 = ((2 * v5) + 1) then
 (if v2 ≤ x70 then
 j_X9_check_170 (L_X9_check_79 n) v0 v2 v3 v5 x70 w68
 else
 (if wK w68 v0 = 9 then
 (bd1 (wR w68 v0 33) fun a73 =>
 (if aK 11 w68 a73 x70 = true then
 (bd1 (wR w68 v0 0) fun a76 =>
 (if aK 11 w68 a76 10 = true then
 (lb_ (x70 + (if (wI w68 a73 (nx x70)) = (wI w68 a76 (nx 10)) then 1 else 0 : Int32)) fun x79 =>
 (lb_ (v5 + 1) fun x81 =>
 L_X9_check_79 n v0 v2 v3 x79 x81 w68))
 else none))
 else none))
 else none))
 else
 j_X9_check_170 (L_X9_check_79 n) v0 v2 v3 v5 x70 w68)))
 else none))
 else none)))
 else none)
 else
 j_X9_check_180 v0 v2 v3 v4 w))
theorem bL_X9_check_79 {t : Ct} {V : Vt} {r : Int32} {w' : Wd} (Y : Hd_ t V cX9_check 6 RX9 { frames := 8, cells := 0, slots := 0, locals := 186 } (some .int) "check") : ∀ {n : Nat} {v0 : Nat} {v2 : Int32} {v3 : Int32} {v4 : Int32} {v5 : Int32} {w : Wd}, L_X9_check_79  n v0 v2 v3 v4 v5 w = some (r, w') → Gd t V 6 0 0 (Qe t V (some (.int r)) w' 0 0) 79 [(0, rf V v0), (2, .int v2), (3, .int v3), (4, .int v4), (5, .int v5)] [] w := by
  have X := Y.1
  intro n
  induction n with
  | zero => intro v0 v2 v3 v4 v5 w h; cases h
  | succ n ih0 =>
    have ih : ∀ (v0 : Nat) (v2 : Int32) (v3 : Int32) (v4 : Int32) (v5 : Int32) (w : Wd), L_X9_check_79  n v0 v2 v3 v4 v5 w = some (r, w') → Gd t V 6 0 0 (Qe t V (some (.int r)) w' 0 0) 79 [(0, rf V v0), (2, .int v2), (3, .int v3), (4, .int v4), (5, .int v5)] [] w := fun v0 v2 v3 v4 v5 w h => ih0 h
    clear ih0
    intro v0 v2 v3 v4 v5 w h
    unfold L_X9_check_79 at h
    refine g_iconst (pc := 79) X (v := 2) dX9_check_79 rfl ?_
    refine g_iload (pc := 80) X 4 rfl dX9_check_80 ?_
    refine g_imul (pc := 82) X dX9_check_82 ?_
    refine g_iload_n (pc := 83) X 2 rfl dX9_check_83 ?_
    refine g_icmp_ge (pc := 84) X (tgt := 180) dX9_check_84 rfl (fun c => ?_) (fun c => ?_)
    · have h := br_y c h
      refine g_sub (lv' := [(0, rf V v0), (2, .int v2), (3, .int v3), (4, .int v4)]) [0, 1, 2, 3] rfl ?_
      exact bj_X9_check_180 Y  h
    · have h := br_n c h
      refine g_iload (pc := 87) X 3 rfl dX9_check_87 ?_
      refine g_iconst (pc := 89) X (v := 2) dX9_check_89 rfl ?_
      refine g_iload (pc := 90) X 4 rfl dX9_check_90 ?_
      refine g_imul (pc := 92) X dX9_check_92 ?_
      refine g_icmp_ne (pc := 93) X (tgt := 180) dX9_check_93 rfl (fun c => ?_) (fun c => ?_)
      · have h := br_n c h
        refine g_sub (lv' := [(0, rf V v0), (2, .int v2), (3, .int v3), (4, .int v4)]) [0, 1, 2, 3] rfl ?_
        exact bj_X9_check_180 Y  h
      · have h := br_y c h
        refine g_aload_n (pc := 96) X 0 rfl dX9_check_96 ?_
        obtain ⟨k42, h⟩ := gd_i h
        obtain ⟨r43, w44, h45, h⟩ := bd2_i h
        refine g_callV (pc := 97) X FcX9 k42 mk_X9_minute q_1293 q_44 q_1291 (c_X9_minute h45) rfl rfl (by rw [Y.2.1]; decide)  rfl (rest := []) rfl (Nat.le_of_ble_eq_true rfl) (by rw [Y.2.1]; exact ⟨Nat.le_of_ble_eq_true rfl, Nat.le_of_ble_eq_true rfl⟩) dX9_check_97 (st' := []) rfl ?_
        refine g_iload (pc := 100) X 3 rfl dX9_check_100 ?_
        refine g_iload (pc := 102) X 3 rfl dX9_check_102 ?_
        refine g_iload_n (pc := 104) X 1 rfl dX9_check_104 ?_
        refine g_icmp_ge (pc := 105) X (tgt := 126) dX9_check_105 rfl (fun c => ?_) (fun c => ?_)
        · have h := br_y c h
          refine g_sub (lv' := [(0, rf V v0), (2, .int v2), (3, .int v3), (5, .int v5)]) [0, 1, 2, 4] rfl ?_
          exact bj_X9_check_126 Y (ih) h
        · have h := br_n c h
          refine g_aload_n (pc := 108) X 0 rfl dX9_check_108 ?_
          obtain ⟨k63, h⟩ := gd_i h
          obtain ⟨a64, e65, h⟩ := bd1_i h
          refine g_getR (pc := 109) X FcX9 k63 33 e65 (by decide) rfl q_1053 dX9_check_109 ?_
          refine g_iload (pc := 112) X 3 rfl dX9_check_112 ?_
          obtain ⟨k66, h⟩ := gd_i h
          refine g_iald (pc := 114) X k66 dX9_check_114 ?_
          refine g_aload_n (pc := 115) X 0 rfl dX9_check_115 ?_
          obtain ⟨r67, w68, h69, h⟩ := bd2_i h
          refine g_callV (pc := 116) X FcX9 k63 mk_X9_taken q_1182 q_31 q_1180 (c_X9_taken h69) rfl rfl (by rw [Y.2.1]; decide)  rfl (rest := [.int (wI w44 a64 (nx v4)), .int v4]) rfl (Nat.le_of_ble_eq_true rfl) (by rw [Y.2.1]; exact ⟨Nat.le_of_ble_eq_true rfl, Nat.le_of_ble_eq_true rfl⟩) dX9_check_116 (st' := [.int r67, .int (wI w44 a64 (nx v4)), .int v4]) rfl ?_
          have kJ : Gd t V 6 0 0 (Qe t V (some (.int r)) w' 0 0) 127 [(0, rf V v0), (2, .int v2), (3, .int v3), (4, .int v4), (5, .int v5)] [.int (if (wI w44 a64 (nx v4)) = r67 then 1 else 0 : Int32), .int v4] w68 := by
            refine g_iadd (pc := 127) X dX9_check_127 ?_
            obtain ⟨x70, e71, h⟩ := lb_i h
            refine g_top e71 ?_
            refine g_istore (pc := 128) X (lv' := [(4, .int x70), (0, rf V v0), (2, .int v2), (3, .int v3), (5, .int v5)]) dX9_check_128 (by decide) rfl ?_
            refine g_iload (pc := 130) X 0 rfl dX9_check_130 ?_
            refine g_iload (pc := 132) X 0 rfl dX9_check_132 ?_
            refine g_iconst (pc := 134) X (v := 2) dX9_check_134 rfl ?_
            refine g_iload (pc := 135) X 4 rfl dX9_check_135 ?_
            refine g_imul (pc := 137) X dX9_check_137 ?_
            refine g_iconst (pc := 138) X (v := 1) dX9_check_138 rfl ?_
            refine g_iadd (pc := 139) X dX9_check_139 ?_
            refine g_icmp_ne (pc := 140) X (tgt := 170) dX9_check_140 rfl (fun c => ?_) (fun c => ?_)
            · have h := br_n c h
              refine g_sub (lv' := [(0, rf V v0), (2, .int v2), (3, .int v3), (5, .int v5)]) [1, 2, 3, 4] rfl ?_
              exact bj_X9_check_170 Y (ih) h
            · have h := br_y c h
              refine g_iload (pc := 143) X 0 rfl dX9_check_143 ?_
              refine g_iload_n (pc := 145) X 2 rfl dX9_check_145 ?_
              refine g_icmp_ge (pc := 146) X (tgt := 170) dX9_check_146 rfl (fun c => ?_) (fun c => ?_)
              · have h := br_y c h
                refine g_sub (lv' := [(0, rf V v0), (2, .int v2), (3, .int v3), (5, .int v5)]) [1, 2, 3, 4] rfl ?_
                exact bj_X9_check_170 Y (ih) h
              · have h := br_n c h
                refine g_aload_n (pc := 149) X 1 rfl dX9_check_149 ?_
                obtain ⟨k72, h⟩ := gd_i h
                obtain ⟨a73, e74, h⟩ := bd1_i h
                refine g_getR (pc := 150) X FcX9 k72 33 e74 (by decide) rfl q_1053 dX9_check_150 ?_
                refine g_iload (pc := 153) X 0 rfl dX9_check_153 ?_
                obtain ⟨k75, h⟩ := gd_i h
                refine g_iald (pc := 155) X k75 dX9_check_155 ?_
                refine g_aload_n (pc := 156) X 1 rfl dX9_check_156 ?_
                obtain ⟨a76, e77, h⟩ := bd1_i h
                refine g_getR (pc := 157) X FcX9 k72 0 e77 (by decide) rfl q_1020 dX9_check_157 ?_
                refine g_bipush (pc := 160) X (v := 10) dX9_check_160 rfl ?_
                obtain ⟨k78, h⟩ := gd_i h
                refine g_iald (pc := 162) X k78 dX9_check_162 ?_
                have kJ : Gd t V 6 0 0 (Qe t V (some (.int r)) w' 0 0) 171 [(4, .int x70), (0, rf V v0), (2, .int v2), (3, .int v3), (5, .int v5)] [.int (if (wI w68 a73 (nx x70)) = (wI w68 a76 (nx 10)) then 1 else 0 : Int32), .int x70] w68 := by
                  refine g_iadd (pc := 171) X dX9_check_171 ?_
                  obtain ⟨x79, e80, h⟩ := lb_i h
                  refine g_top e80 ?_
                  refine g_istore (pc := 172) X (lv' := [(4, .int x79), (0, rf V v0), (2, .int v2), (3, .int v3), (5, .int v5)]) dX9_check_172 (by decide) rfl ?_
                  obtain ⟨x81, e82, h⟩ := lb_i h
                  refine g_iinc (pc := 174) X 4 rfl dX9_check_174 (v := x81) e82.symm (by decide) (lv' := [(5, .int x81), (4, .int x79), (0, rf V v0), (2, .int v2), (3, .int v3)]) rfl ?_
                  refine g_goto (pc := 177) X (tgt := 79) dX9_check_177 rfl ?_
                  refine g_sub (lv' := [(0, rf V v0), (2, .int v2), (3, .int v3), (4, .int x79), (5, .int x81)]) [2, 3, 4, 1, 0] rfl ?_
                  exact ih _ _ _ _ _ _ h
                refine g_icmp_ne (pc := 163) X (tgt := 170) dX9_check_163 rfl (fun c0 => ?_) (fun c0 => ?_)
                · refine g_iconst (pc := 170) X (v := 0) dX9_check_170 rfl ?_
                  exact g_top (by rw [if_neg c0]) kJ
                · refine g_iconst (pc := 166) X (v := 1) dX9_check_166 rfl ?_
                  refine g_goto (pc := 167) X (tgt := 171) dX9_check_167 rfl ?_
                  exact g_top (by rw [if_pos c0]) kJ
          refine g_icmp_ne (pc := 119) X (tgt := 126) dX9_check_119 rfl (fun c0 => ?_) (fun c0 => ?_)
          · refine g_iconst (pc := 126) X (v := 0) dX9_check_126 rfl ?_
            exact g_top (by rw [if_neg c0]) kJ
          · refine g_iconst (pc := 122) X (v := 1) dX9_check_122 rfl ?_
            refine g_goto (pc := 123) X (tgt := 127) dX9_check_123 rfl ?_
            exact g_top (by rw [if_pos c0]) kJ

def f_X9_check (v0 : Nat) (v1 : Int32) (w : Wd) : Option (Int32 × Wd) := (if wK w v0 = 9 then
 (lb_ (wI w v0 34) fun x2 =>
 (lb_ (sI w v0 34 0) fun w4 =>
 (bd2 (f_X9_in v1 1 30 w4) fun r6 w7 =>
 (if r6 = 0 then
 some ((-1000000001), w7)
 else
 (if wK w7 v0 = 9 then
 (if (wI w7 v0 3) = 0 then
 some ((-1000000002), w7)
 else
 (bd1 (wR w7 v0 0) fun a10 =>
 (bd1 (wR w7 v0 2) fun a12 =>
 (bd2 (f_X9_copyAll a10 a12 w7) fun r14 w15 =>
 (if wK w15 v0 = 9 then
 (bd1 (wR w15 v0 1) fun a18 =>
 (bd1 (wR w15 v0 0) fun a20 =>
 (bd2 (f_X9_copyAll a18 a20 w15) fun r22 w23 =>
 (if wK w23 v0 = 9 then
 (bd1 (wR w23 v0 0) fun a26 =>
 (if aK 11 w23 a26 5 = true then
 (bd2 (f_X9_within (9999 - (wI w23 a26 (nx 5))) 0 v1 w23) fun r29 w30 =>
 (lb_ (2 * r29) fun x32 =>
 L_X9_check_79 FU v0 x2 x32 0 0 w30))
 else none))
 else none))))
 else none)))))
 else none)))))
 else none)
theorem c_X9_check {l : Launch} {V : Vt} {v0 : Nat} {v1 : Int32} {w w' : Wd} {r : Int32} (h : f_X9_check v0 v1 w = some (r, w')) : MetW l V yX9_check cX9_check 6 (some .int) { frames := 8, cells := 0, slots := 0, locals := 186 } w [rf V v0, .int v1] (some (.int r)) w' 0 0 := by
  refine g_start (by decide) (Nat.le_of_ble_eq_true rfl) ?_
  intro t _ hrm X hret hnm
  have Y : Hd_ t V cX9_check 6 RX9 { frames := 8, cells := 0, slots := 0, locals := 186 } (some .int) "check" := ⟨X, hrm, hret, hnm⟩
  refine g_as (lv' := [(0, rf V v0), (1, .int v1)]) (st' := []) rfl rfl ?_
  unfold f_X9_check at h
  refine g_aload_n (pc := 0) X 0 rfl dX9_check_0 ?_
  obtain ⟨k1, h⟩ := gd_i h
  refine g_getI (pc := 1) X FcX9 k1 34 (by decide) rfl q_1054 dX9_check_1 ?_
  obtain ⟨x2, e3, h⟩ := lb_i h
  refine g_top e3 ?_
  refine g_istore_n (pc := 4) X (lv' := [(2, .int x2), (0, rf V v0), (1, .int v1)]) dX9_check_4 (by decide) rfl ?_
  refine g_aload_n (pc := 5) X 1 rfl dX9_check_5 ?_
  refine g_iconst (pc := 6) X (v := 0) dX9_check_6 rfl ?_
  refine g_putI (pc := 7) X FcX9 k1 34 (by decide) rfl q_1054 rfl rfl rfl dX9_check_7 ?_
  obtain ⟨w4, e5, h⟩ := lb_i h
  refine g_w e5 ?_
  refine g_iload_n (pc := 10) X 2 rfl dX9_check_10 ?_
  refine g_iconst (pc := 11) X (v := 1) dX9_check_11 rfl ?_
  refine g_bipush (pc := 12) X (v := 30) dX9_check_12 rfl ?_
  obtain ⟨r6, w7, h8, h⟩ := bd2_i h
  refine g_callS (pc := 14) X mk_X9_in q_1133 q_1132 (c_X9_in h8) rfl rfl (by rw [Y.2.1]; decide)  rfl (rest := []) rfl (Nat.le_of_ble_eq_true rfl) (by rw [Y.2.1]; exact ⟨Nat.le_of_ble_eq_true rfl, Nat.le_of_ble_eq_true rfl⟩) dX9_check_14 (st' := [.int r6]) rfl ?_
  refine g_if_ne (pc := 17) X (tgt := 23) dX9_check_17 rfl (fun c => ?_) (fun c => ?_)
  · have h := br_n c h
    refine g_aload_n (pc := 23) X 1 rfl dX9_check_23 ?_
    obtain ⟨k9, h⟩ := gd_i h
    refine g_getI (pc := 24) X FcX9 k9 3 (by decide) rfl q_1023 dX9_check_24 ?_
    refine g_if_ne (pc := 27) X (tgt := 33) dX9_check_27 rfl (fun c => ?_) (fun c => ?_)
    · have h := br_n c h
      refine g_aload_n (pc := 33) X 1 rfl dX9_check_33 ?_
      obtain ⟨a10, e11, h⟩ := bd1_i h
      refine g_getR (pc := 34) X FcX9 k9 0 e11 (by decide) rfl q_1020 dX9_check_34 ?_
      refine g_aload_n (pc := 37) X 1 rfl dX9_check_37 ?_
      obtain ⟨a12, e13, h⟩ := bd1_i h
      refine g_getR (pc := 38) X FcX9 k9 2 e13 (by decide) rfl q_1022 dX9_check_38 ?_
      obtain ⟨r14, w15, h16, h⟩ := bd2_i h
      refine g_callS (pc := 41) X mk_X9_copyAll q_1494 q_1493 (c_X9_copyAll h16) rfl rfl (by rw [Y.2.1]; decide)  rfl (rest := []) rfl (Nat.le_of_ble_eq_true rfl) (by rw [Y.2.1]; exact ⟨Nat.le_of_ble_eq_true rfl, Nat.le_of_ble_eq_true rfl⟩) dX9_check_41 (st' := []) rfl ?_
      refine g_aload_n (pc := 44) X 1 rfl dX9_check_44 ?_
      obtain ⟨k17, h⟩ := gd_i h
      obtain ⟨a18, e19, h⟩ := bd1_i h
      refine g_getR (pc := 45) X FcX9 k17 1 e19 (by decide) rfl q_1021 dX9_check_45 ?_
      refine g_aload_n (pc := 48) X 1 rfl dX9_check_48 ?_
      obtain ⟨a20, e21, h⟩ := bd1_i h
      refine g_getR (pc := 49) X FcX9 k17 0 e21 (by decide) rfl q_1020 dX9_check_49 ?_
      obtain ⟨r22, w23, h24, h⟩ := bd2_i h
      refine g_callS (pc := 52) X mk_X9_copyAll q_1494 q_1493 (c_X9_copyAll h24) rfl rfl (by rw [Y.2.1]; decide)  rfl (rest := []) rfl (Nat.le_of_ble_eq_true rfl) (by rw [Y.2.1]; exact ⟨Nat.le_of_ble_eq_true rfl, Nat.le_of_ble_eq_true rfl⟩) dX9_check_52 (st' := []) rfl ?_
      refine g_iconst (pc := 55) X (v := 2) dX9_check_55 rfl ?_
      refine g_sipush (pc := 56) X (v := 9999) dX9_check_56 rfl ?_
      refine g_aload_n (pc := 59) X 1 rfl dX9_check_59 ?_
      obtain ⟨k25, h⟩ := gd_i h
      obtain ⟨a26, e27, h⟩ := bd1_i h
      refine g_getR (pc := 60) X FcX9 k25 0 e27 (by decide) rfl q_1020 dX9_check_60 ?_
      refine g_iconst (pc := 63) X (v := 5) dX9_check_63 rfl ?_
      obtain ⟨k28, h⟩ := gd_i h
      refine g_iald (pc := 64) X k28 dX9_check_64 ?_
      refine g_isub (pc := 65) X dX9_check_65 ?_
      refine g_iconst (pc := 66) X (v := 0) dX9_check_66 rfl ?_
      refine g_iload_n (pc := 67) X 2 rfl dX9_check_67 ?_
      obtain ⟨r29, w30, h31, h⟩ := bd2_i h
      refine g_callS (pc := 68) X mk_X9_within q_1248 q_1247 (c_X9_within h31) rfl rfl (by rw [Y.2.1]; decide)  rfl (rest := [.int 2]) rfl (Nat.le_of_ble_eq_true rfl) (by rw [Y.2.1]; exact ⟨Nat.le_of_ble_eq_true rfl, Nat.le_of_ble_eq_true rfl⟩) dX9_check_68 (st' := [.int r29, .int 2]) rfl ?_
      refine g_imul (pc := 71) X dX9_check_71 ?_
      obtain ⟨x32, e33, h⟩ := lb_i h
      refine g_top e33 ?_
      refine g_istore_n (pc := 72) X (lv' := [(3, .int x32), (2, .int x2), (0, rf V v0), (1, .int v1)]) dX9_check_72 (by decide) rfl ?_
      refine g_iconst (pc := 73) X (v := 0) dX9_check_73 rfl ?_
      refine g_istore (pc := 74) X (lv' := [(4, .int 0), (3, .int x32), (2, .int x2), (0, rf V v0), (1, .int v1)]) dX9_check_74 (by decide) rfl ?_
      refine g_iconst (pc := 76) X (v := 0) dX9_check_76 rfl ?_
      refine g_istore (pc := 77) X (lv' := [(5, .int 0), (4, .int 0), (3, .int x32), (2, .int x2), (0, rf V v0), (1, .int v1)]) dX9_check_77 (by decide) rfl ?_
      refine g_sub (lv' := [(0, rf V v0), (2, .int x2), (3, .int x32), (4, .int 0), (5, .int 0)]) [4, 3, 2, 1, 0] rfl ?_
      exact bL_X9_check_79 Y  h
    · have h := br_y c h
      refine g_ldc (pc := 30) X q_1219 dX9_check_30 ?_
      obtain ⟨e1, e2⟩ := rt_i h
      exact g_iret (pc := 32) X Y.2.2.1 (Nat.le_of_ble_eq_true rfl) (Nat.le_of_ble_eq_true rfl) e1 e2 dX9_check_32
  · have h := br_y c h
    refine g_ldc (pc := 20) X q_1135 dX9_check_20 ?_
    obtain ⟨e1, e2⟩ := rt_i h
    exact g_iret (pc := 22) X Y.2.2.1 (Nat.le_of_ble_eq_true rfl) (Nat.le_of_ble_eq_true rfl) e1 e2 dX9_check_22

def f_X9_keep (v0 : Nat) (w : Wd) : Option (Int32 × Wd) := (if wK w v0 = 9 then
 (bd1 (wR w v0 0) fun a2 =>
 (bd1 (wR w v0 1) fun a4 =>
 (bd2 (f_X9_copyAll a2 a4 w) fun r6 w7 =>
 (if wK w7 v0 = 9 then
 (lb_ (sI w7 v0 3 1) fun w10 =>
 (bd1 (wR w10 v0 0) fun a12 =>
 (if aK 11 w10 a12 1 = true then
 some (wI w10 a12 (nx 1), w10)
 else none)))
 else none))))
 else none)
theorem c_X9_keep {l : Launch} {V : Vt} {v0 : Nat} {w w' : Wd} {r : Int32} (h : f_X9_keep v0 w = some (r, w')) : MetW l V yX9_keep cX9_keep 1 (some .int) { frames := 1, cells := 0, slots := 0, locals := 22 } w [rf V v0] (some (.int r)) w' 0 0 := by
  refine g_start (by decide) (Nat.le_of_ble_eq_true rfl) ?_
  intro t _ hrm X hret hnm
  have Y : Hd_ t V cX9_keep 1 RX9 { frames := 1, cells := 0, slots := 0, locals := 22 } (some .int) "keep" := ⟨X, hrm, hret, hnm⟩
  refine g_as (lv' := [(0, rf V v0)]) (st' := []) rfl rfl ?_
  unfold f_X9_keep at h
  refine g_aload_n (pc := 0) X 0 rfl dX9_keep_0 ?_
  obtain ⟨k1, h⟩ := gd_i h
  obtain ⟨a2, e3, h⟩ := bd1_i h
  refine g_getR (pc := 1) X FcX9 k1 0 e3 (by decide) rfl q_1020 dX9_keep_1 ?_
  refine g_aload_n (pc := 4) X 0 rfl dX9_keep_4 ?_
  obtain ⟨a4, e5, h⟩ := bd1_i h
  refine g_getR (pc := 5) X FcX9 k1 1 e5 (by decide) rfl q_1021 dX9_keep_5 ?_
  obtain ⟨r6, w7, h8, h⟩ := bd2_i h
  refine g_callS (pc := 8) X mk_X9_copyAll q_1494 q_1493 (c_X9_copyAll h8) rfl rfl (by rw [Y.2.1]; decide)  rfl (rest := []) rfl (Nat.le_of_ble_eq_true rfl) (by rw [Y.2.1]; exact ⟨Nat.le_of_ble_eq_true rfl, Nat.le_of_ble_eq_true rfl⟩) dX9_keep_8 (st' := []) rfl ?_
  refine g_aload_n (pc := 11) X 0 rfl dX9_keep_11 ?_
  refine g_iconst (pc := 12) X (v := 1) dX9_keep_12 rfl ?_
  obtain ⟨k9, h⟩ := gd_i h
  refine g_putI (pc := 13) X FcX9 k9 3 (by decide) rfl q_1023 rfl (bz_n (Or.inr rfl)) rfl dX9_keep_13 ?_
  obtain ⟨w10, e11, h⟩ := lb_i h
  refine g_w e11 ?_
  refine g_aload_n (pc := 16) X 0 rfl dX9_keep_16 ?_
  obtain ⟨a12, e13, h⟩ := bd1_i h
  refine g_getR (pc := 17) X FcX9 (kd_I e11 k9) 0 e13 (by decide) rfl q_1020 dX9_keep_17 ?_
  refine g_iconst (pc := 20) X (v := 1) dX9_keep_20 rfl ?_
  obtain ⟨k14, h⟩ := gd_i h
  refine g_iald (pc := 21) X k14 dX9_keep_21 ?_
  obtain ⟨e1, e2⟩ := rt_i h
  exact g_iret (pc := 22) X Y.2.2.1 (Nat.le_of_ble_eq_true rfl) (Nat.le_of_ble_eq_true rfl) e1 e2 dX9_keep_22

def f_X9_back (v0 : Nat) (w : Wd) : Option (Int32 × Wd) := (if wK w v0 = 9 then
 (if (wI w v0 3) = 0 then
 some ((-1000000002), w)
 else
 (bd1 (wR w v0 1) fun a2 =>
 (bd1 (wR w v0 0) fun a4 =>
 (bd2 (f_X9_copyAll a2 a4 w) fun r6 w7 =>
 (if wK w7 v0 = 9 then
 (bd1 (wR w7 v0 0) fun a10 =>
 (if aK 11 w7 a10 1 = true then
 some (wI w7 a10 (nx 1), w7)
 else none))
 else none)))))
 else none)
theorem c_X9_back {l : Launch} {V : Vt} {v0 : Nat} {w w' : Wd} {r : Int32} (h : f_X9_back v0 w = some (r, w')) : MetW l V yX9_back cX9_back 1 (some .int) { frames := 1, cells := 0, slots := 0, locals := 22 } w [rf V v0] (some (.int r)) w' 0 0 := by
  refine g_start (by decide) (Nat.le_of_ble_eq_true rfl) ?_
  intro t _ hrm X hret hnm
  have Y : Hd_ t V cX9_back 1 RX9 { frames := 1, cells := 0, slots := 0, locals := 22 } (some .int) "back" := ⟨X, hrm, hret, hnm⟩
  refine g_as (lv' := [(0, rf V v0)]) (st' := []) rfl rfl ?_
  unfold f_X9_back at h
  refine g_aload_n (pc := 0) X 0 rfl dX9_back_0 ?_
  obtain ⟨k1, h⟩ := gd_i h
  refine g_getI (pc := 1) X FcX9 k1 3 (by decide) rfl q_1023 dX9_back_1 ?_
  refine g_if_ne (pc := 4) X (tgt := 10) dX9_back_4 rfl (fun c => ?_) (fun c => ?_)
  · have h := br_n c h
    refine g_aload_n (pc := 10) X 0 rfl dX9_back_10 ?_
    obtain ⟨a2, e3, h⟩ := bd1_i h
    refine g_getR (pc := 11) X FcX9 k1 1 e3 (by decide) rfl q_1021 dX9_back_11 ?_
    refine g_aload_n (pc := 14) X 0 rfl dX9_back_14 ?_
    obtain ⟨a4, e5, h⟩ := bd1_i h
    refine g_getR (pc := 15) X FcX9 k1 0 e5 (by decide) rfl q_1020 dX9_back_15 ?_
    obtain ⟨r6, w7, h8, h⟩ := bd2_i h
    refine g_callS (pc := 18) X mk_X9_copyAll q_1494 q_1493 (c_X9_copyAll h8) rfl rfl (by rw [Y.2.1]; decide)  rfl (rest := []) rfl (Nat.le_of_ble_eq_true rfl) (by rw [Y.2.1]; exact ⟨Nat.le_of_ble_eq_true rfl, Nat.le_of_ble_eq_true rfl⟩) dX9_back_18 (st' := []) rfl ?_
    refine g_aload_n (pc := 21) X 0 rfl dX9_back_21 ?_
    obtain ⟨k9, h⟩ := gd_i h
    obtain ⟨a10, e11, h⟩ := bd1_i h
    refine g_getR (pc := 22) X FcX9 k9 0 e11 (by decide) rfl q_1020 dX9_back_22 ?_
    refine g_iconst (pc := 25) X (v := 1) dX9_back_25 rfl ?_
    obtain ⟨k12, h⟩ := gd_i h
    refine g_iald (pc := 26) X k12 dX9_back_26 ?_
    obtain ⟨e1, e2⟩ := rt_i h
    exact g_iret (pc := 27) X Y.2.2.1 (Nat.le_of_ble_eq_true rfl) (Nat.le_of_ble_eq_true rfl) e1 e2 dX9_back_27
  · have h := br_y c h
    refine g_ldc (pc := 7) X q_1219 dX9_back_7 ?_
    obtain ⟨e1, e2⟩ := rt_i h
    exact g_iret (pc := 9) X Y.2.2.1 (Nat.le_of_ble_eq_true rfl) (Nat.le_of_ble_eq_true rfl) e1 e2 dX9_back_9

def f_X9_count (v0 : Nat) (v1 : Int32) (w : Wd) : Option (Int32 × Wd) := (bd2 (f_X9_in v1 1 8 w) fun r1 w2 =>
 (if r1 = 0 then
 (if v1 = 0 then
 (if wK w2 v0 = 9 then
 (bd1 (wR w2 v0 0) fun a6 =>
 (if aK 11 w2 a6 1 = true then
 some (wI w2 a6 (nx 1), w2)
 else none))
 else none)
 else
 (if v1 = 1 then
 some ((-1000000001), w2)
 else
 (if v1 = 2 then
 some ((-1000000001), w2)
 else
 (if v1 = 3 then
 some ((-1000000001), w2)
 else
 (if v1 = 4 then
 some ((-1000000001), w2)
 else
 (if v1 = 5 then
 some ((-1000000001), w2)
 else
 (if v1 = 6 then
 some ((-1000000001), w2)
 else
 (if v1 = 7 then
 some ((-1000000001), w2)
 else
 (if v1 = 8 then
 some ((-1000000001), w2)
 else
 (if v1 = 9 then
 (if wK w2 v0 = 9 then
 (bd1 (wR w2 v0 0) fun a19 =>
 (if aK 11 w2 a19 11 = true then
 some (wI w2 a19 (nx 11), w2)
 else none))
 else none)
 else
 (if v1 = 10 then
 (if wK w2 v0 = 9 then
 some (wI w2 v0 34, w2)
 else none)
 else
 (if v1 = 11 then
 (if wK w2 v0 = 9 then
 some (wI w2 v0 8, w2)
 else none)
 else
 (if v1 = 12 then
 (if wK w2 v0 = 9 then
 (bd1 (wR w2 v0 0) fun a28 =>
 (if aK 11 w2 a28 0 = true then
 some (wI w2 a28 (nx 0), w2)
 else none))
 else none)
 else
 some ((-1000000001), w2))))))))))))))
 else
 (if wK w2 v0 = 9 then
 (bd1 (wR w2 v0 0) fun a32 =>
 (if aK 11 w2 a32 ((2 + v1) - 1) = true then
 some (wI w2 a32 (nx ((2 + v1) - 1)), w2)
 else none))
 else none)))
theorem c_X9_count {l : Launch} {V : Vt} {v0 : Nat} {v1 : Int32} {w w' : Wd} {r : Int32} (h : f_X9_count v0 v1 w = some (r, w')) : MetW l V yX9_count cX9_count 2 (some .int) { frames := 1, cells := 0, slots := 0, locals := 22 } w [rf V v0, .int v1] (some (.int r)) w' 0 0 := by
  refine g_start (by decide) (Nat.le_of_ble_eq_true rfl) ?_
  intro t _ hrm X hret hnm
  have Y : Hd_ t V cX9_count 2 RX9 { frames := 1, cells := 0, slots := 0, locals := 22 } (some .int) "count" := ⟨X, hrm, hret, hnm⟩
  refine g_as (lv' := [(0, rf V v0), (1, .int v1)]) (st' := []) rfl rfl ?_
  unfold f_X9_count at h
  refine g_iload_n (pc := 0) X 1 rfl dX9_count_0 ?_
  refine g_iconst (pc := 1) X (v := 1) dX9_count_1 rfl ?_
  refine g_bipush (pc := 2) X (v := 8) dX9_count_2 rfl ?_
  obtain ⟨r1, w2, h3, h⟩ := bd2_i h
  refine g_callS (pc := 4) X mk_X9_in q_1133 q_1132 (c_X9_in h3) rfl rfl (by rw [Y.2.1]; decide)  rfl (rest := []) rfl (Nat.le_of_ble_eq_true rfl) (by rw [Y.2.1]; exact ⟨Nat.le_of_ble_eq_true rfl, Nat.le_of_ble_eq_true rfl⟩) dX9_count_4 (st' := [.int r1]) rfl ?_
  refine g_if_eq (pc := 7) X (tgt := 21) dX9_count_7 rfl (fun c => ?_) (fun c => ?_)
  · have h := br_y c h
    refine g_iload_n (pc := 21) X 1 rfl dX9_count_21 ?_
    by_cases c4 : v1 = 0
    · have h := br_y c4 h
      refine g_tswI (pc := 22) X 0 (tgt := 88) dX9_count_22 c4 (by decide) (by decide) rfl rfl ?_
      refine g_aload_n (pc := 88) X 0 rfl dX9_count_88 ?_
      obtain ⟨k5, h⟩ := gd_i h
      obtain ⟨a6, e7, h⟩ := bd1_i h
      refine g_getR (pc := 89) X FcX9 k5 0 e7 (by decide) rfl q_1020 dX9_count_89 ?_
      refine g_iconst (pc := 92) X (v := 1) dX9_count_92 rfl ?_
      obtain ⟨k8, h⟩ := gd_i h
      refine g_iald (pc := 93) X k8 dX9_count_93 ?_
      obtain ⟨e1, e2⟩ := rt_i h
      exact g_iret (pc := 94) X Y.2.2.1 (Nat.le_of_ble_eq_true rfl) (Nat.le_of_ble_eq_true rfl) e1 e2 dX9_count_94
    · have h := br_n c4 h
      by_cases c9 : v1 = 1
      · have h := br_y c9 h
        refine g_tswI (pc := 22) X 1 (tgt := 120) dX9_count_22 c9 (by decide) (by decide) rfl rfl ?_
        refine g_ldc (pc := 120) X q_1135 dX9_count_120 ?_
        obtain ⟨e1, e2⟩ := rt_i h
        exact g_iret (pc := 122) X Y.2.2.1 (Nat.le_of_ble_eq_true rfl) (Nat.le_of_ble_eq_true rfl) e1 e2 dX9_count_122
      · have h := br_n c9 h
        by_cases c10 : v1 = 2
        · have h := br_y c10 h
          refine g_tswI (pc := 22) X 2 (tgt := 120) dX9_count_22 c10 (by decide) (by decide) rfl rfl ?_
          refine g_ldc (pc := 120) X q_1135 dX9_count_120 ?_
          obtain ⟨e1, e2⟩ := rt_i h
          exact g_iret (pc := 122) X Y.2.2.1 (Nat.le_of_ble_eq_true rfl) (Nat.le_of_ble_eq_true rfl) e1 e2 dX9_count_122
        · have h := br_n c10 h
          by_cases c11 : v1 = 3
          · have h := br_y c11 h
            refine g_tswI (pc := 22) X 3 (tgt := 120) dX9_count_22 c11 (by decide) (by decide) rfl rfl ?_
            refine g_ldc (pc := 120) X q_1135 dX9_count_120 ?_
            obtain ⟨e1, e2⟩ := rt_i h
            exact g_iret (pc := 122) X Y.2.2.1 (Nat.le_of_ble_eq_true rfl) (Nat.le_of_ble_eq_true rfl) e1 e2 dX9_count_122
          · have h := br_n c11 h
            by_cases c12 : v1 = 4
            · have h := br_y c12 h
              refine g_tswI (pc := 22) X 4 (tgt := 120) dX9_count_22 c12 (by decide) (by decide) rfl rfl ?_
              refine g_ldc (pc := 120) X q_1135 dX9_count_120 ?_
              obtain ⟨e1, e2⟩ := rt_i h
              exact g_iret (pc := 122) X Y.2.2.1 (Nat.le_of_ble_eq_true rfl) (Nat.le_of_ble_eq_true rfl) e1 e2 dX9_count_122
            · have h := br_n c12 h
              by_cases c13 : v1 = 5
              · have h := br_y c13 h
                refine g_tswI (pc := 22) X 5 (tgt := 120) dX9_count_22 c13 (by decide) (by decide) rfl rfl ?_
                refine g_ldc (pc := 120) X q_1135 dX9_count_120 ?_
                obtain ⟨e1, e2⟩ := rt_i h
                exact g_iret (pc := 122) X Y.2.2.1 (Nat.le_of_ble_eq_true rfl) (Nat.le_of_ble_eq_true rfl) e1 e2 dX9_count_122
              · have h := br_n c13 h
                by_cases c14 : v1 = 6
                · have h := br_y c14 h
                  refine g_tswI (pc := 22) X 6 (tgt := 120) dX9_count_22 c14 (by decide) (by decide) rfl rfl ?_
                  refine g_ldc (pc := 120) X q_1135 dX9_count_120 ?_
                  obtain ⟨e1, e2⟩ := rt_i h
                  exact g_iret (pc := 122) X Y.2.2.1 (Nat.le_of_ble_eq_true rfl) (Nat.le_of_ble_eq_true rfl) e1 e2 dX9_count_122
                · have h := br_n c14 h
                  by_cases c15 : v1 = 7
                  · have h := br_y c15 h
                    refine g_tswI (pc := 22) X 7 (tgt := 120) dX9_count_22 c15 (by decide) (by decide) rfl rfl ?_
                    refine g_ldc (pc := 120) X q_1135 dX9_count_120 ?_
                    obtain ⟨e1, e2⟩ := rt_i h
                    exact g_iret (pc := 122) X Y.2.2.1 (Nat.le_of_ble_eq_true rfl) (Nat.le_of_ble_eq_true rfl) e1 e2 dX9_count_122
                  · have h := br_n c15 h
                    by_cases c16 : v1 = 8
                    · have h := br_y c16 h
                      refine g_tswI (pc := 22) X 8 (tgt := 120) dX9_count_22 c16 (by decide) (by decide) rfl rfl ?_
                      refine g_ldc (pc := 120) X q_1135 dX9_count_120 ?_
                      obtain ⟨e1, e2⟩ := rt_i h
                      exact g_iret (pc := 122) X Y.2.2.1 (Nat.le_of_ble_eq_true rfl) (Nat.le_of_ble_eq_true rfl) e1 e2 dX9_count_122
                    · have h := br_n c16 h
                      by_cases c17 : v1 = 9
                      · have h := br_y c17 h
                        refine g_tswI (pc := 22) X 9 (tgt := 95) dX9_count_22 c17 (by decide) (by decide) rfl rfl ?_
                        refine g_aload_n (pc := 95) X 0 rfl dX9_count_95 ?_
                        obtain ⟨k18, h⟩ := gd_i h
                        obtain ⟨a19, e20, h⟩ := bd1_i h
                        refine g_getR (pc := 96) X FcX9 k18 0 e20 (by decide) rfl q_1020 dX9_count_96 ?_
                        refine g_bipush (pc := 99) X (v := 11) dX9_count_99 rfl ?_
                        obtain ⟨k21, h⟩ := gd_i h
                        refine g_iald (pc := 101) X k21 dX9_count_101 ?_
                        obtain ⟨e1, e2⟩ := rt_i h
                        exact g_iret (pc := 102) X Y.2.2.1 (Nat.le_of_ble_eq_true rfl) (Nat.le_of_ble_eq_true rfl) e1 e2 dX9_count_102
                      · have h := br_n c17 h
                        by_cases c22 : v1 = 10
                        · have h := br_y c22 h
                          refine g_tswI (pc := 22) X 10 (tgt := 103) dX9_count_22 c22 (by decide) (by decide) rfl rfl ?_
                          refine g_aload_n (pc := 103) X 0 rfl dX9_count_103 ?_
                          obtain ⟨k23, h⟩ := gd_i h
                          refine g_getI (pc := 104) X FcX9 k23 34 (by decide) rfl q_1054 dX9_count_104 ?_
                          obtain ⟨e1, e2⟩ := rt_i h
                          exact g_iret (pc := 107) X Y.2.2.1 (Nat.le_of_ble_eq_true rfl) (Nat.le_of_ble_eq_true rfl) e1 e2 dX9_count_107
                        · have h := br_n c22 h
                          by_cases c24 : v1 = 11
                          · have h := br_y c24 h
                            refine g_tswI (pc := 22) X 11 (tgt := 108) dX9_count_22 c24 (by decide) (by decide) rfl rfl ?_
                            refine g_aload_n (pc := 108) X 0 rfl dX9_count_108 ?_
                            obtain ⟨k25, h⟩ := gd_i h
                            refine g_getI (pc := 109) X FcX9 k25 8 (by decide) rfl q_1028 dX9_count_109 ?_
                            obtain ⟨e1, e2⟩ := rt_i h
                            exact g_iret (pc := 112) X Y.2.2.1 (Nat.le_of_ble_eq_true rfl) (Nat.le_of_ble_eq_true rfl) e1 e2 dX9_count_112
                          · have h := br_n c24 h
                            by_cases c26 : v1 = 12
                            · have h := br_y c26 h
                              refine g_tswI (pc := 22) X 12 (tgt := 113) dX9_count_22 c26 (by decide) (by decide) rfl rfl ?_
                              refine g_aload_n (pc := 113) X 0 rfl dX9_count_113 ?_
                              obtain ⟨k27, h⟩ := gd_i h
                              obtain ⟨a28, e29, h⟩ := bd1_i h
                              refine g_getR (pc := 114) X FcX9 k27 0 e29 (by decide) rfl q_1020 dX9_count_114 ?_
                              refine g_iconst (pc := 117) X (v := 0) dX9_count_117 rfl ?_
                              obtain ⟨k30, h⟩ := gd_i h
                              refine g_iald (pc := 118) X k30 dX9_count_118 ?_
                              obtain ⟨e1, e2⟩ := rt_i h
                              exact g_iret (pc := 119) X Y.2.2.1 (Nat.le_of_ble_eq_true rfl) (Nat.le_of_ble_eq_true rfl) e1 e2 dX9_count_119
                            · have h := br_n c26 h
                              refine g_tswO (pc := 22) X (tgt := 120) dX9_count_22 (by have n0 : Int32.toInt v1 ≠ 0 := nt_ c4; have n1 : Int32.toInt v1 ≠ 1 := nt_ c9; have n2 : Int32.toInt v1 ≠ 2 := nt_ c10; have n3 : Int32.toInt v1 ≠ 3 := nt_ c11; have n4 : Int32.toInt v1 ≠ 4 := nt_ c12; have n5 : Int32.toInt v1 ≠ 5 := nt_ c13; have n6 : Int32.toInt v1 ≠ 6 := nt_ c14; have n7 : Int32.toInt v1 ≠ 7 := nt_ c15; have n8 : Int32.toInt v1 ≠ 8 := nt_ c16; have n9 : Int32.toInt v1 ≠ 9 := nt_ c17; have n10 : Int32.toInt v1 ≠ 10 := nt_ c22; have n11 : Int32.toInt v1 ≠ 11 := nt_ c24; have n12 : Int32.toInt v1 ≠ 12 := nt_ c26; omega) rfl ?_
                              refine g_ldc (pc := 120) X q_1135 dX9_count_120 ?_
                              obtain ⟨e1, e2⟩ := rt_i h
                              exact g_iret (pc := 122) X Y.2.2.1 (Nat.le_of_ble_eq_true rfl) (Nat.le_of_ble_eq_true rfl) e1 e2 dX9_count_122
  · have h := br_n c h
    refine g_aload_n (pc := 10) X 0 rfl dX9_count_10 ?_
    obtain ⟨k31, h⟩ := gd_i h
    obtain ⟨a32, e33, h⟩ := bd1_i h
    refine g_getR (pc := 11) X FcX9 k31 0 e33 (by decide) rfl q_1020 dX9_count_11 ?_
    refine g_iconst (pc := 14) X (v := 2) dX9_count_14 rfl ?_
    refine g_iload_n (pc := 15) X 1 rfl dX9_count_15 ?_
    refine g_iadd (pc := 16) X dX9_count_16 ?_
    refine g_iconst (pc := 17) X (v := 1) dX9_count_17 rfl ?_
    refine g_isub (pc := 18) X dX9_count_18 ?_
    obtain ⟨k34, h⟩ := gd_i h
    refine g_iald (pc := 19) X k34 dX9_count_19 ?_
    obtain ⟨e1, e2⟩ := rt_i h
    exact g_iret (pc := 20) X Y.2.2.1 (Nat.le_of_ble_eq_true rfl) (Nat.le_of_ble_eq_true rfl) e1 e2 dX9_count_20

